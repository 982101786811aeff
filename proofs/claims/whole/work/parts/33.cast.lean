/-! the class's troupe and text -/
theorem tr_ar {k : Nat} (hk : isTr k) : isAr (k + 1) 10 ∧ isAr (k + 2) 10 ∧ isAr (k + 3) 10 ∧ isAr (k + 4) 10 ∧ isAr (k + 5) 10 ∧ isAr (k + 6) 10 := by
  rcases hk with rfl | rfl | rfl <;> exact ⟨⟨by decide, rfl⟩, ⟨by decide, rfl⟩, ⟨by decide, rfl⟩, ⟨by decide, rfl⟩, ⟨by decide, rfl⟩, ⟨by decide, rfl⟩⟩
theorem isW10 {a : Nat} (h : a < 10) : ¬ isW (nI a) 10 = 0 := by
  rw [show (10 : Int32) = nI 10 from rfl, isW_nI (by omega) (by omega), if_pos h]
  decide
theorem ct_dismiss (scr : ScA) {k : Nat} (hk : isTr k) (σ : Sg) : CvA scr 1 mX8_dismiss [.ref k] σ (fun σ' => σ' k 6 = 0 ∧ (∀ p, p < 10 → σ' (k + 6) p = -1) ∧ (∀ b, b ≠ 6 → σ' k b = σ k b) ∧ ∀ a, a ≠ k → a ≠ k + 6 → σ' a = σ a) := by
  refine E_X8_dismiss (W_X8_dismiss_0 hk fun s1 e1 => (ct_fill scr (-1) s1 (tr_ar hk).2.2.2.2.2 (by decide)).weak fun s2 e2 => W_X8_dismiss_13 hk ?_)
  subst e1 e2
  refine ⟨?_, fun p hp => ?_, fun b hb => ?_, fun a h1 h2 => ?_⟩
  · rw [sr_ne _ _ _ (by omega), su_eq]
  · rw [sr_at, if_pos hp]
  · rw [sr_ne _ _ _ (by omega), su_nc _ _ _ _ hb]
  · funext b
    rw [sr_ne _ _ _ h2, su_nr _ _ _ _ h1]
theorem ct_seat (scr : ScA) {k : Nat} (hk : isTr k) (σ : Sg) {a p : Nat} (ha : a < 10) (hp : p < 10) : CvA scr 1 mX8_seat [.ref k, .int (nI a), .int (nI p)] σ (fun σ' => σ' = su (su σ (k + 5) a (nI p)) (k + 6) p (nI a)) := by
  refine E_X8_seat (W_X8_seat_0 hk ⟨fun h => absurd h (isW10 ha), fun _ => ⟨fun h => absurd h (isW10 hp), fun _ => ⟨inB_nI ha (by decide), fun s1 e1 => ⟨inB_nI hp (by decide), fun s2 e2 => ?_⟩⟩⟩⟩)
  rw [e2, e1, tN_nI (by omega), tN_nI (by omega)]
theorem tk0 : ∀ b, b < 256 → (if nI b = 115 then 1 else (if nI b = 116 then 1 else (if ¬ nI b = 99 then 0 else 1 : Int32) : Int32) : Int32) = (if b = 115 ∨ b = 116 ∨ b = 99 then 1 else 0) := by decide +kernel
theorem tk0v : ∀ b, b < 256 → (if ¬ nI b = 115 then (if ¬ nI b = 116 then 2 else 1 : Int32) else 0 : Int32) = nI (so3 b) := by decide +kernel
theorem tk1 : ∀ b, b < 256 → (if nI b < 49 then 0 else (if 57 < nI b then 0 else 1 : Int32) : Int32) = (if 49 ≤ b ∧ b ≤ 57 then 1 else 0) := by decide +kernel
theorem tk3 : ∀ b, b < 256 → (if nI b < 97 then 0 else (if 120 < nI b then 0 else 1 : Int32) : Int32) = (if 97 ≤ b ∧ b ≤ 120 then 1 else 0) := by decide +kernel
theorem tk5 : ∀ b, b < 256 → (if ¬ nI b = 59 then 0 else 1 : Int32) = (if b = 59 then 1 else 0) := by decide +kernel
theorem tk4 : ∀ b, b < 256 → (isW (nI b - 48) 10 = 0 ↔ ¬ (48 ≤ b ∧ b ≤ 57)) := by decide +kernel
theorem b01 (c : Prop) [Decidable c] : ((if c then 1 else 0 : Int32) = 0 ∨ (if c then 1 else 0 : Int32) = 1) := by split <;> simp
/-- what the troupe holds when i bytes have been read -/
def CI (by' : Nat → Nat) (i : Nat) (s : Sg) : Prop := s 3 6 = nI ((i + 1) / 6) ∧ (∀ a, a < 10 → (6 * a < i → s 4 a = nI (so3 (by' (6 * a)))) ∧ (6 * a + 1 < i → s 5 a = nI (by' (6 * a + 1) - 48)) ∧ (6 * a + 2 < i → s 6 a = nI (by' (6 * a + 2) - 48)) ∧ (6 * a + 3 < i → s 7 a = nI (by' (6 * a + 3) - 97)) ∧ (6 * a + 4 < i → s 8 a = nI (by' (6 * a + 4) - 48))) ∧ ∀ p, p < 10 → s 9 p = hcI (TB by' ((i + 1) / 6)) p
theorem ct_takes (scr : ScA) (σ : Sg) {by' : Nat → Nat} {i : Nat} (hi : i < 59) (hb : by' i < 256) (hI : CI by' i σ) : CiA scr 3 mX7_takes [.ref 3, .int (nI (i / 6)), .int (nI (i % 6)), .int (nI (by' i))] σ (fun r σ' => r = (if gp by' i = true then 1 else 0) ∧ (gp by' i = true → CI by' (i + 1) σ') ∧ ∀ a, a < 3 ∨ 9 < a → σ' a = σ a) := by
  obtain ⟨a, p, hp, rfl⟩ : ∃ a p, p < 6 ∧ i = 6 * a + p := ⟨i / 6, i % 6, by omega, by omega⟩
  rw [gp_at by' a hp, show (6 * a + p) / 6 = a by omega, show (6 * a + p) % 6 = p by omega]
  generalize hbb : by' (6 * a + p) = b at hb
  obtain ⟨h6, hrow, hhol⟩ := hI
  have ha : a < 10 := by omega
  have ta : (nI a).toNatClampNeg = a := tN_nI (by omega)
  have ne : ∀ c, c < 6 → p ≠ c → ¬ nI p = nI c := fun c hc h z => h ((nI_inj (by omega) (by omega)).mp z)
  have other : ∀ (c : Nat) (v : Int32), c = 4 ∨ c = 5 ∨ c = 6 ∨ c = 7 → ∀ x, x < 3 ∨ 9 < x → su σ c a v x = σ x := fun c v hc x hx => su_off _ _ _ _ (by omega)
  refine E_X7_takes (W_X7_takes_0 ⟨fun _ => ⟨fun h0 => ⟨inB_nI ha (by decide), fun s e => ?_⟩, fun h0 => ⟨inB_nI ha (by decide), fun s e => ?_⟩, fun h0 => ⟨inB_nI ha (by decide), fun s e => ?_⟩, fun h0 => ⟨inB_nI ha (by decide), fun s e => ?_⟩, fun h0 => ?_, fun h0 h1 h2 h3 h4 => ?_⟩, fun h => absurd h (isW10 ha)⟩)
  · have hp0 : p = 0 := (nI_inj (b := 0) (by omega) (by omega)).mp h0
    subst hp0
    rw [ta, tk0v b hb] at e
    rw [tk0 b hb]
    subst e
    refine ⟨b01 _, ?_, fun hg => ⟨?_, fun x hx => ?_, fun q hq => ?_⟩, fun x hx => su_off _ _ _ _ (by omega)⟩
    · simp only [gpP, decide_eq_true_eq]
    · rw [su_nr _ _ _ _ (by omega), h6, show (6 * a + 0 + 1 + 1) / 6 = (6 * a + 0 + 1) / 6 by omega]
    · obtain ⟨r1, r2, r3, r4, r5⟩ := hrow x hx
      rw [su_nr _ _ _ _ (show 5 ≠ 4 by omega), su_nr _ _ _ _ (show 6 ≠ 4 by omega), su_nr _ _ _ _ (show 7 ≠ 4 by omega), su_nr _ _ _ _ (show 8 ≠ 4 by omega)]
      refine ⟨fun hx => ?_, fun hx => r2 (by omega), fun hx => r3 (by omega), fun hx => r4 (by omega), fun hx => r5 (by omega)⟩
      by_cases hxa : x = a
      · subst hxa
        rw [su_eq, show 6 * x = 6 * x + 0 by omega, hbb]
      · rw [su_nc _ _ _ _ hxa]
        exact r1 (by omega)
    · rw [su_nr _ _ _ _ (by omega), hhol q hq, show (6 * a + 0 + 1 + 1) / 6 = (6 * a + 0 + 1) / 6 by omega]
  · have hp0 : p = 1 := (nI_inj (b := 1) (by omega) (by omega)).mp h0
    subst hp0
    rw [tk1 b hb]
    have hgp : gpP by' a 1 b = true ↔ (49 ≤ b ∧ b ≤ 57) := by simp only [gpP, decide_eq_true_eq]
    rw [ta] at e
    subst e
    refine ⟨b01 _, ?_, fun hg => ⟨?_, fun x hx => ?_, fun q hq => ?_⟩, fun x hx => su_off _ _ _ _ (by omega)⟩
    · simp only [gpP, decide_eq_true_eq]
    · rw [su_nr _ _ _ _ (by omega), h6, show (6 * a + 1 + 1 + 1) / 6 = (6 * a + 1 + 1) / 6 by omega]
    · obtain ⟨r1, r2, r3, r4, r5⟩ := hrow x hx
      rw [su_nr _ _ _ _ (show 4 ≠ 5 by omega), su_nr _ _ _ _ (show 6 ≠ 5 by omega), su_nr _ _ _ _ (show 7 ≠ 5 by omega), su_nr _ _ _ _ (show 8 ≠ 5 by omega)]
      refine ⟨fun hx => r1 (by omega), fun hx => ?_, fun hx => r3 (by omega), fun hx => r4 (by omega), fun hx => r5 (by omega)⟩
      by_cases hxa : x = a
      · subst hxa
        have := hgp.mp hg
        rw [su_eq, hbb, show (48 : Int32) = nI 48 from rfl, pk_sub (by omega)]
      · rw [su_nc _ _ _ _ hxa]
        exact r2 (by omega)
    · rw [su_nr _ _ _ _ (by omega), hhol q hq, show (6 * a + 1 + 1 + 1) / 6 = (6 * a + 1 + 1) / 6 by omega]
  · have hp0 : p = 2 := (nI_inj (b := 2) (by omega) (by omega)).mp h0
    subst hp0
    rw [tk1 b hb]
    have hgp : gpP by' a 2 b = true ↔ (49 ≤ b ∧ b ≤ 57) := by simp only [gpP, decide_eq_true_eq]
    rw [ta] at e
    subst e
    refine ⟨b01 _, ?_, fun hg => ⟨?_, fun x hx => ?_, fun q hq => ?_⟩, fun x hx => su_off _ _ _ _ (by omega)⟩
    · simp only [gpP, decide_eq_true_eq]
    · rw [su_nr _ _ _ _ (by omega), h6, show (6 * a + 2 + 1 + 1) / 6 = (6 * a + 2 + 1) / 6 by omega]
    · obtain ⟨r1, r2, r3, r4, r5⟩ := hrow x hx
      rw [su_nr _ _ _ _ (show 4 ≠ 6 by omega), su_nr _ _ _ _ (show 5 ≠ 6 by omega), su_nr _ _ _ _ (show 7 ≠ 6 by omega), su_nr _ _ _ _ (show 8 ≠ 6 by omega)]
      refine ⟨fun hx => r1 (by omega), fun hx => r2 (by omega), fun hx => ?_, fun hx => r4 (by omega), fun hx => r5 (by omega)⟩
      by_cases hxa : x = a
      · subst hxa
        have := hgp.mp hg
        rw [su_eq, hbb, show (48 : Int32) = nI 48 from rfl, pk_sub (by omega)]
      · rw [su_nc _ _ _ _ hxa]
        exact r3 (by omega)
    · rw [su_nr _ _ _ _ (by omega), hhol q hq, show (6 * a + 2 + 1 + 1) / 6 = (6 * a + 2 + 1) / 6 by omega]
  · have hp0 : p = 3 := (nI_inj (b := 3) (by omega) (by omega)).mp h0
    subst hp0
    rw [tk3 b hb]
    have hgp : gpP by' a 3 b = true ↔ (97 ≤ b ∧ b ≤ 120) := by simp only [gpP, decide_eq_true_eq]
    rw [ta] at e
    subst e
    refine ⟨b01 _, ?_, fun hg => ⟨?_, fun x hx => ?_, fun q hq => ?_⟩, fun x hx => su_off _ _ _ _ (by omega)⟩
    · simp only [gpP, decide_eq_true_eq]
    · rw [su_nr _ _ _ _ (by omega), h6, show (6 * a + 3 + 1 + 1) / 6 = (6 * a + 3 + 1) / 6 by omega]
    · obtain ⟨r1, r2, r3, r4, r5⟩ := hrow x hx
      rw [su_nr _ _ _ _ (show 4 ≠ 7 by omega), su_nr _ _ _ _ (show 5 ≠ 7 by omega), su_nr _ _ _ _ (show 6 ≠ 7 by omega), su_nr _ _ _ _ (show 8 ≠ 7 by omega)]
      refine ⟨fun hx => r1 (by omega), fun hx => r2 (by omega), fun hx => r3 (by omega), fun hx => ?_, fun hx => r5 (by omega)⟩
      by_cases hxa : x = a
      · subst hxa
        have := hgp.mp hg
        rw [su_eq, hbb, show (97 : Int32) = nI 97 from rfl, pk_sub (by omega)]
      · rw [su_nc _ _ _ _ hxa]
        exact r4 (by omega)
    · rw [su_nr _ _ _ _ (by omega), hhol q hq, show (6 * a + 3 + 1 + 1) / 6 = (6 * a + 3 + 1) / 6 by omega]
  · have hp0 : p = 4 := (nI_inj (b := 4) (by omega) (by omega)).mp h0
    subst hp0
    have hgp : gpP by' a 4 b = true ↔ (48 ≤ b ∧ b ≤ 57) ∧ hdF (plB by') (b - 48) a = none := by simp only [gpP, Bool.and_eq_true, decide_eq_true_eq, Option.isNone_iff_eq_none]
    have n1 : (6 * a + 4 + 1) / 6 = a := by omega
    have n2 : (6 * a + 4 + 1 + 1) / 6 = a + 1 := by omega
    rw [n1] at h6 hhol
    refine E_X7_takesPlace (W_X7_takesPlace_0 ⟨fun h => ?_, fun h => ?_⟩)
    · have hnb := (tk4 b hb).mp h
      have hng : ¬ gpP by' a 4 b = true := fun z => hnb (hgp.mp z).1
      refine W_X7_takes_192 ⟨Or.inl rfl, ?_⟩
      rw [if_neg hng]
      exact ⟨rfl, fun z => absurd z hng, fun _ _ => rfl⟩
    · have hbr : 48 ≤ b ∧ b ≤ 57 := Decidable.not_not.mp fun z => h ((tk4 b hb).mpr z)
      have eb : nI b - 48 = nI (b - 48) := by rw [show (48 : Int32) = nI 48 from rfl, pk_sub (by omega)]
      rw [eb, tN_nI (by omega), hhol (b - 48) (by omega)]
      refine ⟨inB_nI (by omega) (by decide), fun h => ?_, fun h => ?_⟩
      · have hno : hdF (plB by') (b - 48) a = none := by
          unfold hcI at h
          cases hx : hdO (TB by' a) (b - 48) with
          | none => exact hx
          | some x =>
            rw [hx] at h
            have hxa : x < a := (hdO_some hx).1
            exact absurd h (nI_m1_ne (by omega))
        have hg : gpP by' a 4 b = true := hgp.mpr ⟨hbr, hno⟩
        refine (ct_seat scr (Or.inl rfl) σ ha (by omega)).weak fun s1 e1 => W_X7_takesPlace_27 fun s2 e2 => W_X7_takes_192 ⟨Or.inr rfl, ?_⟩
        rw [if_pos hg]
        rw [nI_add1] at e2
        subst e1 e2
        refine ⟨rfl, fun _ => ⟨?_, fun x hx => ?_, fun q hq => ?_⟩, fun x hx => ?_⟩
        · rw [su_eq, n2]
        · obtain ⟨r1, r2, r3, r4, r5⟩ := hrow x hx
          have g1 : ∀ c, c ≠ 3 → c ≠ 8 → c ≠ 9 → su (su (su σ (3 + 5) a (nI (b - 48))) (3 + 6) (b - 48) (nI a)) 3 6 (nI (a + 1)) c x = σ c x := fun c z1 z2 z3 => by
            rw [su_nr _ _ _ _ z1, su_nr _ _ _ _ (by omega), su_nr _ _ _ _ (by omega)]
          rw [g1 4 (by omega) (by omega) (by omega), g1 5 (by omega) (by omega) (by omega), g1 6 (by omega) (by omega) (by omega), g1 7 (by omega) (by omega) (by omega)]
          refine ⟨fun hx => r1 (by omega), fun hx => r2 (by omega), fun hx => r3 (by omega), fun hx => r4 (by omega), fun hx => ?_⟩
          rw [su_nr _ _ _ _ (by omega), su_nr _ _ _ _ (by omega)]
          by_cases hxa : x = a
          · subst hxa
            rw [su_eq, hbb]
          · rw [su_nc _ _ _ _ hxa]
            exact r5 (by omega)
        · rw [n2, su_nr _ _ _ _ (by omega)]
          have e9 : hdO (TB by' (a + 1)) q = (match hdO (TB by' a) q with | some x => some x | none => if plB by' a = q then some a else none) := rfl
          have hpl : plB by' a = b - 48 := by unfold plB; rw [hbb]
          by_cases hqb : q = b - 48
          · subst hqb
            rw [su_eq]
            unfold hcI
            rw [e9, show hdO (TB by' a) (b - 48) = none from hno]
            simp only [hpl, if_pos]
          · rw [su_nc _ _ _ _ hqb, su_nr _ _ _ _ (by omega), hhol q hq]
            unfold hcI
            rw [e9]
            cases hx : hdO (TB by' a) q with
            | some x => rfl
            | none => simp only [if_neg (show ¬ plB by' a = q by rw [hpl]; exact fun z => hqb z.symm)]
        · rw [su_off _ _ _ _ (by omega), su_off _ _ _ _ (by omega), su_off _ _ _ _ (by omega)]
      · have hng : ¬ gpP by' a 4 b = true := fun z => h (by
          unfold hcI
          rw [show hdO (TB by' a) (b - 48) = none from (hgp.mp z).2])
        refine W_X7_takes_192 ⟨Or.inl rfl, ?_⟩
        rw [if_neg hng]
        exact ⟨rfl, fun z => absurd z hng, fun _ _ => rfl⟩
  · have hp5 : p = 5 := by
      have z0 : p ≠ 0 := fun z => h0 (by rw [z]; rfl)
      have z1 : p ≠ 1 := fun z => h1 (by rw [z]; rfl)
      have z2 : p ≠ 2 := fun z => h2 (by rw [z]; rfl)
      have z3 : p ≠ 3 := fun z => h3 (by rw [z]; rfl)
      have z4 : p ≠ 4 := fun z => h4 (by rw [z]; rfl)
      omega
    subst hp5
    rw [tk5 b hb]
    refine ⟨b01 _, ?_, fun hg => ⟨?_, fun x hx => ?_, fun q hq => ?_⟩, fun x hx => rfl⟩
    · simp only [gpP, decide_eq_true_eq]
    · rw [h6, show (6 * a + 5 + 1 + 1) / 6 = (6 * a + 5 + 1) / 6 by omega]
    · obtain ⟨r1, r2, r3, r4, r5⟩ := hrow x hx
      exact ⟨fun hx => r1 (by omega), fun hx => r2 (by omega), fun hx => r3 (by omega), fun hx => r4 (by omega), fun hx => r5 (by omega)⟩
    · rw [hhol q hq, show (6 * a + 5 + 1 + 1) / 6 = (6 * a + 5 + 1) / 6 by omega]
