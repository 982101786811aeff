/-! bear, tire, topple -/
theorem half_nI {w l : Nat} (hw : w < 1000) (hl : l < 1000000) : ((8 * nI w) + nI l) / 2 = nI ((8 * w + l) / 2) := by
  rw [show (8 : Int32) = nI 8 from rfl, show (2 : Int32) = nI 2 from rfl, pk_mul, nI_add, pk_div (by omega) (by omega) (by omega)]
theorem tiV_nI {s l : Nat} (hs : s < 3) (hl : l < 1000000) : tiV (nI s) (nI l) = nI (tiN s l) := by
  unfold tiV tiN
  rw [show (8 : Int32) = nI 8 from rfl, pk_div (by omega) (by omega) (by omega)]
  have e1 : nI s = 1 ↔ s = 1 := by rw [show (1 : Int32) = nI 1 from rfl, nI_inj (by omega) (by omega)]
  have e2 : nI s = 2 ↔ s = 2 := by rw [show (2 : Int32) = nI 2 from rfl, nI_inj (by omega) (by omega)]
  have e3 : nI (l / 8) ≤ 0 ↔ l / 8 = 0 := by rw [show (0 : Int32) = nI 0 from rfl, nI_le' (by omega) (by omega)]; omega
  by_cases h1 : s = 1
  · rw [if_pos (e1.mpr h1), if_pos h1, nI_add1]
  · rw [if_neg (fun g => h1 (e1.mp g)), if_neg h1]
    by_cases h2 : s = 2
    · rw [if_pos (e2.mpr h2), if_pos h2]
      by_cases h3 : l / 8 = 0
      · rw [if_pos (e3.mpr h3), h3]; rfl
      · rw [if_neg (fun g => h3 (e3.mp g)), show (1 : Int32) = nI 1 from rfl, pk_sub (by omega)]
    · rw [if_neg (fun g => h2 (e2.mp g)), if_neg h2]
theorem hc_isW {T : TT} (hT : TW T) (p : Nat) : isW (hcI T p) (nI (tn T)) = (match hdO T p with | some _ => 1 | none => 0) := by
  have hn := hT.1
  unfold hcI
  cases h : hdO T p with
  | none => exact isW_m1 _
  | some a => simp only; rw [isW_nI (by have := (hdO_some h).1; omega) (by omega), if_pos (hdO_some h).1]
theorem ct_bear (scr : ScA) {k q : Nat} (hk : isSw k) (hq : isTr q) (σ : Sg) {T : TT} (hT : TW T) (hC : TrC σ q T) {b : Nat} (hb : b < 1024) (h6 : σ k 6 = nI b) : CvA scr 1 mX5_bear [.ref k, .ref q] σ (fun σ' => ∃ f, σ' = sr σ (k + 5) f ∧ ∀ p, p < 10 → f p = nI (ldF T b p)) := by
  obtain ⟨-, -, -, -, h5⟩ := sw_ar hk
  have hn := hT.1
  refine E_X5_bear (W_X5_bear_0 hk hq ((ct_fill scr 0 σ h5 (by decide)).weak fun s1 e1 => W_X5_bear_8 hk hq ?_))
  have key : ∀ (i j : Nat) (f : Nat → Int32), i + j = 6 → (∀ p, p < 10 → f p = nI (ldS T b j p)) → K_X5_bear_11 scr k q (nI (9 - j)) (sr σ (k + 5) f) (fun σ' => ∃ f, σ' = sr σ (k + 5) f ∧ ∀ p, p < 10 → f p = nI (ldF T b p)) := by
    intro i
    induction i with
    | zero =>
      intro j f hj hf
      have : j = 6 := by omega
      subst this
      exact W_X5_bear_11 hk hq ⟨fun _ => ⟨f, rfl, hf⟩, fun h => absurd (by decide) h⟩
    | succ i ih =>
      intro j f hj hf
      generalize hs : sr σ (k + 5) f = s
      have hqn : ∀ x y, x ≤ 6 → s (q + x) y = σ (q + x) y := fun x y hx => by rw [← hs]; exact sr_ne _ _ _ (swtr hk hq (i := 5) (j := x) (by omega) hx)
      have hq0 : s q 6 = nI (tn T) := by have := hqn 0 6 (by omega); rw [Nat.add_zero] at this; rw [this]; exact hC.1
      have r6 : s k 6 = nI b := by rw [← hs, sr_ne _ _ _ (by omega)]; exact h6
      have rh : s (q + 6) (Int32.toNatClampNeg (nI (9 - j))) = hcI T (9 - j) := by rw [tN_nI (by omega), hqn 6 _ (by omega), hC.2.2 _ (by omega)]
      have hdec : nI (9 - j) + (-1) = nI (9 - (j + 1)) := by
        rw [show 9 - j = (9 - (j + 1)) + 1 by omega, pk_m1]
      have hskip : (∀ p, ldS T b (j + 1) p = ldS T b j p) → K_X5_bear_11 scr k q (nI (9 - j) + (-1)) s (fun σ' => ∃ f, σ' = sr σ (k + 5) f ∧ ∀ p, p < 10 → f p = nI (ldF T b p)) := fun e => by
        rw [hdec, ← hs]
        exact ih (j + 1) f (by omega) (fun p hp => by rw [e p]; exact hf p hp)
      refine W_X5_bear_11 hk hq ⟨fun h => ?_, fun _ => ⟨inB_nI (by omega) (by omega), fun h => hskip ?_, fun h => ⟨fun hw => hskip ?_, fun hw => ?_⟩⟩⟩
      · rw [show (4 : Int32) = nI 4 from rfl, nI_lt' (by omega) (by omega)] at h
        omega
      · rw [r6, hbV_0 (by omega) (by omega)] at h
        intro p
        unfold ldS
        cases hdO T (9 - j) with
        | none => cases j <;> rfl
        | some a => simp only [h]; cases j <;> rfl
      · rw [rh, hq0, hc_isW hT] at hw
        intro p
        unfold ldS
        cases ha : hdO T (9 - j) with
        | none => cases j <;> rfl
        | some a => rw [ha] at hw; exact absurd (show (1 : Int32) = 0 from hw) (by decide)
      · rw [r6, hbV_0 (by omega) (by omega)] at h
        have hbit : b.testBit (9 - j) = true := by cases hx : b.testBit (9 - j) with | true => rfl | false => exact absurd hx h
        rw [rh, hq0, hc_isW hT] at hw
        cases ha : hdO T (9 - j) with
        | none => rw [ha] at hw; exact absurd rfl hw
        | some a =>
          obtain ⟨ha1, ha2⟩ := hdO_some ha
          have hcI' : hcI T (9 - j) = nI a := by unfold hcI; rw [ha]
          have hlb : lbN (9 - j) < 8 := lb_lt _ (by omega)
          have hlb2 : lbN (9 - j) + 1 < 9 - j := by
            have : ∀ j, j < 6 → lbN (9 - j) + 1 < 9 - j := by decide
            exact this j (by omega)
          have hwe := (hT.2.1 a ha1).2.2.1
          have hl5 : ∀ p, ldS T b j p < 100000 := fun p => by
            have h1 := ldS_le hT b j p
            have h2 : 2 ^ j ≤ 2 ^ 6 := Nat.pow_le_pow_right (by decide) (by omega)
            have h3 : (2 : Nat) ^ 6 = 64 := by decide
            omega
          have rt : tbV scr 0 (Int32.toNatClampNeg (nI (9 - j))) = nI (lbN (9 - j)) := by rw [tN_nI (by omega), tb0 scr (by omega)]
          have rw2 : s (q + 2) (Int32.toNatClampNeg (s (q + 6) (Int32.toNatClampNeg (nI (9 - j))))) = nI (twe T a) := by
            rw [rh, hcI', tN_nI (by omega), hqn 2 _ (by omega)]
            exact (hC.2.1 a ha1).2.1
          have r5 : s (k + 5) (Int32.toNatClampNeg (nI (9 - j))) = nI (ldS T b j (9 - j)) := by rw [tN_nI (by omega), ← hs, sr_at]; exact hf _ (by omega)
          refine ⟨?_, ?_, fun σ1 e1 => ⟨?_, fun σ2 e2 => ?_⟩⟩
          · rw [rh, hcI']; exact inB_nI (by omega) (by omega)
          · rw [rt]; exact inB_nI (by omega) (by omega)
          · rw [rt, nI_add1]; exact inB_nI (by omega) (by omega)
          · rw [rt, rw2, r5, half_nI (by omega) (by have := hl5 (9 - j); omega), tN_nI (by omega), ← hs, sr_at, hf _ (by omega), nI_add, su_sr] at e1
            have hl9 := hl5 (9 - j)
            rw [rt, rw2, r5, half_nI (by omega) (by omega), nI_add1, tN_nI (by omega), e1, sr_at, upd_ne _ _ (by omega), hf _ (by omega), nI_add, su_sr] at e2
            rw [e2, hdec]
            refine ih (j + 1) _ (by omega) (fun p hp => ?_)
            have e9 : ldS T b (j + 1) p = if p = lbN (9 - j) ∨ p = lbN (9 - j) + 1 then ldS T b j p + (8 * twe T a + ldS T b j (9 - j)) / 2 else ldS T b j p := by
              show (match hdO T (9 - j) with
                | none => ldS T b j
                | some a => if b.testBit (9 - j) = true then fun p => if p = lbN (9 - j) ∨ p = lbN (9 - j) + 1 then ldS T b j p + (8 * twe T a + ldS T b j (9 - j)) / 2 else ldS T b j p else ldS T b j) p = _
              rw [ha]
              simp only [hbit, if_true]
            rw [e9]
            by_cases g1 : p = lbN (9 - j) + 1
            · subst g1
              rw [upd_eq, if_pos (Or.inr rfl)]
            · rw [upd_ne _ _ g1]
              by_cases g2 : p = lbN (9 - j)
              · subst g2
                rw [upd_eq, if_pos (Or.inl rfl)]
              · rw [upd_ne _ _ g2, if_neg (by omega)]
                exact hf p hp
  have h0 := key 6 0 (fun p => if p < 10 then 0 else σ (k + 5) p) (by omega) (fun p hp => by rw [if_pos hp]; rfl)
  rw [e1]
  exact h0
theorem ct_tire (scr : ScA) {k q : Nat} (hk : isSw k) (hq : isTr q) (σ : Sg) {T : TT} (hT : TW T) (hC : TrC σ q T) {b : Nat} (hb : b < 1024) (h6 : σ k 6 = nI b) (ld ti : Nat → Nat) (hld : ∀ p, p < 10 → σ (k + 5) p = nI (ld p) ∧ ld p < 100000) (hti : ∀ a, a < tn T → σ (k + 2) a = nI (ti a) ∧ ti a < 100000) : CiA scr 1 mX5_tire [.ref k, .ref q] σ (fun r σ' => r = nI (gvB T b ld ti (tn T)) ∧ ∃ f, σ' = sr σ (k + 2) f ∧ ∀ a, a < tn T → f a = nI (trT T b ld ti a)) := by
  refine E_X5_tire (W_X5_tire_0 hk hq ?_)
  have hn := hT.1
  have key : ∀ (j i : Nat) (f : Nat → Int32), i + j = tn T → (∀ a, a < i → f a = nI (trT T b ld ti a)) → (∀ a, i ≤ a → a < tn T → f a = nI (ti a)) → K_X5_tire_4 scr k q (nI (gvB T b ld ti i)) (nI i) (sr σ (k + 2) f) (fun r σ' => r = nI (gvB T b ld ti (tn T)) ∧ ∃ f, σ' = sr σ (k + 2) f ∧ ∀ a, a < tn T → f a = nI (trT T b ld ti a)) := by
    intro j
    induction j with
    | zero =>
      intro i f hi h1 h2
      have e : sr σ (k + 2) f q 6 = nI (tn T) := by
        rw [sr_ne _ _ _ (by have := swtr hk hq (i := 2) (j := 0) (by omega) (by omega); omega)]
        exact hC.1
      have : i = tn T := by omega
      subst this
      refine W_X5_tire_4 hk hq ⟨fun _ => ⟨rfl, f, rfl, fun a ha => h1 a ha⟩, fun h => absurd ?_ h⟩
      rw [e]
      exact Int32.le_refl _
    | succ j ih =>
      intro i f hi h1 h2
      generalize hs : sr σ (k + 2) f = s
      have hqn : ∀ x y, x ≤ 6 → s (q + x) y = σ (q + x) y := fun x y hx => by rw [← hs]; exact sr_ne _ _ _ (swtr hk hq (i := 2) (j := x) (by omega) hx)
      have hq0 : s q 6 = nI (tn T) := by have := hqn 0 6 (by omega); rw [Nat.add_zero] at this; rw [this]; exact hC.1
      obtain ⟨c1, c2, c3, c4, c5⟩ := hC.2.1 i (by omega)
      obtain ⟨b1, -, -, b4, b5, -, hp⟩ := hT.2.1 i (by omega)
      have ti1 : (nI i).toNatClampNeg = i := tN_nI (by omega)
      have r5 : s (q + 5) i = nI (tpl T i) := by rw [hqn 5 i (by omega), c5]
      have r6 : s k 6 = nI b := by rw [← hs, sr_ne _ _ _ (by omega)]; exact h6
      have hgl := gvB_lt hT b ld ti i (by omega)
      have hskip : b.testBit (tpl T i) = false → K_X5_tire_4 scr k q (nI (gvB T b ld ti i)) (nI i + 1) s (fun r σ' => r = nI (gvB T b ld ti (tn T)) ∧ ∃ f, σ' = sr σ (k + 2) f ∧ ∀ a, a < tn T → f a = nI (trT T b ld ti a)) := fun hb0 => by
        have e : gvB T b ld ti (i + 1) = gvB T b ld ti i := by rw [gvB, if_neg (by rw [hb0]; simp)]
        rw [nI_add1, ← hs, ← e]
        refine ih (i + 1) f (by omega) (fun a ha => ?_) (fun a ha1 ha2 => h2 a (by omega) ha2)
        rcases Nat.lt_or_ge a i with g | g
        · exact h1 a g
        · rw [show a = i by omega, h2 i (Nat.le_refl _) (by omega), trT, if_neg (by rw [hb0]; decide)]
      refine W_X5_tire_4 hk hq ⟨fun h => ?_, fun _ => ⟨inB_nI (by omega) (by omega), fun hw => ?_, fun _ => ⟨fun h => ⟨?_, fun σ1 e1 => ?_⟩, fun h => hskip ?_⟩⟩⟩
      · rw [hq0, nI_le' (by omega) (by omega)] at h
        omega
      · rw [ti1, r5, show (10 : Int32) = nI 10 from rfl, isW_nI (by omega) (by omega), if_pos hp] at hw
        exact absurd hw (by decide)
      · rw [ti1, r5]; exact inB_nI hp (by omega)
      · rw [ti1, r5, r6, hbV_0 (by omega) (by omega)] at h
        have hbit : b.testBit (tpl T i) = true := by cases hx : b.testBit (tpl T i) with | true => rfl | false => exact absurd hx h
        obtain ⟨d1, d2⟩ := hld _ hp
        have rl : s (k + 5) (Int32.toNatClampNeg (nI (tpl T i))) = nI (ld (tpl T i)) := by rw [tN_nI (by omega), ← hs, sr_ne _ _ _ (by omega)]; exact d1
        have rs : s (q + 1) i = nI (tso T i) := by rw [hqn 1 i (by omega), c1]
        have htil := (hti i (by omega)).2
        have htn : tiN (tso T i) (ld (tpl T i)) < 100000 := by unfold tiN; split; omega; split <;> omega
        have etr : trT T b ld ti i = ti i + tiN (tso T i) (ld (tpl T i)) := by rw [trT, if_pos hbit]
        rw [ti1, r5, rl, rs, tiV_nI b1 (by omega), ← hs, sr_at, h2 i (Nat.le_refl _) (by omega), nI_add, su_sr, ← etr] at e1
        have v3 : σ1 (q + 3) (Int32.toNatClampNeg (nI i)) = nI (tst T i) := by rw [ti1, e1, sr_ne _ _ _ (swtr hk hq (i := 2) (j := 3) (by omega) (by omega)), c3]
        have v2 : σ1 (k + 2) (Int32.toNatClampNeg (nI i)) = nI (trT T b ld ti i) := by rw [ti1, e1, sr_at, upd_eq]
        have v5 : σ1 (k + 5) (Int32.toNatClampNeg (s (q + 5) (Int32.toNatClampNeg (nI i)))) = nI (ld (tpl T i)) := by rw [ti1, r5, tN_nI (by omega), e1, sr_ne _ _ _ (by omega)]; exact d1
        rw [v3, v2, v5, ti1, r5, shl1 (by omega), or_nI]
        have q1 : 4 * nI (tst T i) < nI (trT T b ld ti i) ↔ 4 * tst T i < trT T b ld ti i := by rw [show (4 : Int32) = nI 4 from rfl, pk_mul, nI_lt' (by omega) (by omega)]
        have q2 : nI (ld (tpl T i)) ≤ 16 * nI (tst T i) ↔ ld (tpl T i) ≤ 16 * tst T i := by rw [show (16 : Int32) = nI 16 from rfl, pk_mul, nI_le' (by omega) (by omega)]
        have e2 : (if 4 * nI (tst T i) < nI (trT T b ld ti i) then nI (gvB T b ld ti i ||| 2 ^ (tpl T i)) else (if nI (ld (tpl T i)) ≤ 16 * nI (tst T i) then nI (gvB T b ld ti i) else nI (gvB T b ld ti i ||| 2 ^ (tpl T i)) : Int32) : Int32) = nI (gvB T b ld ti (i + 1)) := by
          show _ = nI (if b.testBit (tpl T i) = true ∧ (4 * tst T i < trT T b ld ti i ∨ 16 * tst T i < ld (tpl T i)) then gvB T b ld ti i ||| 2 ^ (tpl T i) else gvB T b ld ti i)
          by_cases g1 : 4 * tst T i < trT T b ld ti i
          · rw [if_pos (q1.mpr g1), if_pos ⟨hbit, Or.inl g1⟩]
          · rw [if_neg (fun g => g1 (q1.mp g))]
            by_cases g2 : ld (tpl T i) ≤ 16 * tst T i
            · rw [if_pos (q2.mpr g2), if_neg (fun g => by rcases g.2 with g | g <;> omega)]
            · rw [if_neg (fun g => g2 (q2.mp g)), if_pos ⟨hbit, Or.inr (by omega)⟩]
        rw [e2, nI_add1, e1]
        refine ih (i + 1) _ (by omega) (fun a ha => ?_) (fun a ha1 ha2 => ?_)
        · rcases Nat.lt_or_ge a i with g | g
          · rw [upd_ne _ _ (by omega)]; exact h1 a g
          · rw [show a = i by omega, upd_eq]
        · rw [upd_ne _ _ (by omega)]; exact h2 a (by omega) ha2
      · rw [ti1, r5, r6, hbV_0 (by omega) (by omega)] at h
        exact h
  have h0 := key (tn T) 0 (σ (k + 2)) (by omega) (fun a ha => by omega) (fun a _ ha => (hti a ha).1)
  rw [sr_id] at h0
  exact h0
