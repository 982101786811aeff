/-! the reference reads all -/
theorem gd_spec {by' : Nat → Nat} {len n : Nat} : gdN by' len n ≤ 5 ∧ (∀ p, p < gdN by' len n → okN by' len n p = true) ∧ (gdN by' len n < 5 → okN by' len n (gdN by' len n) = false) := by
  unfold gdN
  by_cases p0 : okN by' len n 0 = true
  · rw [if_pos p0]
    by_cases p1 : okN by' len n 1 = true
    · rw [if_pos p1]
      by_cases p2 : okN by' len n 2 = true
      · rw [if_pos p2]
        by_cases p3 : okN by' len n 3 = true
        · rw [if_pos p3]
          by_cases p4 : okN by' len n 4 = true
          · rw [if_pos p4]
            refine ⟨by omega, fun p hp => ?_, fun h => by omega⟩
            rcases (by omega : p = 0 ∨ p = 1 ∨ p = 2 ∨ p = 3 ∨ p = 4) with rfl | rfl | rfl | rfl | rfl <;> assumption
          · rw [if_neg p4]
            refine ⟨by omega, fun p hp => ?_, fun h => by simpa using p4⟩
            rcases (by omega : p = 0 ∨ p = 1 ∨ p = 2 ∨ p = 3) with rfl | rfl | rfl | rfl <;> assumption
        · rw [if_neg p3]
          refine ⟨by omega, fun p hp => ?_, fun h => by simpa using p3⟩
          rcases (by omega : p = 0 ∨ p = 1 ∨ p = 2) with rfl | rfl | rfl <;> assumption
      · rw [if_neg p2]
        refine ⟨by omega, fun p hp => ?_, fun h => by simpa using p2⟩
        rcases (by omega : p = 0 ∨ p = 1) with rfl | rfl <;> assumption
    · rw [if_neg p1]
      refine ⟨by omega, fun p hp => ?_, fun h => by simpa using p1⟩
      rw [show p = 0 by omega]; assumption
  · rw [if_neg p0]
    exact ⟨by omega, fun p hp => by omega, fun h => by simpa using p0⟩
theorem okN_t {by' : Nat → Nat} {len n p : Nat} (hp : p < 6) (h : okN by' len n p = true) : 6 * n + p < len ∧ gp by' (6 * n + p) = true := by
  unfold okN at h
  obtain ⟨h1, h2⟩ := Bool.and_eq_true_iff.mp h
  exact ⟨by simpa using h1, by rw [gp_at by' n hp]; exact h2⟩
theorem okN_f {by' : Nat → Nat} {len n p : Nat} (hp : p < 6) (hl : 6 * n + p < len) (h : okN by' len n p = false) : gp by' (6 * n + p) = false := by
  unfold okN at h
  rw [gp_at by' n hp]
  simpa [hl] using h
theorem ct_faultOf (scr : ScA) (σ : Sg) {by' : Nat → Nat} {len : Nat} (h : TxM σ by' len) (hl : len ≤ 59) (hb : ∀ i, i < len → by' i < 256) : CiA scr 3 mX11_faultOf [.ref 136] σ (fun r σ' => r = fauI by' len ∧ MT σ' (TX by' len) ∧ ∀ a c, ¬ (138 ≤ a ∧ a ≤ 142) → ¬ (a = 136 ∧ c = 2) → σ' a c = σ a c) := by
  refine E_X11_faultOf (W_X11_faultOf_0 fun s0 d0 => ?_)
  have mt0 : ∀ s : Sg, s 136 2 = 0 → ∀ j, fau by' len = some j → MT s (TX by' len) := fun s hs j e => by
    unfold TX
    rw [e]
    exact ⟨hs, fun a ha => absurd ha (by show ¬ a < 0; omega)⟩
  have key : ∀ (f n : Nat) (s : Sg), n + f = 10 → 6 * n ≤ len → (∀ i, i < 6 * n → gp by' i = true) → s 136 2 = 0 → (∀ a, a < n → s 138 a = nI (so3 (by' (6 * a))) ∧ s 139 a = nI (by' (6 * a + 1) - 48) ∧ s 140 a = nI (by' (6 * a + 2) - 48) ∧ s 141 a = nI (by' (6 * a + 3) - 97) ∧ s 142 a = nI (by' (6 * a + 4) - 48)) → (∀ a c, ¬ (138 ≤ a ∧ a ≤ 142) → ¬ (a = 136 ∧ c = 2) → s a c = σ a c) → K_X11_faultOf_9 scr (nI n) (nI (6 * n)) s (fun r σ' => r = fauI by' len ∧ MT σ' (TX by' len) ∧ ∀ a c, ¬ (138 ≤ a ∧ a ≤ 142) → ¬ (a = 136 ∧ c = 2) → σ' a c = σ a c) := by
    intro f
    induction f with
    | zero =>
      intro n s hn h6
      omega
    | succ f ih =>
      intro n s hn h6 hg hs2 hrow hf
      have hT : TxM s by' len := ⟨by rw [hf 136 0 (by omega) (by omega)]; exact h.1, fun i hi => by rw [hf 137 i (by omega) (by omega)]; exact h.2 i hi⟩
      have hW : TW (TB by' n) := TB_W (by omega) fun i hi => hg i (by omega)
      have one : (6 * n < len ∨ 0 < n) → CiA scr 2 mX11_readsOne [.ref 136, .int (nI n), .int (nI (6 * n))] s (fun r9 σ' => K_X11_faultOf_27 scr (nI n) (nI (6 * n)) r9 σ' (fun r σ' => r = fauI by' len ∧ MT σ' (TX by' len) ∧ ∀ a c, ¬ (138 ≤ a ∧ a ≤ 142) → ¬ (a = 136 ∧ c = 2) → σ' a c = σ a c)) := fun hne => by
        refine (ct_readsOne scr s hT hl hb (by omega) (fun a ha => (hrow a ha).2.2.2.2) (fun a ha => (hW.2.1 a ha).2.2.2.2.2.2)).weak fun r s1 ⟨er, w1, f1⟩ => ?_
        obtain ⟨g5, gt, gf⟩ := gd_spec (by' := by') (len := len) (n := n)
        have z2 : s1 136 2 = 0 := by rw [f1 136 2 (by omega)]; exact hs2
        have hf1 : ∀ a c, ¬ (138 ≤ a ∧ a ≤ 142) → ¬ (a = 136 ∧ c = 2) → s1 a c = σ a c := fun a c q1 q2 => by rw [f1 a c (by omega)]; exact hf a c q1 q2
        have T1 : TxM s1 by' len := ⟨by rw [hf1 136 0 (by omega) (by omega)]; exact h.1, fun i hi => by rw [hf1 137 i (by omega) (by omega)]; exact h.2 i hi⟩
        generalize hgd : gdN by' len n = g at er w1 g5 gt gf
        have good : ∀ i, i < 6 * n + g → gp by' i = true := fun i hi => by
          rcases Nat.lt_or_ge i (6 * n) with q | q
          · exact hg i q
          · have := (okN_t (p := i - 6 * n) (by omega) (gt _ (by omega))).2
            rw [show 6 * n + (i - 6 * n) = i by omega] at this
            exact this
        have lge : 0 < g → 6 * n + g ≤ len := fun q => by
          have := (okN_t (p := g - 1) (by omega) (gt _ (by omega))).1
          omega
        have a5 : nI (6 * n) + 5 = nI (6 * n + 5) := by rw [show (5 : Int32) = nI 5 from rfl, nI_add]
        refine W_X11_faultOf_27 ?_
        rw [er, a5, T1.1, show (5 : Int32) = nI 5 from rfl, nI_le' (by omega) (by omega), nI_inj (by omega) (by omega), nI_add, nI_add1, nI_add1]
        refine ⟨fun q => ?_, fun q => ?_⟩
        · have hg5 : g = 5 := by omega
          have hrow1 : ∀ a, a < n + 1 → s1 138 a = nI (so3 (by' (6 * a))) ∧ s1 139 a = nI (by' (6 * a + 1) - 48) ∧ s1 140 a = nI (by' (6 * a + 2) - 48) ∧ s1 141 a = nI (by' (6 * a + 3) - 97) ∧ s1 142 a = nI (by' (6 * a + 4) - 48) := fun a ha => by
            by_cases y : a = n
            · rw [y]; exact w1 hg5
            · rw [f1 138 a (by omega), f1 139 a (by omega), f1 140 a (by omega), f1 141 a (by omega), f1 142 a (by omega)]
              exact hrow a (by omega)
          have hle := lge (by omega)
          refine ⟨fun y => ⟨fun _ => inB_nI (by omega) (by decide), ?_⟩, fun y s2 d2 => ?_⟩
          · have hlt : 6 * n + 5 < len := by omega
            rw [by_at T1 hl (by omega), if_pos hlt, show (59 : Int32) = nI 59 from rfl, nI_inj (by have := hb _ hlt; omega) (by omega)]
            have eg : gp by' (6 * n + 5) = decide (by' (6 * n + 5) = 59) := gp_at by' n (by omega)
            refine ⟨fun x => ?_, fun x => ?_⟩
            · refine ih (n + 1) s1 (by omega) (by omega) (fun i hi => ?_) z2 hrow1 hf1
              rcases Nat.lt_or_ge i (6 * n + 5) with w | w
              · exact good i (by omega)
              · rw [show i = 6 * n + 5 by omega, eg]
                simp [x]
            · have ef : fau by' len = some (6 * n + 5) := by
                unfold fau
                rw [ffl_at (fun i hi => good i (by omega)) (by rw [eg]; simp [x]) hlt]
              refine ⟨?_, mt0 s1 z2 _ ef, hf1⟩
              unfold fauI
              rw [ef]
          · have hlen : len = 6 * n + 5 := y.symm
            have ef : fau by' len = none := by
              unfold fau
              rw [ffl_of (fun i hi => good i (by omega))]
              exact if_pos (Or.inr (by omega))
            refine ⟨?_, ?_, fun a c q1 q2 => by rw [d2, frS a c q2]; exact hf1 a c q1 q2⟩
            · unfold fauI
              rw [ef]
            · unfold TX
              rw [ef]
              show MT s2 (TB by' ((len + 1) / 6))
              rw [show (len + 1) / 6 = n + 1 by omega]
              refine ⟨by rw [d2, su_eq]; rfl, fun a ha => ?_⟩
              rw [d2, su_off _ _ _ _ (by omega), su_off _ _ _ _ (by omega), su_off _ _ _ _ (by omega), su_off _ _ _ _ (by omega), su_off _ _ _ _ (by omega)]
              exact hrow1 a ha
        · have hlt5 : g < 5 := by omega
          have ef : fau by' len = some (6 * n + g) := by
            unfold fau
            by_cases w : 6 * n + g < len
            · rw [ffl_at good (okN_f (by omega) w (gf hlt5)) w]
            · have hlen : len = 6 * n + g := by
                rcases Nat.eq_zero_or_pos g with y | y
                · omega
                · have := lge y
                  omega
              rw [ffl_of (fun i hi => good i (by omega))]
              show (if len = 0 ∨ len % 6 = 5 then none else some len) = _
              rw [if_neg (by omega), hlen]
          refine ⟨?_, mt0 s1 z2 _ ef, hf1⟩
          unfold fauI
          rw [ef]
      refine W_X11_faultOf_9 ?_
      rw [hT.1, nI_lt' (by omega) (by omega), show (0 : Int32) = nI 0 from rfl, nI_le' (by omega) (by omega)]
      refine ⟨fun q => one (Or.inl q), fun q => ⟨fun y => ?_, fun y => one (Or.inr (by omega))⟩⟩
      have hlen : len = 0 := by omega
      have ef : fau by' len = none := by
        unfold fau
        rw [hlen]
        rfl
      refine ⟨?_, ?_, hf⟩
      · unfold fauI
        rw [ef]
      · unfold TX
        rw [ef]
        show MT s (TB by' ((len + 1) / 6))
        rw [show (len + 1) / 6 = 0 by omega]
        exact ⟨hs2, fun a ha => absurd ha (by show ¬ a < 0; omega)⟩
  exact key 10 0 s0 (by omega) (by omega) (fun i hi => by omega) (by rw [d0, su_eq]) (fun a ha => by omega) (fun a c q1 q2 => by rw [d0, frS a c q2])
