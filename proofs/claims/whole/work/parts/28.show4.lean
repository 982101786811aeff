/-! topple -/
theorem flL_bit {b x : Nat} (i : Nat) : flL b x (i + 1) = if b.testBit (4 + i) = true ∧ ¬ flL b x i &&& sup (4 + i) = 0 then flL b x i ||| 2 ^ (4 + i) else flL b x i := rfl
theorem ct_topple (scr : ScA) {k q : Nat} (hk : isSw k) (hq : isTr q) (σ : Sg) {T : TT} (hT : TW T) (hC : TrC σ q T) {S : SS} {M : Nat} (hM : M ≤ 100000) (hB : SB T M S) (hS : ShS σ k T S) {g m : Nat} (hg : g < 1024) (hm : m < 24) : CvA scr 1 mX5_topple [.ref k, .ref q, .int (nI g), .int (nI m)] σ (fun σ' => ShS σ' k T (toS T S g m) ∧ ∀ a b, ¬ (a = k ∧ (b = 6 ∨ b = 11 ∨ b = 12)) → a ≠ k + 2 → a ≠ k + 3 → a ≠ k + 4 → σ' a b = σ a b) := by
  obtain ⟨h6, hrow, h11, h12⟩ := hS
  obtain ⟨hb, hab, htot, hff⟩ := hB
  have hn := hT.1
  have hx0 : g &&& S.1 < 1024 := and_lt (n := 10) _ hg
  have e0 : nI g &&& σ k 6 = nI (g &&& S.1) := by rw [h6, and_nI]
  refine E_X5_topple (W_X5_topple_0 hk hq ?_)
  rw [e0]
  have z0 : nI (g &&& S.1) = 0 ↔ g &&& S.1 = 0 := by rw [show (0 : Int32) = nI 0 from rfl, nI_inj (by omega) (by omega)]
  refine ⟨fun h => ?_, fun h => ?_⟩
  · have hne : ¬ g &&& S.1 = 0 := fun q1 => h (z0.mpr q1)
    generalize hx : flN S.1 (g &&& S.1) = x
    have hxl : x < 1024 := by rw [← hx]; exact flL_lt hx0 6 (by omega)
    have eS : toS T S g m = (dif S.1 x, fun a => if x.testBit (tpl T a) = true then 0 else S.2.1 a, fun a => if x.testBit (tpl T a) = true then S.2.2.1 a + 1 else S.2.2.1 a, fun a => if x.testBit (tpl T a) = true then m + 3 else S.2.2.2.1 a, S.2.2.2.2.1 + pop x, if m < S.2.2.2.2.2 then m else S.2.2.2.2.2) := by
      unfold toS
      rw [if_neg hne, hx]
    rw [eS]
    -- the second loop
    have key2 : ∀ (σ3 : Sg), (∀ a b, ¬ (a = k ∧ (b = 6 ∨ b = 11 ∨ b = 12)) → σ3 a b = σ a b) → σ3 k 6 = nI (dif S.1 x) → σ3 k 11 = nI (S.2.2.2.2.1 + pop x) → σ3 k 12 = nI (if m < S.2.2.2.2.2 then m else S.2.2.2.2.2) → ∀ (j i : Nat) (s : Sg), i + j = tn T → (∀ a, a ≠ k + 2 → a ≠ k + 3 → a ≠ k + 4 → s a = σ3 a) → (∀ a, a < i → s (k + 2) a = nI (if x.testBit (tpl T a) = true then 0 else S.2.1 a) ∧ s (k + 3) a = nI (if x.testBit (tpl T a) = true then S.2.2.1 a + 1 else S.2.2.1 a) ∧ s (k + 4) a = lyI (if x.testBit (tpl T a) = true then m + 3 else S.2.2.2.1 a)) → (∀ a, i ≤ a → a < tn T → s (k + 2) a = nI (S.2.1 a) ∧ s (k + 3) a = nI (S.2.2.1 a) ∧ s (k + 4) a = lyI (S.2.2.2.1 a)) → K_X5_topple_105 scr k q (nI m) (nI x) (nI i) s (fun σ' => ShS σ' k T (dif S.1 x, fun a => if x.testBit (tpl T a) = true then 0 else S.2.1 a, fun a => if x.testBit (tpl T a) = true then S.2.2.1 a + 1 else S.2.2.1 a, fun a => if x.testBit (tpl T a) = true then m + 3 else S.2.2.2.1 a, S.2.2.2.2.1 + pop x, if m < S.2.2.2.2.2 then m else S.2.2.2.2.2) ∧ ∀ a b, ¬ (a = k ∧ (b = 6 ∨ b = 11 ∨ b = 12)) → a ≠ k + 2 → a ≠ k + 3 → a ≠ k + 4 → σ' a b = σ a b) := by
      intro σ3 f0 f6 f11 f12 j
      induction j with
      | zero =>
        intro i s hi hfr hdone hrest
        have hkk : s k = σ3 k := hfr k (by omega) (by omega) (by omega)
        have e : s q 6 = nI (tn T) := by
          have h1 := swtr hk hq (i := 2) (j := 0) (by omega) (by omega)
          have h2 := swtr hk hq (i := 3) (j := 0) (by omega) (by omega)
          have h3 := swtr hk hq (i := 4) (j := 0) (by omega) (by omega)
          have h4 := swtr hk hq (i := 0) (j := 0) (by omega) (by omega)
          rw [hfr q (by omega) (by omega) (by omega), f0 q 6 (fun z => by omega)]
          exact hC.1
        have : i = tn T := by omega
        subst this
        refine W_X5_topple_105 hk hq ⟨fun _ => ⟨⟨by rw [hkk]; exact f6, fun a ha => hdone a ha, by rw [hkk]; exact f11, by rw [hkk]; exact f12⟩, fun a b z1 z2 z3 z4 => by rw [hfr a z2 z3 z4]; exact f0 a b z1⟩, fun h => absurd ?_ h⟩
        rw [e]
        exact Int32.le_refl _
      | succ j ih =>
        intro i s hi hfr hdone hrest
        have hqq : ∀ y b, y ≤ 6 → s (q + y) b = σ (q + y) b := fun y b hy => by
          have h1 := swtr hk hq (i := 2) (j := y) (by omega) hy
          have h2 := swtr hk hq (i := 3) (j := y) (by omega) hy
          have h3 := swtr hk hq (i := 4) (j := y) (by omega) hy
          have h4 := swtr hk hq (i := 0) (j := y) (by omega) hy
          rw [hfr (q + y) (by omega) (by omega) (by omega), f0 (q + y) b (fun z => by omega)]
        have hq0 : s q 6 = nI (tn T) := by have := hqq 0 6 (by omega); rw [Nat.add_zero] at this; rw [this]; exact hC.1
        obtain ⟨-, -, -, -, c5⟩ := hC.2.1 i (by omega)
        have hp := (hT.2.1 i (by omega)).2.2.2.2.2.2
        have ti1 : (nI i).toNatClampNeg = i := tN_nI (by omega)
        have r5 : s (q + 5) (Int32.toNatClampNeg (nI i)) = nI (tpl T i) := by rw [ti1, hqq 5 i (by omega), c5]
        obtain ⟨v2, v3, v4⟩ := hrest i (Nat.le_refl _) (by omega)
        obtain ⟨m1, m2, m3⟩ := hab i (by omega)
        refine W_X5_topple_105 hk hq ⟨fun h => ?_, fun _ => ⟨inB_nI (by omega) (by omega), fun h => ?_, fun h σ1 e1 σ2 e2 σ4 e4 => ?_⟩⟩
        · rw [hq0, nI_le' (by omega) (by omega)] at h
          omega
        · rw [r5, hbV_0 (by omega) (by omega)] at h
          rw [nI_add1]
          refine ih (i + 1) s (by omega) hfr (fun a ha => ?_) (fun a z1 z2 => hrest a (by omega) z2)
          rcases Nat.lt_or_ge a i with q1 | q1
          · exact hdone a q1
          · rw [show a = i by omega, h]
            exact ⟨v2, v3, v4⟩
        · rw [r5, hbV_0 (by omega) (by omega)] at h
          have hbit : x.testBit (tpl T i) = true := by cases hx : x.testBit (tpl T i) with | true => rfl | false => exact absurd hx h
          rw [ti1] at e1 e2 e4
          have w3 : σ1 (k + 3) i = nI (S.2.2.1 i) := by rw [e1, su_nr _ _ _ _ (by omega)]; exact v3
          rw [w3, nI_add1] at e2
          have wm : nI m + 2 = lyI (m + 3) := by
            unfold lyI
            rw [if_neg (by omega), show (2 : Int32) = nI 2 from rfl, nI_add]
            rfl
          rw [wm] at e4
          rw [nI_add1]
          have s4row : ∀ a, a ≠ i → σ4 (k + 2) a = s (k + 2) a ∧ σ4 (k + 3) a = s (k + 3) a ∧ σ4 (k + 4) a = s (k + 4) a := fun a ha => by
            rw [e4, e2, e1]
            simp [su, ha]
          refine ih (i + 1) σ4 (by omega) (fun a z1 z2 z3 => ?_) (fun a ha => ?_) (fun a z1 z2 => ?_)
          · rw [e4, e2, e1, su_off _ _ _ _ z3, su_off _ _ _ _ z2, su_off _ _ _ _ z1]
            exact hfr a z1 z2 z3
          · rcases Nat.lt_or_ge a i with q1 | q1
            · obtain ⟨g2, g3, g4⟩ := s4row a (by omega)
              rw [g2, g3, g4]
              exact hdone a q1
            · rw [show a = i by omega, hbit]
              refine ⟨?_, ?_, ?_⟩
              · rw [e4, e2, e1]
                simp [su]
                rfl
              · rw [e4, e2]
                simp [su]
              · rw [e4, su_eq]
                rfl
          · obtain ⟨g2, g3, g4⟩ := s4row a (by omega)
            rw [g2, g3, g4]
            exact hrest a (by omega) z2
    -- the first loop
    have key1 : ∀ (j i : Nat), i + j = 6 → K_X5_topple_17 scr k q (nI m) (nI (flL S.1 (g &&& S.1) i)) (nI (4 + i)) σ (fun σ' => ShS σ' k T (dif S.1 x, fun a => if x.testBit (tpl T a) = true then 0 else S.2.1 a, fun a => if x.testBit (tpl T a) = true then S.2.2.1 a + 1 else S.2.2.1 a, fun a => if x.testBit (tpl T a) = true then m + 3 else S.2.2.2.1 a, S.2.2.2.2.1 + pop x, if m < S.2.2.2.2.2 then m else S.2.2.2.2.2) ∧ ∀ a b, ¬ (a = k ∧ (b = 6 ∨ b = 11 ∨ b = 12)) → a ≠ k + 2 → a ≠ k + 3 → a ≠ k + 4 → σ' a b = σ a b) := by
      intro j
      induction j with
      | zero =>
        intro i hi
        have : i = 6 := by omega
        subst this
        refine W_X5_topple_17 hk hq ⟨fun _ σ1 e1 σ2 e2 σ3 e3 => ?_, fun h => absurd (by decide) h⟩
        have hx6 : flL S.1 (g &&& S.1) 6 = x := hx
        rw [hx6] at e1 e2 ⊢
        have hpop := pop_le x
        rw [h6, dif_nI hb hxl] at e1
        have w11 : σ1 k 11 = nI S.2.2.2.2.1 := by rw [e1, su_nc _ _ _ _ (by omega)]; exact h11
        rw [w11, bcV_nI x hxl, nI_add] at e2
        have w12 : σ2 k 12 = nI S.2.2.2.2.2 := by rw [e2, su_nc _ _ _ _ (by omega), e1, su_nc _ _ _ _ (by omega)]; exact h12
        have e12 : (if nI m < nI S.2.2.2.2.2 then nI m else nI S.2.2.2.2.2 : Int32) = nI (if m < S.2.2.2.2.2 then m else S.2.2.2.2.2) := by
          have q1 : nI m < nI S.2.2.2.2.2 ↔ m < S.2.2.2.2.2 := nI_lt' (by omega) (by omega)
          by_cases g1 : m < S.2.2.2.2.2
          · rw [if_pos (q1.mpr g1), if_pos g1]
          · rw [if_neg (fun g => g1 (q1.mp g)), if_neg g1]
        rw [w12, e12] at e3
        have f0 : ∀ a b, ¬ (a = k ∧ (b = 6 ∨ b = 11 ∨ b = 12)) → σ3 a b = σ a b := fun a b z => by
          rw [e3, e2, e1, frS a b (fun q => z ⟨q.1, by omega⟩), frS a b (fun q => z ⟨q.1, by omega⟩), frS a b (fun q => z ⟨q.1, by omega⟩)]
        refine key2 σ3 f0 ?_ ?_ ?_ (tn T) 0 σ3 (by omega) (fun a _ _ _ => rfl) (fun a ha => by omega) (fun a _ ha => ?_)
        · rw [e3, su_nc _ _ _ _ (by omega), e2, su_nc _ _ _ _ (by omega), e1, su_eq]
        · rw [e3, su_nc _ _ _ _ (by omega), e2, su_eq]
        · rw [e3, su_eq]
        · rw [f0 (k + 2) a (fun q => by omega), f0 (k + 3) a (fun q => by omega), f0 (k + 4) a (fun q => by omega)]
          exact hrow a ha
      | succ j ih =>
        intro i hi
        have hfl := flL_lt (b := S.1) hx0 i (by omega)
        refine W_X5_topple_17 hk hq ⟨fun h => ?_, fun _ => ⟨fun _ => inB_nI (by omega) (by omega), ?_⟩⟩
        · rw [show (10 : Int32) = nI 10 from rfl, nI_le' (by omega) (by omega)] at h
          omega
        · have e : (if hbV (σ k 6) (nI (4 + i)) = 0 then nI (flL S.1 (g &&& S.1) i) else (if nI (flL S.1 (g &&& S.1) i) &&& tbV scr 1 (Int32.toNatClampNeg (nI (4 + i))) = 0 then nI (flL S.1 (g &&& S.1) i) else nI (flL S.1 (g &&& S.1) i) ||| (1 : Int32) <<< (nI (4 + i) &&& 31) : Int32) : Int32) = nI (flL S.1 (g &&& S.1) (i + 1)) := by
            rw [h6, tN_nI (by omega), tb1 scr (by omega), and_nI, shl1 (by omega), or_nI, flL_bit]
            have q1 : hbV (nI S.1) (nI (4 + i)) = 0 ↔ S.1.testBit (4 + i) = false := hbV_0 (by omega) (by omega)
            have q2 : nI (flL S.1 (g &&& S.1) i &&& sup (4 + i)) = 0 ↔ flL S.1 (g &&& S.1) i &&& sup (4 + i) = 0 := by
              rw [show (0 : Int32) = nI 0 from rfl, nI_inj (Nat.lt_trans (and_lt (n := 10) _ hfl) (by decide)) (by omega)]
            by_cases g1 : S.1.testBit (4 + i) = false
            · rw [if_pos (q1.mpr g1), if_neg (by rw [g1]; simp)]
            · rw [if_neg (fun z => g1 (q1.mp z))]
              have g1' : S.1.testBit (4 + i) = true := by cases hz : S.1.testBit (4 + i) with | true => rfl | false => exact absurd hz g1
              by_cases g2 : flL S.1 (g &&& S.1) i &&& sup (4 + i) = 0
              · rw [if_pos (q2.mpr g2), if_neg (fun z => z.2 g2)]
              · rw [if_neg (fun z => g2 (q2.mp z)), if_pos ⟨g1', g2⟩]
          rw [e, nI_add1]
          exact ih (i + 1) (by omega)
    exact key1 6 0 (by omega)
  · have hz := z0.mp h
    have eS : toS T S g m = S := by unfold toS; rw [if_pos hz]
    rw [eS]
    exact ⟨⟨h6, hrow, h11, h12⟩, fun a b _ _ _ _ => rfl⟩
