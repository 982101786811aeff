/-! the reference: all fall -/
theorem dif_0 {b : Nat} (h : b < 1024) : dif b 0 = b := by
  apply Nat.eq_of_testBit_eq
  intro p
  rcases Nat.lt_or_ge p 10 with q | q
  · rw [dif_bit _ _ q]; simp
  · have e : ∀ y, y < 1024 → y.testBit p = false := fun y hy => by
      cases hb : y.testBit p with
      | false => rfl
      | true => exact absurd (bit_lt hy hb) (by omega)
    rw [e _ (dif_lt _ h), e _ h]
theorem flL_0 (b : Nat) : ∀ i, flL b 0 i = 0
  | 0 => rfl
  | i + 1 => by
    rw [flL_bit, flL_0 b i, if_neg]
    simp
def toS2 (T : TT) (S : SS) (y m : Nat) : SS := (dif S.1 y, fun a => if y.testBit (tpl T a) = true then 0 else S.2.1 a, fun a => if y.testBit (tpl T a) = true then S.2.2.1 a + 1 else S.2.2.1 a, fun a => if y.testBit (tpl T a) = true then m + 3 else S.2.2.2.1 a, S.2.2.2.2.1 + pop y, if pop y = 0 then S.2.2.2.2.2 else if m < S.2.2.2.2.2 then m else S.2.2.2.2.2)
theorem and_sub {x b : Nat} (h : ∀ p, x.testBit p = true → b.testBit p = true) : x &&& b = x := by
  apply Nat.eq_of_testBit_eq
  intro p
  rw [Nat.testBit_and]
  cases hx : x.testBit p with
  | false => rfl
  | true => rw [h p hx]; rfl
theorem toS_2 {T : TT} {S : SS} {x m : Nat} (hb : S.1 < 1024) (hx : x < 1024) (hs : ∀ p, x.testBit p = true → S.1.testBit p = true) : toS T S x m = toS2 T S (flN S.1 x) m := by
  unfold toS
  rw [and_sub hs]
  by_cases h : x = 0
  · rw [if_pos h, h]
    unfold toS2 flN
    rw [flL_0, dif_0 hb]
    simp only [Nat.zero_testBit, show pop 0 = 0 from by decide, if_pos, Nat.add_zero]
    rfl
  · rw [if_neg h]
    have hp := pop_pos _ (flL_lt (b := S.1) hx 6 (by omega)) (flL_ne (b := S.1) h 6)
    unfold toS2
    rw [if_neg (show ¬ pop (flN S.1 x) = 0 by unfold flN; omega)]
theorem ct_allFall (scr : ScA) (σ : Sg) {T : TT} (hT : TW T) (hC : MT σ T) {S : SS} {M : Nat} (hM : M ≤ 100000) (hB : SB T M S) (hG : GS T S) {x m : Nat} (hx : x < 1024) (hxs : ∀ p, x.testBit p = true → S.1.testBit p = true) (hS : MS σ T S x) (hF : FR m S) (hm : m < 24) : CvA scr 1 mX11_allFall [.ref 136, .int (nI m)] σ (fun σ' => MS σ' T (toS T S x m) 0 ∧ ∀ a c, ¬ (a = 136 ∧ (c = 18 ∨ c = 19 ∨ c = 25)) → a ≠ 149 → a ≠ 150 → a ≠ 152 → a ≠ 153 → a ≠ 154 → σ' a c = σ a c) := by
  have h10 := hT.1
  obtain ⟨s1, s2, s3, s4, s5⟩ := hS
  rw [toS_2 hB.1 hx hxs]
  refine E_X11_allFall (W_X11_allFall_0 ?_)
  generalize hy : flN S.1 x = y
  have hyl : y < 1024 := by rw [← hy]; exact flL_lt hx 6 (by omega)
  have hys : ∀ p, y.testBit p = true → S.1.testBit p = true := by rw [← hy]; exact flL_sub hxs 6
  have hct : cnX T y (tn T) = pop y := cnX_pop hT hyl fun p hp hb => hG.1 p hp (hys p hb)
  have key2 : ∀ (j k : Nat) (s : Sg), k + j = tn T → (∀ p, p < 10 → s 149 p = if S.1.testBit p = true ∧ ¬ (y.testBit p = true ∧ ∃ a, a < k ∧ tpl T a = p) then hcI T p else -1) → (∃ u, u < 1024 ∧ s 136 25 = nI u ∧ ∀ a, a < 10 → u.testBit a = ((decide (a < tn T) && S.1.testBit (tpl T a)) && !(decide (a < k) && y.testBit (tpl T a)))) → (∀ a, a < k → s 150 a = nI (if y.testBit (tpl T a) = true then 0 else S.2.1 a) ∧ s 152 a = nI (if y.testBit (tpl T a) = true then S.2.2.1 a + 1 else S.2.2.1 a) ∧ s 153 a = faI (if y.testBit (tpl T a) = true then m + 3 else S.2.2.2.1 a) ∧ s 154 a = 0) → (∀ a, k ≤ a → a < tn T → s 150 a = nI (S.2.1 a) ∧ s 152 a = nI (S.2.2.1 a) ∧ s 153 a = faI (S.2.2.2.1 a) ∧ s 154 a = if y.testBit (tpl T a) = true then 1 else 0) → s 136 18 = nI (S.2.2.2.2.1 + cnX T y k) → s 136 19 = ffI (if cnX T y k = 0 then S.2.2.2.2.2 else if m < S.2.2.2.2.2 then m else S.2.2.2.2.2) → (∀ a c, ¬ (a = 136 ∧ (c = 18 ∨ c = 19 ∨ c = 25)) → a ≠ 149 → a ≠ 150 → a ≠ 152 → a ≠ 153 → a ≠ 154 → s a c = σ a c) → K_X11_allFall_93 scr (nI m) (nI k) s (fun σ' => MS σ' T (toS2 T S y m) 0 ∧ ∀ a c, ¬ (a = 136 ∧ (c = 18 ∨ c = 19 ∨ c = 25)) → a ≠ 149 → a ≠ 150 → a ≠ 152 → a ≠ 153 → a ≠ 154 → σ' a c = σ a c) := by
    intro j
    induction j with
    | zero =>
      intro k s hk i1 i2 i3 i3' i4 i5 i6
      have : k = tn T := by omega
      subst this
      refine W_X11_allFall_93 ⟨fun _ => ⟨⟨fun p hp => ?_, ?_, fun a ha => ?_, ?_, ?_⟩, i6⟩, fun h => absurd ?_ h⟩
      · rw [i1 p hp]
        show _ = woI T (dif S.1 y) p
        unfold woI
        rw [dif_bit _ _ hp]
        cases hb : S.1.testBit p with
        | false => simp
        | true =>
          obtain ⟨a, ha, hpa⟩ := hG.1 p hp hb
          have : ∃ a, a < tn T ∧ tpl T a = p := ⟨a, ha, hpa⟩
          cases hyb : y.testBit p with
          | false => simp
          | true => simp [this]
      · obtain ⟨u, hu, e, hub⟩ := i2
        rw [e]
        refine congrArg nI (upN_of h10 hu fun a ha => ?_)
        rw [hub a ha]
        by_cases z : a < tn T
        · show _ = (decide (a < tn T) && (dif S.1 y).testBit (tpl T a))
          rw [dif_bit _ _ (hT.2.1 a z).2.2.2.2.2.2]
          simp [z]
        · simp [z]
      · obtain ⟨z1, z2, z3, z4⟩ := i3 a ha
        exact ⟨z1, z2, z3, by rw [z4]; simp⟩
      · rw [i4, hct]; rfl
      · rw [i5, hct]; rfl
      · rw [i6 136 2 (by omega) (by omega) (by omega) (by omega) (by omega) (by omega), hC.1]
        exact Int32.le_refl _
    | succ j ih =>
      intro k s hk i1 i2 i3 i3' i4 i5 i6
      have tk : (nI k).toNatClampNeg = k := tN_nI (by omega)
      have hp := (hT.2.1 k (by omega)).2.2.2.2.2.2
      obtain ⟨r1, r2, r3, r4⟩ := i3' k (Nat.le_refl _) (by omega)
      refine W_X11_allFall_93 ⟨fun h => ?_, fun _ => ⟨inB_nI (by omega) (by decide), ?_⟩⟩
      · rw [i6 136 2 (by omega) (by omega) (by omega) (by omega) (by omega) (by omega), hC.1, nI_le' (by omega) (by omega)] at h
        omega
      rw [tk, r4, nI_add1]
      refine ⟨fun h => ?_, fun h t1 e1 => ?_⟩
      · have hb : y.testBit (tpl T k) = false := by
          cases z : y.testBit (tpl T k) with
          | false => rfl
          | true => rw [z] at h; exact absurd rfl h
        have hcn : cnX T y (k + 1) = cnX T y k := by
          show (if y.testBit (tpl T k) = true then _ else _) = _
          rw [if_neg (show ¬ y.testBit (tpl T k) = true by rw [hb]; simp)]
        refine ih (k + 1) s (by omega) (fun p hp' => ?_) ?_ (fun a ha => ?_) (fun a z1 z2 => i3' a (by omega) z2) (by rw [hcn]; exact i4) (by rw [hcn]; exact i5) i6
        · rw [i1 p hp']
          have : (y.testBit p = true ∧ ∃ a, a < k + 1 ∧ tpl T a = p) ↔ (y.testBit p = true ∧ ∃ a, a < k ∧ tpl T a = p) := by
            refine ⟨fun ⟨z, a, z1, z2⟩ => ⟨z, a, ?_, z2⟩, fun ⟨z, a, z1, z2⟩ => ⟨z, a, by omega, z2⟩⟩
            rcases Nat.lt_or_ge a k with q | q
            · exact q
            · have : a = k := by omega
              subst this
              rw [z2, z] at hb
              cases hb
          simp only [this]
        · obtain ⟨u, hu, e, hub⟩ := i2
          refine ⟨u, hu, e, fun a ha => ?_⟩
          rw [hub a ha]
          by_cases z : a = k
          · subst z
            simp [hb]
          · have : a < k + 1 ↔ a < k := by omega
            simp [this]
        · rcases Nat.lt_or_ge a k with q | q
          · exact i3 a q
          · have : a = k := by omega
            subst this
            rw [hb]
            refine ⟨r1, r2, r3, ?_⟩
            rw [r4, hb]
            rfl
      · have hb : y.testBit (tpl T k) = true := by
          cases z : y.testBit (tpl T k) with
          | true => rfl
          | false => rw [z] at h; exact absurd h (by decide)
        have c142 : σ 142 k = nI (tpl T k) := (hC.2 k (by omega)).2.2.2.2
        have w1 : t1 142 k = nI (tpl T k) := by rw [e1, su_nr _ _ _ _ (by omega), i6 142 k (by omega) (by omega) (by omega) (by omega) (by omega) (by omega)]; exact c142
        rw [w1, tN_nI (by omega)]
        refine ⟨inB_nI (by omega) (by decide), inB_nI hp (by decide), fun t2 e2 t3 e3 t4 e4 t5 e5 t6 e6 t7 e7 t8 e8 => ?_⟩
        obtain ⟨u, hu, eu, hub⟩ := i2
        have hcn : cnX T y (k + 1) = cnX T y k + 1 := by
          show (if y.testBit (tpl T k) = true then _ else _) = _
          rw [if_pos hb]
        have x3 : t2 136 25 = nI u := by rw [e2, su_nr _ _ _ _ (by omega), e1, su_nr _ _ _ _ (by omega)]; exact eu
        rw [x3, shl1 (by omega), dif_nI hu (pow_lt (n := 10) (by omega))] at e3
        have x5 : t4 152 k = nI (S.2.2.1 k) := by rw [e4, su_nr _ _ _ _ (by omega), e3, su_nr _ _ _ _ (by omega), e2, su_nr _ _ _ _ (by omega), e1, su_nr _ _ _ _ (by omega)]; exact r2
        rw [x5, nI_add1] at e5
        have x7 : t6 136 18 = nI (S.2.2.2.2.1 + cnX T y k) := by rw [e6, su_nr _ _ _ _ (by omega), e5, su_nr _ _ _ _ (by omega), e4, su_nr _ _ _ _ (by omega), e3, su_nc _ _ _ _ (by omega), e2, su_nr _ _ _ _ (by omega), e1, su_nr _ _ _ _ (by omega)]; exact i4
        rw [x7, nI_add1] at e7
        have x8 : t7 136 19 = ffI (if cnX T y k = 0 then S.2.2.2.2.2 else if m < S.2.2.2.2.2 then m else S.2.2.2.2.2) := by rw [e7, su_nc _ _ _ _ (by omega), e6, su_nr _ _ _ _ (by omega), e5, su_nr _ _ _ _ (by omega), e4, su_nr _ _ _ _ (by omega), e3, su_nc _ _ _ _ (by omega), e2, su_nr _ _ _ _ (by omega), e1, su_nr _ _ _ _ (by omega)]; exact i5
        have hff : (if ¬ ffI (if cnX T y k = 0 then S.2.2.2.2.2 else if m < S.2.2.2.2.2 then m else S.2.2.2.2.2) = (-1) then ffI (if cnX T y k = 0 then S.2.2.2.2.2 else if m < S.2.2.2.2.2 then m else S.2.2.2.2.2) else nI m : Int32) = ffI (if m < S.2.2.2.2.2 then m else S.2.2.2.2.2) := by
          have f1 : ∀ f, f < 24 → ffI f = nI f ∧ ¬ ffI f = -1 := fun f hf => by
            have e : ffI f = nI f := if_neg (by omega)
            exact ⟨e, by rw [e]; exact nI_m1_ne (by omega)⟩
          by_cases z : cnX T y k = 0
          · rw [if_pos z]
            rcases hF with g | g
            · rw [g.2, if_pos hm, if_neg (fun q => q rfl), (f1 m hm).1]
            · rw [if_neg (show ¬ m < S.2.2.2.2.2 by omega), if_pos (f1 _ (by omega)).2]
          · rw [if_neg z]
            have : (if m < S.2.2.2.2.2 then m else S.2.2.2.2.2) < 24 := by split <;> omega
            rw [if_pos (f1 _ this).2]
        rw [x8, hff] at e8
        have row : ∀ a, a ≠ k → t8 150 a = s 150 a ∧ t8 152 a = s 152 a ∧ t8 153 a = s 153 a ∧ t8 154 a = s 154 a := fun a ha => by
          rw [e8, e7, e6, e5, e4, e3, e2, e1]
          simp [su, ha]
        refine ih (k + 1) t8 (by omega) (fun p hp' => ?_) ⟨dif u (2 ^ k), dif_lt _ hu, ?_, fun a ha => ?_⟩ (fun a ha => ?_) (fun a z1 z2 => ?_) ?_ ?_ (fun a c z1 z2 z3 z4 z5 z6 => ?_)
        · have e : t8 149 p = if p = tpl T k then -1 else s 149 p := by
            rw [e8, e7, e6, e5, e4, e3, e2, e1]
            by_cases z : p = tpl T k <;> simp [su, z]
          rw [e, i1 p hp']
          by_cases z : p = tpl T k
          · rw [if_pos z, if_neg]
            exact fun q => q.2 ⟨by rw [z]; exact hb, k, by omega, z.symm⟩
          · rw [if_neg z]
            have : (y.testBit p = true ∧ ∃ a, a < k + 1 ∧ tpl T a = p) ↔ (y.testBit p = true ∧ ∃ a, a < k ∧ tpl T a = p) := by
              refine ⟨fun ⟨q, a, z1, z2⟩ => ⟨q, a, ?_, z2⟩, fun ⟨q, a, z1, z2⟩ => ⟨q, a, by omega, z2⟩⟩
              rcases Nat.lt_or_ge a k with w | w
              · exact w
              · have : a = k := by omega
                subst this
                exact absurd z2.symm z
            simp only [this]
        · rw [e8, e7, e6, e5, e4, e3]
          simp [su]
        · rw [dif_bit _ _ ha, hub a ha, Nat.testBit_two_pow]
          by_cases z : k = a
          · subst z
            simp [hb]
          · have : a < k + 1 ↔ a < k := by omega
            simp [this, z]
        · rcases Nat.lt_or_ge a k with q | q
          · obtain ⟨g1, g2, g3, g4⟩ := row a (by omega)
            rw [g1, g2, g3, g4]
            exact i3 a q
          · have : a = k := by omega
            subst this
            rw [hb, if_pos rfl, if_pos rfl, if_pos rfl]
            have ef : faI (m + 3) = nI m := by
              unfold faI
              rw [if_neg (by omega), show m + 3 - 3 = m by omega]
            rw [ef]
            refine ⟨?_, ?_, ?_, ?_⟩
            · rw [e8, e7, e6, e5, e4]; simp [su]; rfl
            · rw [e8, e7, e6, e5]; simp [su]
            · rw [e8, e7, e6]; simp [su]
            · rw [e8, e7, e6, e5, e4, e3, e2, e1]; simp [su]
        · obtain ⟨g1, g2, g3, g4⟩ := row a (by omega)
          rw [g1, g2, g3, g4]
          exact i3' a (by omega) z2
        · rw [hcn, e8, su_nc _ _ _ _ (by omega), e7, su_eq]
          rfl
        · rw [hcn, e8, su_eq, if_neg (show ¬ cnX T y k + 1 = 0 by omega)]
        · rw [e8, e7, e6, e5, e4, e3, e2, e1, frS a c (fun q => z1 ⟨q.1, by omega⟩), frS a c (fun q => z1 ⟨q.1, by omega⟩), su_nr _ _ _ _ z5, su_nr _ _ _ _ z4, su_nr _ _ _ _ z3, frS a c (fun q => z1 ⟨q.1, by omega⟩), su_nr _ _ _ _ z2, su_nr _ _ _ _ z6]
          exact i6 a c z1 z2 z3 z4 z5 z6
  have key1 : ∀ (j i : Nat) (s : Sg), i + j = 6 → (∀ a, a ≠ 154 → s a = σ a) → (∀ a, a < tn T → s 154 a = if (flL S.1 x i).testBit (tpl T a) = true then 1 else 0) → K_X11_allFall_2 scr (nI m) (nI (4 + i)) s (fun σ' => MS σ' T (toS2 T S y m) 0 ∧ ∀ a c, ¬ (a = 136 ∧ (c = 18 ∨ c = 19 ∨ c = 25)) → a ≠ 149 → a ≠ 150 → a ≠ 152 → a ≠ 153 → a ≠ 154 → σ' a c = σ a c) := by
    intro j
    induction j with
    | zero =>
      intro i s hi hf h4
      have : i = 6 := by omega
      subst this
      have hy6 : flL S.1 x 6 = y := hy
      refine W_X11_allFall_2 ⟨fun _ => key2 (tn T) 0 s (by omega) (fun p hp => ?_) ⟨upN T S.1 (tn T), upN_lt T _ _ h10, by rw [hf 136 (by omega)]; exact s2, fun a ha => ?_⟩ (fun a ha => by omega) (fun a _ ha => ?_) ?_ ?_ (fun a c z1 z2 z3 z4 z5 z6 => by rw [hf a z6]), fun h => absurd (by decide) h⟩
      · rw [hf 149 (by omega), s1 p hp]
        unfold woI
        have : ¬ (y.testBit p = true ∧ ∃ a, a < 0 ∧ tpl T a = p) := fun ⟨_, a, z, _⟩ => by omega
        simp [this]
      · rw [upN_bit]
        simp
      · obtain ⟨z1, z2, z3, -⟩ := s3 a ha
        rw [hf 150 (by omega), hf 152 (by omega), hf 153 (by omega)]
        exact ⟨z1, z2, z3, by rw [← hy6]; exact h4 a ha⟩
      · rw [hf 136 (by omega)]; exact s4
      · rw [hf 136 (by omega)]; exact s5
    | succ j ih =>
      intro i s hi hf h4
      have hfl := flL_lt (b := S.1) hx i (by omega)
      have hlb := lb_lt (4 + i) (by omega)
      have hw : ∀ q, q < 10 → (s 149 q = -1 ↔ S.1.testBit q = false) := fun q hq => by
        rw [hf 149 (by omega), s1 q hq]
        exact wo_m1 hT (hG.1 q hq)
      have hv : ∀ q, q < 10 → ¬ s 149 q = -1 → ∃ a, a < tn T ∧ tpl T a = q ∧ s 149 q = nI a ∧ (s 154 a = 1 ↔ (flL S.1 x i).testBit q = true) := fun q hq hn => by
        have hb : S.1.testBit q = true := by
          cases z : S.1.testBit q with
          | true => rfl
          | false => exact absurd ((hw q hq).mpr z) hn
        obtain ⟨a, ha, hp⟩ := hG.1 q hq hb
        refine ⟨a, ha, hp, ?_, ?_⟩
        · rw [hf 149 (by omega), s1 q hq]
          unfold woI
          rw [if_pos hb, hc_of hT ha hp]
        · rw [h4 a ha, hp]
          cases (flL S.1 x i).testBit q <;> decide
      have hsub := flL_sub hxs i
      have hsup := sup_0 i (by omega) (flL S.1 x i) hfl
      have hno : ¬ (S.1.testBit (4 + i) = true ∧ ¬ flL S.1 x i &&& sup (4 + i) = 0) → K_X11_allFall_2 scr (nI m) (nI (4 + (i + 1))) s (fun σ' => MS σ' T (toS2 T S y m) 0 ∧ ∀ a c, ¬ (a = 136 ∧ (c = 18 ∨ c = 19 ∨ c = 25)) → a ≠ 149 → a ≠ 150 → a ≠ 152 → a ≠ 153 → a ≠ 154 → σ' a c = σ a c) := fun h => ih (i + 1) s (by omega) hf (fun a ha => by rw [flL_bit, if_neg h]; exact h4 a ha)
      have hyes : ¬ s 149 (4 + i) = -1 → ¬ flL S.1 x i &&& sup (4 + i) = 0 → inB (s 149 (4 + i)) 10 = true ∧ ∀ σ1, σ1 = su s 154 (Int32.toNatClampNeg (s 149 (4 + i))) 1 → K_X11_allFall_2 scr (nI m) (nI (4 + (i + 1))) σ1 (fun σ' => MS σ' T (toS2 T S y m) 0 ∧ ∀ a c, ¬ (a = 136 ∧ (c = 18 ∨ c = 19 ∨ c = 25)) → a ≠ 149 → a ≠ 150 → a ≠ 152 → a ≠ 153 → a ≠ 154 → σ' a c = σ a c) := fun hn h => by
        obtain ⟨a, ha, hp, e, -⟩ := hv (4 + i) (by omega) hn
        have hb : S.1.testBit (4 + i) = true := by
          cases z : S.1.testBit (4 + i) with
          | true => rfl
          | false => exact absurd ((hw _ (by omega)).mpr z) hn
        rw [e, tN_nI (by omega)]
        refine ⟨inB_nI (by omega) (by decide), fun t et => ih (i + 1) t (by omega) (fun c hc => by rw [et, su_off _ _ _ _ hc]; exact hf c hc) (fun c hc => ?_)⟩
        rw [flL_bit, if_pos (show S.1.testBit (4 + i) = true ∧ ¬ flL S.1 x i &&& sup (4 + i) = 0 from ⟨hb, h⟩), or_bit, et]
        by_cases z : c = a
        · rw [z, su_eq, hp]
          simp
        · rw [su_nc _ _ _ _ z, h4 c hc]
          have : ¬ 4 + i = tpl T c := fun q => z (hT.2.2 c a hc ha (by rw [← q, hp]))
          simp [this]
      have fbl : ∀ q, q < 10 → s 149 q = -1 → (flL S.1 x i).testBit q = false := fun q hq z => by
        cases w : (flL S.1 x i).testBit q with
        | false => rfl
        | true =>
          have h1 := (hw q hq).mp z
          rw [hsub q w] at h1
          cases h1
      refine W_X11_allFall_2 ⟨fun h => ?_, fun _ => ?_⟩
      · rw [c10, nI_le' (by omega) (by omega)] at h
        omega
      rw [bl_nI (by omega), nI_add1, nI_add1, tN_nI (by omega), tN_nI (by omega), tN_nI (by omega)]
      have eqn : 4 + i + 1 = 4 + (i + 1) := by omega
      rw [eqn]
      refine ⟨inB_nI (by omega) (by decide), inB_nI (by omega) (by decide), inB_nI (by omega) (by decide), fun z => hno (fun q => by rw [(hw _ (by omega)).mp z] at q; cases q.1), fun z => ⟨fun zl => ⟨fun zr => hno (fun q => q.2 (hsup.mpr ⟨fbl _ (by omega) zl, fbl _ (by omega) zr⟩)), fun zr => ?_⟩, fun zl => ?_⟩⟩
      · obtain ⟨a, ha, hp, e, hf1⟩ := hv _ (show lbN (4 + i) + 1 < 10 by omega) zr
        rw [e, tN_nI (by omega)]
        refine ⟨inB_nI (by omega) (by decide), fun w => hno (fun q => q.2 (hsup.mpr ⟨fbl _ (by omega) zl, ?_⟩)), fun w => hyes z (fun q => ?_)⟩
        · cases v : (flL S.1 x i).testBit (lbN (4 + i) + 1) with
          | false => rfl
          | true => exact absurd (hf1.mpr v) w
        · rw [(hsup.mp q).2] at hf1
          exact absurd (hf1.mp w) (by simp)
      · obtain ⟨a, ha, hp, e, hf1⟩ := hv _ (show lbN (4 + i) < 10 by omega) zl
        rw [e, tN_nI (by omega)]
        refine ⟨inB_nI (by omega) (by decide), fun w => hyes z (fun q => ?_), fun w => ⟨fun zr => hno (fun q => q.2 (hsup.mpr ⟨?_, fbl _ (by omega) zr⟩)), fun zr => ?_⟩⟩
        · rw [(hsup.mp q).1] at hf1
          exact absurd (hf1.mp w) (by simp)
        · cases v : (flL S.1 x i).testBit (lbN (4 + i)) with
          | false => rfl
          | true => exact absurd (hf1.mpr v) w
        · obtain ⟨a2, ha2, hp2, e2, hf2⟩ := hv _ (show lbN (4 + i) + 1 < 10 by omega) zr
          rw [e2, tN_nI (by omega)]
          refine ⟨inB_nI (by omega) (by decide), fun v => hno (fun q => q.2 (hsup.mpr ⟨?_, ?_⟩)), fun v => hyes z (fun q => ?_)⟩
          · cases v2 : (flL S.1 x i).testBit (lbN (4 + i)) with
            | false => rfl
            | true => exact absurd (hf1.mpr v2) w
          · cases v2 : (flL S.1 x i).testBit (lbN (4 + i) + 1) with
            | false => rfl
            | true => exact absurd (hf2.mpr v2) v
          · rw [(hsup.mp q).2] at hf2
            exact absurd (hf2.mp v) (by simp)
  exact key1 6 0 σ (by omega) (fun _ _ => rfl) (fun a ha => (s3 a ha).2.2.2)
