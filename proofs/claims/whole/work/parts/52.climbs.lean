/-! the reference: who climbs -/
theorem li_nI {σ : Sg} {a m l : Nat} (ha : a < 10) (hm : m < 24) (hl : l ≤ 26) (h3 : l = 0 ∨ 3 ≤ l) (e : σ 153 a = faI l) : liV σ (nI a) (nI m) = 0 ↔ l ≤ m := by
  unfold liV
  rw [tN_nI (by omega), e]
  unfold faI
  rcases h3 with rfl | h3
  · rw [if_pos rfl, if_pos rfl]
    exact ⟨fun _ => by omega, fun _ => rfl⟩
  · rw [if_neg (show ¬ l = 0 by omega), if_neg (nI_m1_ne (by omega))]
    have q : (3 : Int32) ≤ nI m - nI (l - 3) ↔ l ≤ m := by
      rw [Int32.le_iff_toInt_le, pk_sub_toInt (by omega) (by omega), show (3 : Int32).toInt = 3 from by decide]
      omega
    by_cases z : l ≤ m
    · rw [if_pos (q.mpr z)]
      exact ⟨fun _ => z, fun _ => rfl⟩
    · rw [if_neg (fun y => z (q.mp y))]
      exact ⟨fun y => absurd y (by decide), fun y => absurd y z⟩
theorem clB_mono {T : TT} {ll : Nat → Nat} {he m b : Nat} : ∀ k p, b.testBit p = true → (clB T ll he m b k).testBit p = true
  | 0, p, h => h
  | k + 1, p, h => by
    have ih := clB_mono (T := T) (ll := ll) (he := he) (m := m) k p h
    unfold clB
    split
    · rw [or_bit, ih]; rfl
    · exact ih
theorem sup_lo : ∀ p, p < 4 → sup p = 0 := by decide
theorem GS.cl {T : TT} (hT : TW T) {S : SS} (h : GS T S) (hb : S.1 < 1024) (he m : Nat) : ∀ k, k ≤ tn T → GS T (clB T S.2.2.2.1 he m S.1 k, S.2)
  | 0, _ => h
  | k + 1, hk => by
    have ih := GS.cl hT h hb he m k (by omega)
    have hlt := clB_lt hT S.2.2.2.1 he m hb k (by omega)
    have hp := (hT.2.1 k (by omega)).2.2.2.2.2.2
    by_cases c : tco T k ≤ m ∧ S.2.2.2.1 k ≤ m ∧ he.testBit k = false ∧ clB T S.2.2.2.1 he m S.1 k &&& sup (tpl T k) = sup (tpl T k)
    · have e : clB T S.2.2.2.1 he m S.1 (k + 1) = clB T S.2.2.2.1 he m S.1 k ||| 2 ^ (tpl T k) := if_pos c
      rw [e]
      refine ⟨fun p hp' hbit => ?_, fun i hi hbit => ?_, fun a ha hbit => ?_, h.2.2.2⟩
      · have hbit' : (clB T S.2.2.2.1 he m S.1 k ||| 2 ^ (tpl T k)).testBit p = true := hbit
        rw [or_bit, Bool.or_eq_true_iff] at hbit'
        rcases hbit' with q | q
        · exact ih.1 p hp' q
        · exact ⟨k, by omega, by simpa using q⟩
      · have hbit' : (clB T S.2.2.2.1 he m S.1 k ||| 2 ^ (tpl T k)).testBit (4 + i) = true := hbit
        show (clB T S.2.2.2.1 he m S.1 k ||| 2 ^ (tpl T k)).testBit (lbN (4 + i)) = true ∧ (clB T S.2.2.2.1 he m S.1 k ||| 2 ^ (tpl T k)).testBit (lbN (4 + i) + 1) = true
        rw [or_bit, Bool.or_eq_true_iff] at hbit'
        have hh : (clB T S.2.2.2.1 he m S.1 k).testBit (lbN (4 + i)) = true ∧ (clB T S.2.2.2.1 he m S.1 k).testBit (lbN (4 + i) + 1) = true := by
          rcases hbit' with q | q
          · exact ih.2.1 i hi q
          · have q' : tpl T k = 4 + i := by simpa using q
            have := c.2.2.2
            rw [q'] at this
            exact (sup_1 i hi _ hlt).mp this
        rw [or_bit, or_bit, hh.1, hh.2]
        exact ⟨rfl, rfl⟩
      · refine ih.2.2.1 a ha ?_
        have hbit' : (clB T S.2.2.2.1 he m S.1 k ||| 2 ^ (tpl T k)).testBit (tpl T a) = false := hbit
        rw [or_bit] at hbit'
        exact (Bool.or_eq_false_iff.mp hbit').1
    · have e : clB T S.2.2.2.1 he m S.1 (k + 1) = clB T S.2.2.2.1 he m S.1 k := if_neg c
      rw [e]
      exact ih
theorem or_self_bit {b p : Nat} (h : b.testBit p = true) : b ||| 2 ^ p = b := by
  apply Nat.eq_of_testBit_eq
  intro q
  rw [or_bit]
  by_cases z : p = q
  · subst z; rw [h]; rfl
  · simp [z]
theorem ct_climbs (scr : ScA) (σ : Sg) {T : TT} (hT : TW T) (hC : MT σ T) {S : SS} {M : Nat} (hB : SB T M S) (hG : GS T S) (hS : MS σ T S 0) {he m : Nat} (hhe : he < 1024) (h26 : σ 136 26 = nI he) (hm : m < 24) : CvA scr 2 mX11_climbs [.ref 136, .int (nI m)] σ (fun σ' => MS σ' T (clB T S.2.2.2.1 he m S.1 (tn T), S.2) 0 ∧ frM σ σ') := by
  have h10 := hT.1
  refine E_X11_climbs (W_X11_climbs_0 ?_)
  have key : ∀ (j k : Nat) (s : Sg), k + j = tn T → MS s T (clB T S.2.2.2.1 he m S.1 k, S.2) 0 → s 136 26 = nI he → frM σ s → K_X11_climbs_2 scr (nI m) (nI k) s (fun σ' => MS σ' T (clB T S.2.2.2.1 he m S.1 (tn T), S.2) 0 ∧ frM σ σ') := by
    intro j
    induction j with
    | zero =>
      intro k s hk hs h26 hf
      have : k = tn T := by omega
      subst this
      refine W_X11_climbs_2 ⟨fun _ => ⟨hs, hf⟩, fun h => absurd ?_ h⟩
      rw [(hf.T hC).1]
      exact Int32.le_refl _
    | succ j ih =>
      intro k s hk hs h26 hf
      have Cs := hf.T hC
      have tk : (nI k).toNatClampNeg = k := tN_nI (by omega)
      have hlt := clB_lt hT S.2.2.2.1 he m hB.1 k (by omega)
      have Gk := GS.cl hT hG hB.1 he m k (by omega)
      obtain ⟨-, -, -, c4, c5⟩ := Cs.2 k (by omega)
      obtain ⟨-, -, -, -, -, b4, b5⟩ := hT.2.1 k (by omega)
      have hll := (hB.2.1 k (by omega)).2.2
      have q1 : nI m < nI (tco T k) ↔ ¬ tco T k ≤ m := by rw [nI_lt' (by omega) (by omega)]; omega
      have q2 := up_ii hT (b := clB T S.2.2.2.1 he m S.1 k) (a := k) (by omega)
      have q3 : iiV (nI he) (nI k) = 0 ↔ he.testBit k = false := iiV_0 (by omega) (by omega)
      have q4 : liV s (nI k) (nI m) = 0 ↔ S.2.2.2.1 k ≤ m := li_nI (by omega) hm hll (hG.2.2.2 k (by omega)) (hs.2.2.1 k (by omega)).2.2.1
      have stay : ¬ (tco T k ≤ m ∧ S.2.2.2.1 k ≤ m ∧ he.testBit k = false ∧ clB T S.2.2.2.1 he m S.1 k &&& sup (tpl T k) = sup (tpl T k)) ∨ (clB T S.2.2.2.1 he m S.1 k).testBit (tpl T k) = true → K_X11_climbs_2 scr (nI m) (nI (k + 1)) s (fun σ' => MS σ' T (clB T S.2.2.2.1 he m S.1 (tn T), S.2) 0 ∧ frM σ σ') := fun h => by
        refine ih (k + 1) s (by omega) ?_ h26 hf
        have e : clB T S.2.2.2.1 he m S.1 (k + 1) = clB T S.2.2.2.1 he m S.1 k := by
          show (if _ then _ else _) = _
          rcases h with h | h
          · exact if_neg h
          · rw [or_self_bit h, ite_self]
        rw [e]
        exact hs
      have go : tco T k ≤ m ∧ S.2.2.2.1 k ≤ m ∧ he.testBit k = false ∧ clB T S.2.2.2.1 he m S.1 k &&& sup (tpl T k) = sup (tpl T k) → inB (nI (tpl T k)) 10 = true ∧ ∀ s1, s1 = su s 149 (tpl T k) (nI k) → ∀ s2, s2 = su s1 136 25 (s1 136 25 ||| (1 : Int32) <<< (nI k &&& 31)) → K_X11_climbs_2 scr (nI m) (nI (k + 1)) s2 (fun σ' => MS σ' T (clB T S.2.2.2.1 he m S.1 (tn T), S.2) 0 ∧ frM σ σ') := fun h => by
        refine ⟨inB_nI b5 (by decide), fun s1 e1 s2 e2 => ?_⟩
        have w25 : s1 136 25 = nI (upN T (clB T S.2.2.2.1 he m S.1 k) (tn T)) := by rw [e1, su_nr _ _ _ _ (by omega)]; exact hs.2.1
        rw [w25, shl1 (by omega), or_nI] at e2
        have e : clB T S.2.2.2.1 he m S.1 (k + 1) = clB T S.2.2.2.1 he m S.1 k ||| 2 ^ (tpl T k) := if_pos h
        refine ih (k + 1) s2 (by omega) ?_ (by rw [e2, su_nc _ _ _ _ (by omega), e1, su_nr _ _ _ _ (by omega)]; exact h26) (fun a c z1 z2 z3 z4 z5 z6 z7 => ?_)
        · rw [e]
          refine ⟨fun p hp => ?_, ?_, fun a ha => ?_, ?_, ?_⟩
          · rw [e2, su_nr _ _ _ _ (by omega), e1]
            show _ = woI T (clB T S.2.2.2.1 he m S.1 k ||| 2 ^ (tpl T k)) p
            unfold woI
            rw [or_bit]
            by_cases z : p = tpl T k
            · rw [z, su_eq, hc_of hT (a := k) (by omega) rfl]
              simp
            · rw [su_nc _ _ _ _ z, hs.1 p hp]
              unfold woI
              have : ¬ tpl T k = p := fun y => z y.symm
              simp [this]
          · rw [e2, su_eq]
            refine congrArg nI (upN_of h10 (or_lt (n := 10) (upN_lt T _ _ h10) (pow_lt (n := 10) (by omega))) fun a ha => ?_)
            rw [or_bit, upN_bit]
            show _ = (decide (a < tn T) && (clB T S.2.2.2.1 he m S.1 k ||| 2 ^ (tpl T k)).testBit (tpl T a))
            rw [or_bit]
            by_cases z : k = a
            · subst z
              have : k < tn T := by omega
              simp [this]
            · by_cases y : a < tn T
              · have : ¬ tpl T k = tpl T a := fun x => z (hT.2.2 k a (by omega) y x)
                simp [z, y, this]
              · simp [z, y]
          · rw [e2, su_off _ _ _ _ (by omega), su_off _ _ _ _ (by omega), su_off _ _ _ _ (by omega), su_off _ _ _ _ (by omega), e1, su_off _ _ _ _ (by omega), su_off _ _ _ _ (by omega), su_off _ _ _ _ (by omega), su_off _ _ _ _ (by omega)]
            exact hs.2.2.1 a ha
          · rw [e2, su_nc _ _ _ _ (by omega), e1, su_nr _ _ _ _ (by omega)]; exact hs.2.2.2.1
          · rw [e2, su_nc _ _ _ _ (by omega), e1, su_nr _ _ _ _ (by omega)]; exact hs.2.2.2.2
        · rw [e2, e1, frS a c (fun q => z1 ⟨q.1, by omega⟩), su_nr _ _ _ _ z2]
          exact hf a c z1 z2 z3 z4 z5 z6 z7
      refine W_X11_climbs_2 ⟨fun h => ?_, fun _ => ⟨inB_nI (by omega) (by decide), fun _ _ _ => inB_nI (by omega) (by decide), ?_⟩⟩
      · rw [Cs.1, nI_le' (by omega) (by omega)] at h
        omega
      rw [tk, c4, c5, h26, hs.2.1, nI_add1, tN_nI (n := tpl T k) (by omega)]
      have ec : (if nI m < nI (tco T k) then 0 else (if ¬ iiV (nI (upN T (clB T S.2.2.2.1 he m S.1 k, S.2).1 (tn T))) (nI k) = 0 then 0 else (if ¬ iiV (nI he) (nI k) = 0 then 0 else (if ¬ liV s (nI k) (nI m) = 0 then 0 else 1 : Int32) : Int32) : Int32) : Int32) = 0 ↔ ¬ (tco T k ≤ m ∧ S.2.2.2.1 k ≤ m ∧ he.testBit k = false) ∨ (clB T S.2.2.2.1 he m S.1 k).testBit (tpl T k) = true := by
        by_cases z1 : tco T k ≤ m
        · rw [if_neg (fun y => q1.mp y z1)]
          by_cases z2 : (clB T S.2.2.2.1 he m S.1 k).testBit (tpl T k) = false
          · rw [if_neg (fun y => y (q2.mpr z2))]
            by_cases z3 : he.testBit k = false
            · rw [if_neg (fun y => y (q3.mpr z3))]
              by_cases z4 : S.2.2.2.1 k ≤ m
              · rw [if_neg (fun y => y (q4.mpr z4))]
                exact ⟨fun y => absurd y (by decide), fun y => y.elim (fun y => absurd ⟨z1, z4, z3⟩ y) (fun y => by rw [z2] at y; cases y)⟩
              · rw [if_pos (fun y => z4 (q4.mp y))]
                exact ⟨fun _ => Or.inl fun y => z4 y.2.1, fun _ => rfl⟩
            · rw [if_pos (fun y => z3 (q3.mp y))]
              exact ⟨fun _ => Or.inl fun y => z3 y.2.2, fun _ => rfl⟩
          · rw [if_pos (fun y => z2 (q2.mp y))]
            exact ⟨fun _ => Or.inr (by simpa using z2), fun _ => rfl⟩
        · rw [if_pos (q1.mpr z1)]
          exact ⟨fun _ => Or.inl fun y => z1 y.1, fun _ => rfl⟩
      refine ⟨fun z => stay ((ec.mp z).imp (fun y x => y ⟨x.1, x.2.1, x.2.2.1⟩) id), fun z => ?_⟩
      have z' : (tco T k ≤ m ∧ S.2.2.2.1 k ≤ m ∧ he.testBit k = false) ∧ ¬ (clB T S.2.2.2.1 he m S.1 k).testBit (tpl T k) = true := ⟨Decidable.not_not.mp fun y => z (ec.mpr (Or.inl y)), fun y => z (ec.mpr (Or.inr y))⟩
      have q5 : nI (tpl T k) < 4 ↔ tpl T k < 4 := by rw [show (4 : Int32) = nI 4 from rfl, nI_lt' (by omega) (by omega)]
      refine ⟨fun y => go ⟨z'.1.1, z'.1.2.1, z'.1.2.2, ?_⟩, fun y => ?_⟩
      · rw [sup_lo _ (q5.mp y), Nat.and_zero]
      · have y4 : 4 ≤ tpl T k := Nat.le_of_not_lt fun x => y (q5.mpr x)
        obtain ⟨i, hi, ep⟩ : ∃ i, i < 6 ∧ tpl T k = 4 + i := ⟨tpl T k - 4, by omega, by omega⟩
        have hlb := lb_lo i hi
        have hsup := sup_1 i hi _ hlt
        rw [ep] at go stay ⊢
        have wq : ∀ q, q < 10 → (s 149 q = -1 ↔ (clB T S.2.2.2.1 he m S.1 k).testBit q = false) := fun q hq => by
          rw [hs.1 q hq]
          exact wo_m1 hT (Gk.1 q hq)
        rw [bl_nI hi, nI_add1, tN_nI (by omega), tN_nI (by omega)]
        refine ⟨inB_nI (by omega) (by decide), fun w => stay (Or.inl fun x => ?_), fun w => ⟨inB_nI (by omega) (by decide), fun v => stay (Or.inl fun x => ?_), fun v => go ⟨z'.1.1, z'.1.2.1, z'.1.2.2, hsup.mpr ⟨?_, ?_⟩⟩⟩⟩
        · have h1 := (hsup.mp x.2.2.2).1
          rw [(wq _ (by omega)).mp w] at h1
          cases h1
        · have h1 := (hsup.mp x.2.2.2).2
          rw [(wq _ (by omega)).mp v] at h1
          cases h1
        · cases x : (clB T S.2.2.2.1 he m S.1 k).testBit (lbN (4 + i)) with
          | true => rfl
          | false => exact absurd ((wq _ (by omega)).mpr x) w
        · cases x : (clB T S.2.2.2.1 he m S.1 k).testBit (lbN (4 + i) + 1) with
          | true => rfl
          | false => exact absurd ((wq _ (by omega)).mpr x) v
  exact key (tn T) 0 σ (by omega) hS h26 (frM.refl σ)
