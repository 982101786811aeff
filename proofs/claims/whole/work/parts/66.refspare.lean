/-! the reference: what had better not have been, what was seen -/
theorem ME.nt {σ : Sg} {E : EE} {N : Nat} (h : ME σ E N) (N' : Nat) : ME (su σ 136 16 (nI N')) E N' := ⟨by rw [su_nc _ _ _ _ (by omega)]; exact h.1, by rw [su_eq], fun i hi => by rw [su_nr _ _ _ _ (by omega), su_nr _ _ _ _ (by omega), su_nr _ _ _ _ (by omega)]; exact h.2.2 i hi⟩
theorem MT.nt {σ : Sg} {T : TT} (h : MT σ T) (v : Int32) : MT (su σ 136 16 v) T := h.fr (by rw [su_nc _ _ _ _ (by omega)]) fun a z1 z2 => by rw [su_off _ _ _ _ (by omega)]
theorem sim_F3 {T : TT} (hT : TW T) (E : EE) (ch : Nat) : FR 23 (sim T E ch 24) := (FR.stp hT E ch (sim_B hT E ch 23 (by omega)) (sim_FR hT E ch 23 (by omega)) (by omega)).1
theorem no_fall {T : TT} (hT : TW T) (E : EE) (ch : Nat) : (sim T E ch 24).2.2.2.2.1 = 0 ↔ ffN T E ch = 24 := by
  have h := sim_F3 hT E ch
  unfold ffN
  rcases h with h | h <;> omega
theorem falls_le {T : TT} (hT : TW T) (E : EE) (ch : Nat) : (sim T E ch 24).2.2.2.2.1 < 2 ^ 31 := by
  have := (sim_B hT E ch 24 (by omega)).2.2.1
  omega
theorem ct_isSpared (scr : ScA) (σ : Sg) {T : TT} (hT : TW T) (hC : MT σ T) {E : EE} (hE : EW E) {N0 N ch : Nat} (hN : N < 256) (hNc : ∀ i, i < E.1 → ch.testBit i = !N.testBit i) (hV : ME σ E N0) : CiA scr 4 mX11_isSpared [.ref 136, .int (nI N)] σ (fun r σ' => (r = 0 ↔ ¬ ffN T E ch = 24) ∧ MT σ' T ∧ ME σ' E N ∧ frW σ σ' ∧ σ' 162 = σ 162) := by
  refine E_X11_isSpared (W_X11_isSpared_0 fun s1 e1 => ?_)
  have V1 := hV.nt N
  have M1 := hC.nt (nI N)
  rw [← e1] at V1 M1
  refine (ct_runs scr s1 hT M1 hE hN hNc V1).weak fun s2 ⟨S2, N2, f2⟩ => W_X11_isSpared_9 ?_
  have e18 : s2 136 18 = nI (sim T E ch 24).2.2.2.2.1 := S2.2.2.2.1
  rw [e18]
  have q : nI (sim T E ch 24).2.2.2.2.1 = 0 ↔ ffN T E ch = 24 := by rw [show (0 : Int32) = nI 0 from rfl, nI_inj (falls_le hT E ch) (by omega), no_fall hT]
  refine ⟨?_, ?_, f2.T M1, f2.E V1, frW.tr (σ' := s1) (by rw [e1]; exact su_W _ _ _ _ (by omega)) f2.W, ?_⟩
  · split
    · exact Or.inl rfl
    · exact Or.inr rfl
  · by_cases z : ffN T E ch = 24
    · rw [if_neg (fun y => y (q.mpr z))]
      exact ⟨fun h => absurd h (by decide), fun h => absurd z h⟩
    · rw [if_pos (fun y => z (q.mp y))]
      exact ⟨fun _ => z, fun _ => rfl⟩
  · funext c
    rw [f2 162 c (by omega) (by omega), e1, su_nr _ _ _ _ (by omega)]
/-- which events are not -/
theorem nb0 {E : EE} : ∀ i, i < E.1 → (alB E).testBit i = !(0 : Nat).testBit i := fun i hi => by rw [alB_bit hi, Nat.zero_testBit]; rfl
theorem nb1 {E : EE} (hE : EW E) (k : Nat) : ∀ i, i < E.1 → (dif (alB E) (2 ^ k)).testBit i = !(2 ^ k).testBit i := fun i hi => by
  have := hE.1
  rw [dif_bit _ _ (by omega), alB_bit hi, Bool.true_and]
theorem nb2 {E : EE} (hE : EW E) (k l : Nat) : ∀ i, i < E.1 → (dif (dif (alB E) (2 ^ k)) (2 ^ l)).testBit i = !(2 ^ k ||| 2 ^ l).testBit i := fun i hi => by
  have := hE.1
  rw [dif_bit _ _ (by omega), dif_bit _ _ (by omega), alB_bit hi, Bool.true_and, Nat.testBit_or, Bool.not_or]
theorem p2_256 {k : Nat} (h : k < 8) : 2 ^ k < 256 := by
  have : 2 ^ k < 2 ^ 8 := Nat.pow_lt_pow_right (by decide) h
  omega
theorem or_256 {a b : Nat} (ha : a < 256) (hb : b < 256) : a ||| b < 256 := or_lt (n := 8) ha hb
def SpM (σ : Sg) (r : Int32) (t : Int32 × Int32 × Int32) : Prop := r = t.2.2 ∧ orV σ r 0 = t.1 ∧ orV σ r 1 = t.2.1
theorem ct_spareBy (scr : ScA) (σ : Sg) {b : AB} (hR : RM σ b) : CiA scr 6 mX11_spareBy [.ref 136] σ (fun r σ' => SpM σ' r (spR (aT b) (aE b)) ∧ MT σ' (aT b) ∧ frW σ σ') := by
  have hE := hR.1.2.2.1
  have h8 := hE.1
  have hT := hR.1.T
  refine E_X11_spareBy (W_X11_spareBy_0 ((ct_asTold scr σ hR).weak fun s1 ⟨M1, E1, f1⟩ => W_X11_spareBy_4 ((ct_isSpared scr s1 hT M1 hE (N := 0) (ch := alB (aE b)) (by omega) nb0 E1).weak fun r s2 ⟨r2, M2, E2, f2, _⟩ => W_X11_spareBy_9 ⟨fun z => ?_, fun z => ?_⟩)))
  · have n0 := r2.mp z
    have ev : ∀ s, frW σ s → s 136 8 = nI (aE b).1 := fun s hf => (hf.rm hR).2.2.1.1
    have k2 : sp1 (aT b) (aE b) (aE b).1 = none → ∀ (j a : Nat) (s : Sg) (N : Nat), a + j = (aE b).1 → spO (aT b) (aE b) a = none → MT s (aT b) → ME s (aE b) N → frW σ s → K_X11_spareBy_51 scr (nI a) s (fun r σ' => SpM σ' r (spR (aT b) (aE b)) ∧ MT σ' (aT b) ∧ frW σ σ') := by
      intro n1 j
      induction j with
      | zero =>
        intro a s N ha hs M E f
        have : a = (aE b).1 := by omega
        subst this
        refine W_X11_spareBy_51 ⟨fun _ => ⟨?_, M, f⟩, fun h => absurd (by rw [ev s f]; exact Int32.le_refl _) h⟩
        unfold spR
        rw [if_neg n0, n1]
        dsimp only
        rw [hs]
        exact ⟨rfl, rfl, rfl⟩
      | succ j ih =>
        intro a s N ha hs M E f
        refine W_X11_spareBy_51 ⟨fun h => ?_, fun _ => ?_⟩
        · rw [ev s f, nI_le' (by omega) (by omega)] at h
          omega
        have inn : ∀ (r i : Nat) (s : Sg) (N : Nat), i + r = (aE b).1 - (a + 1) → spJ (aT b) (aE b) a i = none → MT s (aT b) → ME s (aE b) N → frW σ s → K_X11_spareBy_63 scr (nI a) (nI (a + 1 + i)) s (fun r σ' => SpM σ' r (spR (aT b) (aE b)) ∧ MT σ' (aT b) ∧ frW σ σ') := by
          intro r
          induction r with
          | zero =>
            intro i s N hi hj M E f
            have : i = (aE b).1 - (a + 1) := by omega
            subst this
            refine W_X11_spareBy_63 ⟨fun _ => ?_, fun h => absurd (by rw [ev s f, show a + 1 + ((aE b).1 - (a + 1)) = (aE b).1 by omega]; exact Int32.le_refl _) h⟩
            rw [nI_add1]
            refine ih (a + 1) s N (by omega) ?_ M E f
            have es : spO (aT b) (aE b) (a + 1) = match spO (aT b) (aE b) a with
              | some x => some x
              | none => match spJ (aT b) (aE b) a ((aE b).1 - (a + 1)) with
                | some b => some (a, b)
                | none => none := rfl
            rw [es, hs, hj]
          | succ r ih2 =>
            intro i s N hi hj M E f
            refine W_X11_spareBy_63 ⟨fun h => ?_, fun _ => ⟨by decide, fun t1 d1 => ⟨by decide, fun t2 d2 => ?_⟩⟩⟩
            · rw [ev s f, nI_le' (by omega) (by omega)] at h
              omega
            rw [shl1 (by omega), shl1 (by omega), or_nI]
            have M2 : MT t2 (aT b) := M.fr (by rw [d2, su_nr _ _ _ _ (by omega), d1, su_nr _ _ _ _ (by omega)]) fun x z1 z2 => by rw [d2, su_off _ _ _ _ (by omega), d1, su_off _ _ _ _ (by omega)]
            have E2 : ME t2 (aE b) N := E.fr (by rw [d2, su_nr _ _ _ _ (by omega), d1, su_nr _ _ _ _ (by omega)]) (by rw [d2, su_nr _ _ _ _ (by omega), d1, su_nr _ _ _ _ (by omega)]) fun x z1 z2 => by rw [d2, su_off _ _ _ _ (by omega), d1, su_off _ _ _ _ (by omega)]
            have f2 : frW σ t2 := f.tr (frW.tr (σ' := t1) (by rw [d1]; exact su_W _ _ _ _ (by omega)) (by rw [d2]; exact su_W _ _ _ _ (by omega)))
            refine (ct_isSpared scr t2 hT M2 hE (N := 2 ^ a ||| 2 ^ (a + 1 + i)) (or_256 (p2_256 (by omega)) (p2_256 (by omega))) (nb2 hE a (a + 1 + i)) E2).weak fun rr s3 ⟨r3, M3, E3, f3, w3⟩ => W_X11_spareBy_96 ⟨fun z => ?_, fun z => ⟨?_, M3, f2.tr f3⟩⟩
            · rw [nI_add1]
              refine ih2 (i + 1) s3 _ (by omega) ?_ M3 E3 (f2.tr f3)
              have es : spJ (aT b) (aE b) a (i + 1) = match spJ (aT b) (aE b) a i with
                | some x => some x
                | none => if ffN (aT b) (aE b) (dif (dif (alB (aE b)) (2 ^ a)) (2 ^ (a + 1 + i))) = 24 then some (a + 1 + i) else none := rfl
              rw [es, hj]
              exact if_neg (r3.mp z)
            · have y : ffN (aT b) (aE b) (dif (dif (alB (aE b)) (2 ^ a)) (2 ^ (a + 1 + i))) = 24 := Classical.byContradiction fun q => z (r3.mpr q)
              have ej : spJ (aT b) (aE b) a (i + 1) = some (a + 1 + i) := by
                have es : spJ (aT b) (aE b) a (i + 1) = match spJ (aT b) (aE b) a i with
                  | some x => some x
                  | none => if ffN (aT b) (aE b) (dif (dif (alB (aE b)) (2 ^ a)) (2 ^ (a + 1 + i))) = 24 then some (a + 1 + i) else none := rfl
                rw [es, hj]
                exact if_pos y
              have ej2 := spJ_st ej r
              rw [show i + 1 + r = (aE b).1 - (a + 1) by omega] at ej2
              have eo : spO (aT b) (aE b) (a + 1) = some (a, a + 1 + i) := by
                have es : spO (aT b) (aE b) (a + 1) = match spO (aT b) (aE b) a with
                  | some x => some x
                  | none => match spJ (aT b) (aE b) a ((aE b).1 - (a + 1)) with
                    | some b => some (a, b)
                    | none => none := rfl
                rw [es, hs, ej2]
              have eo2 := spO_st eo j
              rw [show a + 1 + j = (aE b).1 by omega] at eo2
              unfold spR
              rw [if_neg n0, n1]
              dsimp only
              rw [eo2]
              have p0 : s3 162 0 = nI a := by
                rw [w3, d2, show Int32.toNatClampNeg 1 = 1 from rfl, su_nc _ _ _ _ (by omega), d1, show Int32.toNatClampNeg 0 = 0 from rfl, su_eq]
              have p1 : s3 162 1 = nI (a + 1 + i) := by
                rw [w3, d2, show Int32.toNatClampNeg 1 = 1 from rfl, su_eq]
              exact ⟨rfl, p0, p1⟩
        rw [nI_add1]
        exact inn ((aE b).1 - (a + 1)) 0 s N (by omega) rfl M E f
    have k1 : ∀ (j i : Nat) (s : Sg) (N : Nat), i + j = (aE b).1 → sp1 (aT b) (aE b) i = none → MT s (aT b) → ME s (aE b) N → frW σ s → K_X11_spareBy_16 scr (nI i) s (fun r σ' => SpM σ' r (spR (aT b) (aE b)) ∧ MT σ' (aT b) ∧ frW σ σ') := by
      intro j
      induction j with
      | zero =>
        intro i s N hi h1 M E f
        have : i = (aE b).1 := by omega
        subst this
        exact W_X11_spareBy_16 ⟨fun _ => k2 h1 (aE b).1 0 s N (by omega) rfl M E f, fun h => absurd (by rw [ev s f]; exact Int32.le_refl _) h⟩
      | succ j ih =>
        intro i s N hi h1 M E f
        refine W_X11_spareBy_16 ⟨fun h => ?_, fun _ => ⟨by decide, fun t1 d1 => ?_⟩⟩
        · rw [ev s f, nI_le' (by omega) (by omega)] at h
          omega
        rw [shl1 (by omega)]
        have M2 : MT t1 (aT b) := M.fr (by rw [d1, su_nr _ _ _ _ (by omega)]) fun x z1 z2 => by rw [d1, su_off _ _ _ _ (by omega)]
        have E2 : ME t1 (aE b) N := E.fr (by rw [d1, su_nr _ _ _ _ (by omega)]) (by rw [d1, su_nr _ _ _ _ (by omega)]) fun x z1 z2 => by rw [d1, su_off _ _ _ _ (by omega)]
        have f2 : frW σ t1 := f.tr (by rw [d1]; exact su_W _ _ _ _ (by omega))
        have es : sp1 (aT b) (aE b) (i + 1) = match sp1 (aT b) (aE b) i with
          | some x => some x
          | none => if ffN (aT b) (aE b) (dif (alB (aE b)) (2 ^ i)) = 24 then some i else none := rfl
        rw [h1] at es
        refine (ct_isSpared scr t1 hT M2 hE (N := 2 ^ i) (p2_256 (by omega)) (nb1 hE i) E2).weak fun r s3 ⟨r3, M3, E3, f3, w3⟩ => W_X11_spareBy_38 ⟨fun z => ?_, fun z => ⟨?_, M3, f2.tr f3⟩⟩
        · rw [nI_add1]
          exact ih (i + 1) s3 _ (by omega) (es.trans (if_neg (r3.mp z))) M3 E3 (f2.tr f3)
        · have y : ffN (aT b) (aE b) (dif (alB (aE b)) (2 ^ i)) = 24 := Classical.byContradiction fun q => z (r3.mpr q)
          have e1 := sp1_st (es.trans (if_pos y)) j
          rw [show i + 1 + j = (aE b).1 by omega] at e1
          unfold spR
          rw [if_neg n0, e1]
          have p0 : s3 162 0 = nI i := by
            rw [w3, d1, show Int32.toNatClampNeg 0 = 0 from rfl, su_eq]
          exact ⟨rfl, p0, rfl⟩
    exact k1 (aE b).1 0 s2 0 (by omega) rfl M2 E2 (f1.tr f2)
  · have y : ffN (aT b) (aE b) (alB (aE b)) = 24 := Classical.byContradiction fun q => z (r2.mpr q)
    unfold spR
    rw [if_pos y]
    exact ⟨⟨rfl, rfl, rfl⟩, M2, f1.tr f2⟩
theorem sp_neg {T : TT} {E : EE} : (spR T E).2.2 = 0 ∨ (spR T E).2.2 = 1 ∨ (spR T E).2.2 = 2 ∨ (spR T E).2.2 = -1 := by
  unfold spR
  split
  · exact Or.inl rfl
  · split
    · exact Or.inr (Or.inl rfl)
    · split
      · exact Or.inr (Or.inr (Or.inl rfl))
      · exact Or.inr (Or.inr (Or.inr rfl))
theorem m1_1 (x : Int32) (h : ¬ x < -1) (h1 : x ≤ 1) : x = -1 ∨ x = 0 ∨ x = 1 := by
  have a1 : ¬ x.toInt < (-1 : Int32).toInt := fun q => h (Int32.lt_iff_toInt_lt.mpr q)
  have a2 := Int32.le_iff_toInt_le.mp h1
  rw [show (-1 : Int32).toInt = -1 by decide] at a1
  rw [show (1 : Int32).toInt = 1 by decide] at a2
  rcases (by omega : x.toInt = -1 ∨ x.toInt = 0 ∨ x.toInt = 1) with q | q | q
  · exact Or.inl (Int32.toInt_inj.mp (by rw [q]; decide))
  · exact Or.inr (Or.inl (Int32.toInt_inj.mp (by rw [q]; decide)))
  · exact Or.inr (Or.inr (Int32.toInt_inj.mp (by rw [q]; decide)))
theorem om_spare (scr : ScA) (b : AB) (x : Int32) : OkM scr 7 mX11_spare [.ref 136, .int x] b (qb (sv_spare b x) b) := by
  intro σ hR
  refine E_X11_spare (W_X11_spare_0 ⟨fun z => ?_, fun z => ?_⟩)
  · refine bad_m hR ?_ (frW.refl σ)
    unfold sv_spare
    rw [if_pos]
    unfold inV at z
    by_cases y : x < -1
    · exact Or.inl y
    · rw [if_neg y] at z
      by_cases t : (1 : Int32) < x
      · exact Or.inr (fun q => absurd (Int32.lt_of_lt_of_le t q) (by decide))
      · rw [if_neg t] at z
        exact absurd z (by decide)
  · have y : ¬ x < -1 := fun q => z (by unfold inV; rw [if_pos q])
    have t : x ≤ 1 := Int32.not_lt.mp (fun q => z (by unfold inV; rw [if_neg y, if_pos q]))
    refine (ct_spareBy scr σ hR).weak fun r s ⟨⟨r1, r2, r3⟩, M1, f1⟩ => W_X11_spare_14 ⟨fun _ _ => ?_, ?_, f1.rm hR, f1.lo⟩
    · rcases m1_1 x y t with q | q | q
      · subst q; contradiction
      · subst q; rfl
      · subst q; rfl
    · show _ = sv_spare b x
      unfold sv_spare
      rw [if_neg (fun q => q.elim y fun q => q t)]
      rcases m1_1 x y t with q | q | q
      · subst q; exact r1
      · subst q; exact r2
      · subst q; exact r3
/-- what was seen -/
theorem ws_or {T : TT} (hT : TW T) (E : EE) (ch : Nat) {m p : Nat} (hm : m < 24) (hp : p < 10) : wsI T E ch m p = -1 ∨ ∃ a, a < tn T ∧ wsI T E ch m p = nI a := by
  unfold wsI
  split
  · rename_i z
    obtain ⟨a, ha, hpa⟩ := (sim_G hT E ch (m + 1) (by omega)).1 p hp z
    exact Or.inr ⟨a, ha, hc_of hT ha hpa⟩
  · exact Or.inl rfl
theorem se_val {T : TT} (hT : TW T) (E : EE) (ch : Nat) {m p w : Nat} (hm : m < 24) (hp : p < 10) (hw : w ≤ 10) : (if ¬ nI w = (if ¬ wsI T E ch m p = (-1) then wsI T E ch m p else 10 : Int32) then 0 else 1 : Int32) = b2I (decide (wsI T E ch m p = nbI w)) := by
  have h10 := hT.1
  unfold nbI
  rcases ws_or hT E ch hm hp with h | ⟨a, ha, h⟩
  · rw [h, if_neg (show ¬ ¬ (-1 : Int32) = -1 from fun y => y rfl)]
    by_cases z : w = 10
    · subst z; rfl
    · rw [if_neg z, if_pos (show ¬ nI w = 10 by rw [c10, nI_inj (by omega) (by omega)]; exact z)]
      rw [decide_eq_false (fun y => nI_m1_ne (show w < 2 ^ 31 by omega) y.symm)]
      rfl
  · rw [h, if_pos (nI_m1_ne (by omega))]
    by_cases z : w = 10
    · subst z
      rw [if_pos rfl, if_pos (show ¬ nI 10 = nI a by rw [nI_inj (by omega) (by omega)]; omega), decide_eq_false (nI_m1_ne (by omega))]
      rfl
    · rw [if_neg z]
      by_cases y : w = a
      · subst y
        rw [if_neg (fun q => q rfl), decide_eq_true rfl]
        rfl
      · rw [if_pos (show ¬ nI w = nI a by rw [nI_inj (by omega) (by omega)]; exact y), decide_eq_false (show ¬ nI a = nI w by rw [nI_inj (by omega) (by omega)]; omega)]
        rfl
theorem ct_isSeen (scr : ScA) (σ : Sg) {b : AB} (hR : RM σ b) {T : TT} (hT : TW T) (hC : MT σ T) {N ch : Nat} (hN : N < 256) (hNc : ∀ i, i < (aE b).1 → ch.testBit i = !N.testBit i) (hV : ME σ (aE b) N) : CiA scr 4 mX11_isSeen [.ref 136] σ (fun r σ' => r = b2I (fitB T (aE b) ch (aI b)) ∧ NT σ' T (aE b) ch 24 ∧ frR σ σ') := by
  have hE := hR.1.2.2.1
  have hI := hR.1.2.2.2.1
  have h8 := hI.1
  refine E_X11_isSeen (W_X11_isSeen_0 ((ct_runs scr σ hT hC hE hN hNc hV).weak fun s ⟨S1, N1, f1⟩ => W_X11_isSeen_4 ?_))
  have R1 := f1.W.rm hR
  obtain ⟨-, -, -, ⟨i1, i2⟩, -, -⟩ := R1
  have key : ∀ (j i : Nat), i + j = (aI b).1 → K_X11_isSeen_8 scr (b2I (fitN T (aE b) ch (aI b) i)) (nI i) s (fun r σ' => r = b2I (fitB T (aE b) ch (aI b)) ∧ NT σ' T (aE b) ch 24 ∧ frR σ σ') := by
    intro j
    induction j with
    | zero =>
      intro i hi
      have : i = (aI b).1 := by omega
      subst this
      refine W_X11_isSeen_8 ⟨fun _ => ⟨?_, rfl, N1, f1⟩, fun h => absurd (by rw [i1]; exact Int32.le_refl _) h⟩
      cases fitN T (aE b) ch (aI b) (aI b).1
      · exact Or.inl rfl
      · exact Or.inr rfl
    | succ j ih =>
      intro i hi
      refine W_X11_isSeen_8 ⟨fun h => ?_, fun _ => ⟨fun z => ?_, fun z => ⟨inB_nI (by omega) (by decide), ?_⟩⟩⟩
      · rw [i1, nI_le' (by omega) (by omega)] at h
        omega
      · have z' := b2I_0.mp z
        refine ⟨Or.inl z, ?_, N1, f1⟩
        have h2 := fitN_f z' (j + 1)
        rw [hi] at h2
        unfold fitB
        rw [z', h2]
      · have z' : fitN T (aE b) ch (aI b) i = true := by
          cases h : fitN T (aE b) ch (aI b) i with
          | true => rfl
          | false => exact absurd (b2I_0.mpr h) z
        obtain ⟨c1, c2, c3⟩ := i2 i (by omega)
        obtain ⟨b1, b2, b3⟩ := hI.2 i (by omega)
        have em : 10 * nI ((aI b).2.1 i) + nI ((aI b).2.2.1 i) = nI (10 * (aI b).2.1 i + (aI b).2.2.1 i) := by rw [c10, pk_mul, nI_add]
        have hx : 10 * (aI b).2.1 i + (aI b).2.2.1 i < 240 := by omega
        rw [tN_nI (by omega), c1, c2, c3, em, tN_nI (by omega), (N1.1 _ b1).2.2.1 _ b2, se_val hT _ _ b1 b2 b3, nI_add1]
        refine ⟨inB_nI hx (by decide), ?_⟩
        have i3 := ih (i + 1) (by omega)
        have es : fitN T (aE b) ch (aI b) (i + 1) = (fitN T (aE b) ch (aI b) i && decide (wsI T (aE b) ch ((aI b).2.1 i) ((aI b).2.2.1 i) = nbI ((aI b).2.2.2 i))) := rfl
        rw [es, z', Bool.true_and] at i3
        exact i3
  exact key (aI b).1 0 (by omega)
theorem or0 (x : Nat) : nI x ||| 0 = nI x := by rw [show (0 : Int32) = nI 0 from rfl, or_nI, Nat.or_zero]
theorem bits_st {c : Bool} {x k : Nat} (hk : k < 31) : (nI x ||| (if b2I c = 0 then 0 else (1 : Int32) <<< (nI k &&& 31) : Int32)) = nI (if c = true then x ||| 2 ^ k else x) := by
  cases c
  · show (nI x ||| 0) = nI x
    exact or0 x
  · show (nI x ||| (1 : Int32) <<< (nI k &&& 31)) = nI (x ||| 2 ^ k)
    rw [shl1 hk, or_nI]
theorem qi_never (scr : ScA) (b : AB) : QI scr 6 mX11_neverNow [.ref 136] b (sv_never b) := by
  intro σ hR
  have hE := hR.1.2.2.1
  have h8 := hE.1
  refine E_X11_neverNow (W_X11_neverNow_0 ((ct_asTold scr σ hR).weak fun s1 ⟨M1, E1, f1⟩ => W_X11_neverNow_4 ?_))
  have key : ∀ (j i : Nat) (s : Sg) (N : Nat), i + j = (aE b).1 → MT s (aT b) → ME s (aE b) N → frW σ s → K_X11_neverNow_8 scr (nI (nvF (aT b) (aE b) (aI b) i)) (nI i) s (fun r σ' => r = sv_never b ∧ MT σ' (aT b) ∧ frW σ σ') := by
    intro j
    induction j with
    | zero =>
      intro i s N hi M E f
      have : i = (aE b).1 := by omega
      subst this
      exact W_X11_neverNow_8 ⟨fun _ => ⟨rfl, M, f⟩, fun h => absurd (by rw [(f.rm hR).2.2.1.1]; exact Int32.le_refl _) h⟩
    | succ j ih =>
      intro i s N hi M E f
      refine W_X11_neverNow_8 ⟨fun h => ?_, fun _ s2 e2 => ?_⟩
      · rw [(f.rm hR).2.2.1.1, nI_le' (by omega) (by omega)] at h
        omega
      rw [shl1 (by omega)] at e2
      have M2 := M.nt (nI (2 ^ i))
      have E2 := E.nt (2 ^ i)
      have f2 : frW σ s2 := f.tr (by rw [e2]; exact su_W _ _ _ _ (by omega))
      rw [← e2] at M2 E2
      refine (ct_isSeen scr s2 (f2.rm hR) hR.1.T M2 (p2_256 (by omega)) (nb1 hE i) E2).weak fun r s3 ⟨r3, N3, f3⟩ => W_X11_neverNow_28 ?_
      rw [r3, bits_st (by omega), nI_add1]
      exact ih (i + 1) s3 _ (by omega) (f3.T M2) (f3.E E2) (f2.tr f3.W)
  exact key (aE b).1 0 s1 0 (by omega) M1 E1 f1
theorem om_never (scr : ScA) (b : AB) : OkM scr 7 mX11_never [.ref 136] b (qb (sv_never b) b) := fun σ hR => E_X11_never (W_X11_never_0 ((qi_never scr b σ hR).weak fun r2 s2 ⟨g1, g2, g3⟩ => W_X11_never_4 ⟨g1, g3.rm hR, g3.lo⟩))
