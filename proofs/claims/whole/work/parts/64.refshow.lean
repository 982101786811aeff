/-! the reference's calls that ask of the show -/
theorem qi_at (scr : ScA) (b : AB) {m x w : Int32} (z1 : ¬ isW m 24 = 0) (z2 : ¬ isW x (nI (tn (aT b))) = 0) (z3 : ¬ isW w 4 = 0) : QI scr 7 mX11_atOf [.ref 136, .int m, .int x, .int w] b (sv_at b m x w) := by
  intro σ hR
  have h10 := hR.1.T.1
  obtain ⟨j1, hj1, rfl, -⟩ := (isW_or m (n := 24) (by decide)).resolve_left z1
  obtain ⟨j2, hj2, rfl, -⟩ := (isW_or x (by omega)).resolve_left z2
  obtain ⟨j3, hj3, rfl, -⟩ := (isW_or w (n := 4) (by decide)).resolve_left z3
  unfold sv_at
  rw [if_neg (fun z => z.elim z1 fun z => z.elim z2 z3), tN_nI (by omega), tN_nI (by omega), tN_nI (by omega)]
  refine E_X11_atOf (W_X11_atOf_0 ((ct_runsTold scr σ hR).weak fun s ⟨M1, S1, N1, f1⟩ => W_X11_atOf_4 ?_))
  have e : 10 * nI j1 + nI j2 = nI (10 * j1 + j2) := by rw [c10, pk_mul, nI_add]
  rw [e]
  have ib : inB (nI (10 * j1 + j2)) 240 = true := inB_nI (by omega) (by decide)
  rw [tN_nI (by omega)]
  obtain ⟨e1, e2, e3, e4⟩ := (N1.1 j1 hj1).2.2.2 j2 hj2
  refine ⟨fun _ => ⟨fun _ => ⟨fun _ => ib, fun _ => ib⟩, fun _ => ib⟩, fun _ => ib, ?_, M1, f1⟩
  rw [e1, e2, e3, e4]
  rcases (by omega : j3 = 0 ∨ j3 = 1 ∨ j3 = 2 ∨ j3 = 3) with rfl | rfl | rfl | rfl <;> rfl
theorem om_at (scr : ScA) (b : AB) (m x w : Int32) : OkM scr 8 mX11_at [.ref 136, .int m, .int x, .int w] b (qb (sv_at b m x w) b) := by
  intro σ hR
  have bad : ∀ s, frW σ s → isW m 24 = 0 ∨ isW x (nI (tn (aT b))) = 0 ∨ isW w 4 = 0 → (-2 : Int32) = (qb (sv_at b m x w) b).1 ∧ RM s (qb (sv_at b m x w) b).2 ∧ ∀ a, a < 136 → s a = σ a := fun s hf h => bad_m hR (by unfold sv_at; rw [if_pos h]) hf
  refine E_X11_at (W_X11_at_0 ?_)
  rw [in24]
  refine ⟨fun z => bad σ (frW.refl σ) (Or.inl z), fun z1 => (ct_isAcrobat scr σ hR x).weak fun r s ⟨h1, h2, h3⟩ => W_X11_at_12 ?_⟩
  rw [in4, h1]
  refine ⟨fun z => bad s h3 (Or.inr (Or.inl z)), fun z2 => ⟨fun z => bad s h3 (Or.inr (Or.inr z)), fun z3 => (qi_at scr b z1 z2 z3 s (h3.rm hR)).weak fun r2 s2 ⟨g1, g2, g3⟩ => W_X11_at_31 ⟨g1, (h3.tr g3).rm hR, (h3.tr g3).lo⟩⟩⟩
theorem qi_stands (scr : ScA) (b : AB) {m p : Int32} (z1 : ¬ isW m 24 = 0) (z2 : ¬ isW p 10 = 0) : QI scr 7 mX11_standsOf [.ref 136, .int m, .int p] b (sv_stands b m p) := by
  intro σ hR
  obtain ⟨j1, hj1, rfl, -⟩ := (isW_or m (n := 24) (by decide)).resolve_left z1
  obtain ⟨j2, hj2, rfl, -⟩ := (isW_or p (n := 10) (by decide)).resolve_left z2
  unfold sv_stands
  rw [if_neg (fun z => z.elim z1 z2), tN_nI (by omega), tN_nI (by omega)]
  refine E_X11_standsOf (W_X11_standsOf_0 ((ct_runsTold scr σ hR).weak fun s ⟨M1, S1, N1, f1⟩ => W_X11_standsOf_4 ?_))
  have e : 10 * nI j1 + nI j2 = nI (10 * j1 + j2) := by rw [c10, pk_mul, nI_add]
  rw [e, tN_nI (by omega)]
  exact ⟨inB_nI (by omega) (by decide), (N1.1 j1 hj1).2.2.1 j2 hj2, M1, f1⟩
theorem om_stands (scr : ScA) (b : AB) (m p : Int32) : OkM scr 8 mX11_stands [.ref 136, .int m, .int p] b (qb (sv_stands b m p) b) := by
  intro σ hR
  have bad : isW m 24 = 0 ∨ isW p 10 = 0 → (-2 : Int32) = (qb (sv_stands b m p) b).1 ∧ RM σ (qb (sv_stands b m p) b).2 ∧ ∀ a, a < 136 → σ a = σ a := fun h => bad_m hR (by unfold sv_stands; rw [if_pos h]) (frW.refl σ)
  refine E_X11_stands (W_X11_stands_0 ?_)
  rw [in24, in10]
  exact ⟨fun z => bad (Or.inl z), fun z1 => ⟨fun z => bad (Or.inr z), fun z2 => (qi_stands scr b z1 z2 σ hR).weak fun r2 s2 ⟨g1, g2, g3⟩ => W_X11_stands_20 ⟨g1, g3.rm hR, g3.lo⟩⟩⟩
theorem ht_ref : ∀ t, t < 1024 → (((if (nI t &&& 15) = 0 then 0 else 1 : Int32) + (if (nI t &&& 112) = 0 then 0 else 1 : Int32)) + (if (nI t &&& 384) = 0 then 0 else 1 : Int32)) + (if (nI t &&& 512) = 0 then 0 else 1 : Int32) = nI (htN t) := by decide +kernel
theorem qi_tower (scr : ScA) (b : AB) {m w : Int32} (z1 : ¬ isW m 24 = 0) (z2 : ¬ isW w 2 = 0) : QI scr 7 mX11_towerOf [.ref 136, .int m, .int w] b (sv_tower b m w) := by
  intro σ hR
  obtain ⟨j1, hj1, rfl, -⟩ := (isW_or m (n := 24) (by decide)).resolve_left z1
  unfold sv_tower
  rw [if_neg (fun z => z.elim z1 z2), tN_nI (by omega)]
  refine E_X11_towerOf (W_X11_towerOf_0 ((ct_runsTold scr σ hR).weak fun s ⟨M1, S1, N1, f1⟩ => W_X11_towerOf_4 ?_))
  have e1 : s 155 j1 = nI (pop (tknA b j1)) := (N1.1 j1 hj1).1
  have e2 : s 156 j1 = nI (tknA b j1) := (N1.1 j1 hj1).2.1
  rw [tN_nI (by omega), e1, e2, ht_ref _ (tknA_lt hR.1 hj1)]
  refine ⟨inB_nI hj1 (by decide), ?_, M1, f1⟩
  split <;> rfl
theorem om_tower (scr : ScA) (b : AB) (m w : Int32) : OkM scr 8 mX11_tower [.ref 136, .int m, .int w] b (qb (sv_tower b m w) b) := by
  intro σ hR
  have bad : isW m 24 = 0 ∨ isW w 2 = 0 → (-2 : Int32) = (qb (sv_tower b m w) b).1 ∧ RM σ (qb (sv_tower b m w) b).2 ∧ ∀ a, a < 136 → σ a = σ a := fun h => bad_m hR (by unfold sv_tower; rw [if_pos h]) (frW.refl σ)
  refine E_X11_tower (W_X11_tower_0 ?_)
  rw [in24, in2]
  exact ⟨fun z => bad (Or.inl z), fun z1 => ⟨fun z => bad (Or.inr z), fun z2 => (qi_tower scr b z1 z2 σ hR).weak fun r2 s2 ⟨g1, g2, g3⟩ => W_X11_tower_20 ⟨g1, g3.rm hR, g3.lo⟩⟩⟩
theorem qi_sum (scr : ScA) (b : AB) {w : Int32} (z : ¬ isW w 2 = 0) : QI scr 7 mX11_sumOf [.ref 136, .int w] b (sv_sum b w) := by
  intro σ hR
  unfold sv_sum
  rw [if_neg z]
  refine E_X11_sumOf (W_X11_sumOf_0 ((ct_runsTold scr σ hR).weak fun s ⟨M1, S1, N1, f1⟩ => W_X11_sumOf_4 ⟨?_, M1, f1⟩))
  have e1 : s 136 17 = nI (sta (aT b) (aE b) (alB (aE b))) := N1.2.2.1
  have e2 : s 136 18 = nI (fin b).2.2.2.2.1 := S1.2.2.2.1
  rw [e1, e2]
  by_cases y : w = 0
  · rw [if_neg (fun q => q y), if_pos y]
  · rw [if_pos y, if_neg y]
theorem om_sum (scr : ScA) (b : AB) (w : Int32) : OkM scr 8 mX11_sum [.ref 136, .int w] b (qb (sv_sum b w) b) := by
  intro σ hR
  refine E_X11_sum (W_X11_sum_0 ?_)
  rw [in2]
  exact ⟨fun z => bad_m hR (by unfold sv_sum; rw [if_pos z]) (frW.refl σ), fun z => (qi_sum scr b z σ hR).weak fun r2 s2 ⟨g1, g2, g3⟩ => W_X11_sum_12 ⟨g1, g3.rm hR, g3.lo⟩⟩
theorem tpF_O (b : AB) : ∀ m, tpF b m = tpO (aT b) (aE b) (alB (aE b)) m
  | 0 => rfl
  | m + 1 => by
    unfold tpF tpO
    rw [tpF_O b m]
    rfl
theorem tpM_O (b : AB) : ∀ m, tpM b m = tcO (aT b) (aE b) (alB (aE b)) m
  | 0 => rfl
  | m + 1 => by
    unfold tpM tcO
    rw [tpM_O b m]
    rfl
theorem moN_O (b : AB) : ∀ m, moN b m = moO (aT b) (aE b) (alB (aE b)) m
  | 0 => rfl
  | m + 1 => by
    unfold moN moO
    rw [moN_O b m]
    rfl
theorem evU_O (b : AB) : ∀ m, evU b m = evrO (aT b) (aE b) (alB (aE b)) m
  | 0 => rfl
  | m + 1 => by
    unfold evU evrO
    rw [evU_O b m]
    rfl
theorem qi_top (scr : ScA) (b : AB) {w : Int32} (z : ¬ isW w 2 = 0) : QI scr 7 mX11_topOf [.ref 136, .int w] b (sv_top b w) := by
  intro σ hR
  unfold sv_top
  rw [if_neg z]
  refine E_X11_topOf (W_X11_topOf_0 ((ct_runsTold scr σ hR).weak fun s ⟨M1, S1, N1, f1⟩ => W_X11_topOf_4 ⟨?_, M1, f1⟩))
  rw [tpF_O, tpM_O, ← N1.2.2.2.2.2.1, ← N1.2.2.2.2.2.2]
theorem om_top (scr : ScA) (b : AB) (w : Int32) : OkM scr 8 mX11_top [.ref 136, .int w] b (qb (sv_top b w) b) := by
  intro σ hR
  refine E_X11_top (W_X11_top_0 ?_)
  rw [in2]
  exact ⟨fun z => bad_m hR (by unfold sv_top; rw [if_pos z]) (frW.refl σ), fun z => (qi_top scr b z σ hR).weak fun r2 s2 ⟨g1, g2, g3⟩ => W_X11_top_12 ⟨g1, g3.rm hR, g3.lo⟩⟩
theorem qi_most (scr : ScA) (b : AB) {w : Int32} (z : ¬ isW w 2 = 0) : QI scr 7 mX11_mostOf [.ref 136, .int w] b (sv_most b w) := by
  intro σ hR
  unfold sv_most
  rw [if_neg z]
  refine E_X11_mostOf (W_X11_mostOf_0 ((ct_runsTold scr σ hR).weak fun s ⟨M1, S1, N1, f1⟩ => W_X11_mostOf_4 ⟨?_, M1, f1⟩))
  obtain ⟨k1, k2⟩ := N1.2.2.2.2.1 23 rfl
  have e1 : s 136 21 = nI (moN b 23) := by rw [k1, moN_O]
  have e2 : s 136 20 = nI (pop (tknA b (moN b 23))) := by rw [k2, moN_O]; rfl
  rw [e1, e2]
  split <;> rfl
theorem om_most (scr : ScA) (b : AB) (w : Int32) : OkM scr 8 mX11_most [.ref 136, .int w] b (qb (sv_most b w) b) := by
  intro σ hR
  refine E_X11_most (W_X11_most_0 ?_)
  rw [in2]
  exact ⟨fun z => bad_m hR (by unfold sv_most; rw [if_pos z]) (frW.refl σ), fun z => (qi_most scr b z σ hR).weak fun r2 s2 ⟨g1, g2, g3⟩ => W_X11_most_12 ⟨g1, g3.rm hR, g3.lo⟩⟩
theorem qi_clumsy (scr : ScA) (b : AB) : QI scr 7 mX11_clumsyOf [.ref 136] b (sv_clumsy b) := by
  intro σ hR
  have h10 := hR.1.T.1
  refine E_X11_clumsyOf (W_X11_clumsyOf_0 ((ct_runsTold scr σ hR).weak fun s ⟨M1, S1, N1, f1⟩ => W_X11_clumsyOf_4 ?_))
  have hn : s 136 2 = nI (tn (aT b)) := M1.1
  have key : ∀ (j a : Nat), a + j = tn (aT b) → K_X11_clumsyOf_10 scr (oI (cluN b a).1) (nI (cluN b a).2) (nI a) s (fun r σ' => r = sv_clumsy b ∧ MT σ' (aT b) ∧ frW σ σ') := by
    intro j
    induction j with
    | zero =>
      intro a ha
      have : a = tn (aT b) := by omega
      subst this
      exact W_X11_clumsyOf_10 ⟨fun _ => ⟨rfl, M1, f1⟩, fun h => absurd (by rw [hn]; exact Int32.le_refl _) h⟩
    | succ j ih =>
      intro a ha
      refine W_X11_clumsyOf_10 ⟨fun h => ?_, fun _ => ⟨inB_nI (by omega) (by decide), ?_⟩⟩
      · rw [hn, nI_le' (by omega) (by omega)] at h
        omega
      have e : s 152 a = nI ((fin b).2.2.1 a) := (S1.2.2.1 a (by omega)).2.1
      have l1 := ((sim_B hR.1.T (aE b) (alB (aE b)) 24 (by omega)).2.1 a (by omega)).2.1
      have l1' : (fin b).2.2.1 a ≤ 304 * 24 := l1
      have l2 := cluN_le hR.1 a (by omega)
      rw [tN_nI (by omega), e, nI_add1]
      have q : nI ((fin b).2.2.1 a) ≤ nI (cluN b a).2 ↔ ¬ (cluN b a).2 < (fin b).2.2.1 a := by rw [nI_le' (by omega) (by omega)]; omega
      have i1 := ih (a + 1) (by omega)
      by_cases z : (cluN b a).2 < (fin b).2.2.1 a
      · rw [if_neg (fun y => q.mp y z), if_neg (fun y => q.mp y z)]
        rw [cluN, if_pos z] at i1
        exact i1
      · rw [if_pos (q.mpr z), if_pos (q.mpr z)]
        rw [cluN, if_neg z] at i1
        exact i1
  exact key (tn (aT b)) 0 (by omega)
theorem om_clumsy (scr : ScA) (b : AB) : OkM scr 8 mX11_clumsy [.ref 136] b (qb (sv_clumsy b) b) := fun σ hR => E_X11_clumsy (W_X11_clumsy_0 ((qi_clumsy scr b σ hR).weak fun r2 s2 ⟨g1, g2, g3⟩ => W_X11_clumsy_4 ⟨g1, g3.rm hR, g3.lo⟩))
theorem all10 : ∀ n, n ≤ 10 → ((1 : Int32) <<< (nI n &&& 31)) - 1 = nI (2 ^ n - 1) := by decide +kernel
theorem dwN_bit (b : AB) : ∀ n a, (dwN b n).testBit a = (decide (a < n) && !(evU b 24).testBit (tpl (aT b) a))
  | 0, a => by simp [dwN]
  | n + 1, a => by
    have ih := dwN_bit b n a
    unfold dwN
    split
    · rename_i z
      rw [ih]
      by_cases h : n = a
      · subst h; simp [z]
      · have : a < n + 1 ↔ a < n := by omega
        simp [this]
    · rename_i z
      rw [or_bit, ih]
      by_cases h : n = a
      · subst h
        simp at z
        simp [z]
      · have : a < n + 1 ↔ a < n := by omega
        simp [h, this]
theorem qi_down (scr : ScA) (b : AB) : QI scr 7 mX11_downOf [.ref 136] b (sv_down b) := by
  intro σ hR
  have h10 := hR.1.T.1
  refine E_X11_downOf (W_X11_downOf_0 ((ct_runsTold scr σ hR).weak fun s ⟨M1, S1, N1, f1⟩ => W_X11_downOf_4 ⟨?_, M1, f1⟩))
  have h2 : 2 ^ tn (aT b) ≤ 2 ^ 10 := Nat.pow_le_pow_right (by decide) h10
  rw [M1.1, N1.2.1, all10 _ h10, dif_nI (by omega) (upN_lt _ _ _ h10), ← evU_O]
  unfold sv_down
  congr 1
  apply Nat.eq_of_testBit_eq
  intro a
  rw [dwN_bit]
  rcases Nat.lt_or_ge a 10 with q | q
  · rw [dif_bit _ _ q, Nat.testBit_two_pow_sub_one, upN_bit]
    cases decide (a < tn (aT b)) <;> simp
  · have e1 : decide (a < tn (aT b)) = false := by simp; omega
    rw [e1, Bool.false_and]
    cases hb : (dif (2 ^ tn (aT b) - 1) (upN (aT b) (evU b 24) (tn (aT b)))).testBit a with
    | false => rfl
    | true => exact absurd (bit_lt (dif_lt _ (by omega)) hb) (by omega)
theorem om_down (scr : ScA) (b : AB) : OkM scr 8 mX11_down [.ref 136] b (qb (sv_down b) b) := fun σ hR => E_X11_down (W_X11_down_0 ((qi_down scr b σ hR).weak fun r2 s2 ⟨g1, g2, g3⟩ => W_X11_down_4 ⟨g1, g3.rm hR, g3.lo⟩))
