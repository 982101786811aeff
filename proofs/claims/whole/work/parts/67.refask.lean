/-! the reference: how heavy, how strong, the next moment to look -/
theorem qi_weights (scr : ScA) (b : AB) {a : Nat} (ha : a < tn (aT b)) : QI scr 6 mX11_weightsBy [.ref 136, .int (nI a)] b (nI (wtF (aT b) (aE b) (aI b) a 9)) := by
  intro σ hR
  have h10 := hR.1.T.1
  have hE := hR.1.2.2.1
  have ib : inB (nI a) 11 = true := inB_nI (by omega) (by decide)
  refine E_X11_weightsBy (W_X11_weightsBy_0 ((ct_asTold scr σ hR).weak fun s1 ⟨M1, E1, f1⟩ => W_X11_weightsBy_4 ⟨ib, ?_⟩))
  rw [tN_nI (by omega), (M1.2 a ha).2.1]
  have key : ∀ (j i : Nat) (s : Sg) (v : Nat), i + j = 9 → MT s (weT (aT b) a v) → ME s (aE b) 0 → frW σ s → K_X11_weightsBy_16 scr (nI a) (nI (twe (aT b) a)) (nI (wtF (aT b) (aE b) (aI b) a i)) (nI (i + 1)) s (fun r σ' => r = nI (wtF (aT b) (aE b) (aI b) a 9) ∧ MT σ' (aT b) ∧ frW σ σ') := by
    intro j
    induction j with
    | zero =>
      intro i s v hi M E f
      have : i = 9 := by omega
      subst this
      refine W_X11_weightsBy_16 ⟨fun _ => ⟨ib, fun s2 e2 => ⟨rfl, ?_, f.tr (by rw [e2]; exact su_W _ _ _ _ (by rw [tN_nI (by omega)]; omega))⟩⟩, fun h => absurd (Int32.le_refl _) h⟩
      rw [tN_nI (by omega)] at e2
      have := M.we a (twe (aT b) a)
      rw [← e2, weT_we, weT_id] at this
      exact this
    | succ j ih =>
      intro i s v hi M E f
      refine W_X11_weightsBy_16 ⟨fun h => ?_, fun _ => ⟨ib, fun s2 e2 => ?_⟩⟩
      · rw [c10, nI_le' (by omega) (by omega)] at h
        omega
      rw [tN_nI (by omega)] at e2
      have M2 := M.we a (i + 1)
      have E2 := E.ws (k := 139) (j := a) (v := nI (i + 1)) (by omega)
      rw [← e2] at E2
      rw [← e2, weT_we] at M2
      have f2 : frW σ s2 := f.tr (by rw [e2]; exact su_W _ _ _ _ (by omega))
      refine (ct_isSeen scr s2 (f2.rm hR) (weT_W hR.1.T (a := a) (v := i + 1) (by omega) (by omega)) M2 (N := 0) (ch := alB (aE b)) (by omega) nb0 E2).weak fun r s3 ⟨r3, N3, f3⟩ => W_X11_weightsBy_36 ?_
      rw [r3, bits_st (by omega), nI_add1]
      exact ih (i + 1) s3 (i + 1) (by omega) (f3.T M2) (f3.E E2) (f2.tr f3.W)
  exact key 9 0 s1 (twe (aT b) a) (by omega) (by rw [weT_id]; exact M1) E1 f1
def tkM (σ : Sg) (b : AB) (a n : Nat) : Prop := ∀ v, 1 ≤ v → v ≤ n → ∀ t, t < 24 → σ 166 (24 * v + t) = nI (tkS (aT b) (aE b) a v t)
theorem tkM.fr {σ σ' : Sg} {b : AB} {a n : Nat} (h : tkM σ b a n) (hf : σ' 166 = σ 166) : tkM σ' b a n := by
  unfold tkM
  rw [hf]
  exact h
theorem ct_strengths (scr : ScA) (σ : Sg) {b : AB} (hR : RM σ b) {a : Nat} (ha : a < tn (aT b)) : CiA scr 6 mX11_strengthsBy [.ref 136, .int (nI a)] σ (fun r σ' => r = nI (sgF (aT b) (aE b) (aI b) a 9) ∧ tkM σ' b a 9 ∧ MT σ' (aT b) ∧ frW σ σ') := by
  have h10 := hR.1.T.1
  have hE := hR.1.2.2.1
  have ib : inB (nI a) 11 = true := inB_nI (by omega) (by decide)
  refine E_X11_strengthsBy (W_X11_strengthsBy_0 ((ct_asTold scr σ hR).weak fun s1 ⟨M1, E1, f1⟩ => W_X11_strengthsBy_4 ⟨ib, ?_⟩))
  rw [tN_nI (by omega), (M1.2 a ha).2.2.1]
  have key : ∀ (j i : Nat) (s : Sg) (v : Nat), i + j = 9 → MT s (stT (aT b) a v) → ME s (aE b) 0 → tkM s b a i → frW σ s → K_X11_strengthsBy_16 scr (nI a) (nI (tst (aT b) a)) (nI (sgF (aT b) (aE b) (aI b) a i)) (nI (i + 1)) s (fun r σ' => r = nI (sgF (aT b) (aE b) (aI b) a 9) ∧ tkM σ' b a 9 ∧ MT σ' (aT b) ∧ frW σ σ') := by
    intro j
    induction j with
    | zero =>
      intro i s v hi M E K f
      have : i = 9 := by omega
      subst this
      refine W_X11_strengthsBy_16 ⟨fun _ => ⟨ib, fun s2 e2 => ⟨rfl, K.fr (by rw [e2, su_off _ _ _ _ (by omega)]), ?_, f.tr (by rw [e2]; exact su_W _ _ _ _ (by rw [tN_nI (by omega)]; omega))⟩⟩, fun h => absurd (Int32.le_refl _) h⟩
      rw [tN_nI (by omega)] at e2
      have := M.st a (tst (aT b) a)
      rw [← e2, stT_st, stT_id] at this
      exact this
    | succ j ih =>
      intro i s v hi M E K f
      refine W_X11_strengthsBy_16 ⟨fun h => ?_, fun _ => ⟨ib, fun s2 e2 => ?_⟩⟩
      · rw [c10, nI_le' (by omega) (by omega)] at h
        omega
      rw [tN_nI (by omega)] at e2
      have M2 := M.st a (i + 1)
      have E2 := E.ws (k := 140) (j := a) (v := nI (i + 1)) (by omega)
      rw [← e2] at E2
      rw [← e2, stT_st] at M2
      have f2 : frW σ s2 := f.tr (by rw [e2]; exact su_W _ _ _ _ (by omega))
      have K2 : tkM s2 b a i := K.fr (by rw [e2, su_off _ _ _ _ (by omega)])
      refine (ct_isSeen scr s2 (f2.rm hR) (stT_W hR.1.T (a := a) (v := i + 1) (by omega) (by omega)) M2 (N := 0) (ch := alB (aE b)) (by omega) nb0 E2).weak fun r s3 ⟨r3, N3, f3⟩ => W_X11_strengthsBy_36 ?_
      rw [r3, bits_st (by omega)]
      have K3 : tkM s3 b a i := K2.fr (funext fun c => f3 166 c (by omega) (by omega))
      have w3 : ∀ t, t < 24 → s3 156 t = nI (tkS (aT b) (aE b) a (i + 1) t) := fun t ht => (N3.1 t ht).2.1
      have inn : ∀ (r t : Nat) (s : Sg), t + r = 24 → MT s (stT (aT b) a (i + 1)) → ME s (aE b) 0 → tkM s b a i → s 156 = s3 156 → (∀ u, u < t → s 166 (24 * (i + 1) + u) = nI (tkS (aT b) (aE b) a (i + 1) u)) → frW σ s → K_X11_strengthsBy_52 scr (nI a) (nI (tst (aT b) a)) (nI (sgF (aT b) (aE b) (aI b) a (i + 1))) (nI (i + 1)) (nI t) s (fun r σ' => r = nI (sgF (aT b) (aE b) (aI b) a 9) ∧ tkM σ' b a 9 ∧ MT σ' (aT b) ∧ frW σ σ') := by
        intro r
        induction r with
        | zero =>
          intro t s ht M E K hw hu f
          have : t = 24 := by omega
          subst this
          refine W_X11_strengthsBy_52 ⟨fun _ => ?_, fun h => absurd (Int32.le_refl _) h⟩
          rw [nI_add1]
          refine ih (i + 1) s (i + 1) (by omega) M E (fun v h1 h2 u hu' => ?_) f
          rcases Nat.lt_or_ge i v with q | q
          · rw [show v = i + 1 by omega]; exact hu u hu'
          · exact K v h1 q u hu'
        | succ r ih2 =>
          intro t s ht M E K hw hu f
          have e24 : 24 * nI (i + 1) + nI t = nI (24 * (i + 1) + t) := by rw [c24, pk_mul, nI_add]
          refine W_X11_strengthsBy_52 ⟨fun h => ?_, fun _ => ?_⟩
          · rw [c24, nI_le' (by omega) (by omega)] at h
            omega
          rw [e24]
          refine ⟨inB_nI (by omega) (by decide), inB_nI (by omega) (by decide), fun s4 e4 => ?_⟩
          rw [tN_nI (by omega), tN_nI (by omega), hw, w3 t (by omega)] at e4
          rw [nI_add1]
          refine ih2 (t + 1) s4 (by omega) ?_ ?_ (fun v h1 h2 u hu' => ?_) ?_ (fun u hu' => ?_) ?_
          · exact M.fr (by rw [e4, su_nr _ _ _ _ (by omega)]) fun x z1 z2 => by rw [e4, su_off _ _ _ _ (by omega)]
          · exact E.fr (by rw [e4, su_nr _ _ _ _ (by omega)]) (by rw [e4, su_nr _ _ _ _ (by omega)]) fun x z1 z2 => by rw [e4, su_off _ _ _ _ (by omega)]
          · rw [e4, su_nc _ _ _ _ (by omega)]; exact K v h1 h2 u hu'
          · rw [e4, su_off _ _ _ _ (by omega)]; exact hw
          · by_cases q : u = t
            · rw [q, e4, su_eq]
            · rw [e4, su_nc _ _ _ _ (by omega)]; exact hu u (by omega)
          · exact f.tr (by rw [e4]; exact su_W _ _ _ _ (by omega))
      exact inn 24 0 s3 (by omega) (f3.T M2) (f3.E E2) K3 rfl (fun u hu => by omega) (f2.tr f3.W)
  exact key 9 0 s1 (tst (aT b) a) (by omega) (by rw [stT_id]; exact M1) E1 (fun v h1 h2 => by omega) f1
theorem qi_strengths (scr : ScA) (b : AB) {a : Nat} (ha : a < tn (aT b)) : QI scr 6 mX11_strengthsBy [.ref 136, .int (nI a)] b (nI (sgF (aT b) (aE b) (aI b) a 9)) := fun σ hR => (ct_strengths scr σ hR ha).weak fun r s ⟨h1, h2, h3, h4⟩ => ⟨h1, h3, h4⟩
theorem om_was (scr : ScA) (b : AB) (x w : Int32) : OkM scr 7 mX11_was [.ref 136, .int x, .int w] b (qb (sv_was b x w) b) := by
  intro σ hR
  have h10 := hR.1.T.1
  have bad : ∀ s, frW σ s → isW x (nI (tn (aT b))) = 0 ∨ isW w 2 = 0 → (-2 : Int32) = (qb (sv_was b x w) b).1 ∧ RM s (qb (sv_was b x w) b).2 ∧ ∀ a, a < 136 → s a = σ a := fun s hf h => bad_m hR (by unfold sv_was; rw [if_pos h]) hf
  refine E_X11_was (W_X11_was_0 ((ct_isAcrobat scr σ hR x).weak fun r s ⟨h1, h2, h3⟩ => W_X11_was_5 ?_))
  rw [in2, h1]
  refine ⟨fun z => bad s h3 (Or.inl z), fun z1 => ⟨fun z => bad s h3 (Or.inr z), fun z2 => ?_⟩⟩
  obtain ⟨a, ha, rfl, -⟩ := (isW_or x (by omega)).resolve_left z1
  unfold sv_was
  rw [if_neg (fun z => z.elim z1 z2), tN_nI (by omega)]
  refine ⟨fun z => ?_, fun z => ?_⟩
  · rw [if_neg z]
    exact (qi_weights scr b ha s (h3.rm hR)).weak fun r2 s2 ⟨g1, g2, g3⟩ => W_X11_was_32 ⟨g1, (h3.tr g3).rm hR, (h3.tr g3).lo⟩
  · rw [if_pos z]
    exact (qi_strengths scr b ha s (h3.rm hR)).weak fun r2 s2 ⟨g1, g2, g3⟩ => W_X11_was_24 ⟨g1, (h3.tr g3).rm hR, (h3.tr g3).lo⟩
theorem tkS_lt {b : AB} (h : AW b) {a v t : Nat} (h1 : 1 ≤ v) (h9 : v ≤ 9) (ht : t < 24) : tkS (aT b) (aE b) a v t < 1024 := (sim_B (stT_W h.T (a := a) h1 h9) (aE b) (alB (aE b)) (t + 1) (by omega)).1
theorem qi_ask (scr : ScA) (b : AB) {a : Nat} (ha : a < tn (aT b)) : QI scr 7 mX11_askOf [.ref 136, .int (nI a)] b (nI (askN (aT b) (aE b) (aI b) a)) := by
  intro σ hR
  refine E_X11_askOf (W_X11_askOf_0 ((ct_strengths scr σ hR ha).weak fun r s ⟨r1, K1, M1, f1⟩ => W_X11_askOf_5 ?_))
  rw [r1]
  have hb : sgF (aT b) (aE b) (aI b) a 9 < 1024 := sgF_lt 9 (by omega)
  unfold askN
  generalize sgF (aT b) (aE b) (aI b) a 9 = bits at hb
  generalize htk : tkS (aT b) (aE b) a = tk
  have tkl : ∀ v t, 1 ≤ v → v ≤ 9 → t < 24 → tk v t < 1024 := fun v t h1 h2 h3 => by rw [← htk]; exact tkS_lt hR.1 h1 h2 h3
  have tke : ∀ v t, 1 ≤ v → v ≤ 9 → t < 24 → s 166 (24 * v + t) = nI (tk v t) := fun v t h1 h2 h3 => by rw [← htk]; exact K1 v h1 h2 t h3
  have k3 : ∀ (Q : Int32 → Sg → Prop) (t v : Nat) (x3 x4 x6 : Int32), t < 24 → v < 9 → (K_X11_askOf_27 scr (nI bits) x3 x4 (nI t) (if nI (alN bits tk t (v + 1) 9) ≤ x6 then x6 else nI (alN bits tk t (v + 1) 9) : Int32) (nI (v + 1 + 1)) s Q) → ∀ j i, i + j = 9 → K_X11_askOf_40 scr (nI bits) x3 x4 (nI t) x6 (nI (v + 1)) (nI (alN bits tk t (v + 1) i)) (nI (i + 1)) s Q := by
    intro Q t v x3 x4 x6 ht hv hK j
    induction j with
    | zero =>
      intro i hi
      have : i = 9 := by omega
      subst this
      refine W_X11_askOf_40 ⟨fun _ => ?_, fun h => absurd (Int32.le_refl _) h⟩
      rw [nI_add1]
      exact hK
    | succ j ih =>
      intro i hi
      refine W_X11_askOf_40 ⟨fun h => ?_, fun _ => ?_⟩
      · rw [c10, nI_le' (by omega) (by omega)] at h
        omega
      have q1 : iiV (nI bits) (nI (v + 1)) = 0 ↔ bits.testBit (v + 1) = false := iiV_0 (by omega) (by omega)
      have q2 : iiV (nI bits) (nI (i + 1)) = 0 ↔ bits.testBit (i + 1) = false := iiV_0 (by omega) (by omega)
      have e1 : 24 * nI (v + 1) + nI t = nI (24 * (v + 1) + t) := by rw [c24, pk_mul, nI_add]
      have e2 : 24 * nI (i + 1) + nI t = nI (24 * (i + 1) + t) := by rw [c24, pk_mul, nI_add]
      rw [e1, e2]
      refine ⟨fun _ _ => ⟨inB_nI (by omega) (by decide), inB_nI (by omega) (by decide)⟩, ?_⟩
      rw [tN_nI (by omega), tN_nI (by omega), tke _ _ (by omega) (by omega) ht, tke _ _ (by omega) (by omega) ht, nI_add1]
      have es : alN bits tk t (v + 1) (i + 1) = if bits.testBit (v + 1) = true ∧ bits.testBit (i + 1) = true ∧ tk (v + 1) t = tk (i + 1) t then alN bits tk t (v + 1) i + 1 else alN bits tk t (v + 1) i := rfl
      have hi' := ih (i + 1) (by omega)
      have t1 := tkl (v + 1) t (by omega) (by omega) ht
      have t2 := tkl (i + 1) t (by omega) (by omega) ht
      have add0 : ∀ x : Nat, nI x + 0 = nI x := fun x => by rw [show (0 : Int32) = nI 0 from rfl, nI_add]; rfl
      by_cases z1 : bits.testBit (v + 1) = true
      · rw [if_neg (fun y => by rw [q1.mp y] at z1; exact absurd z1 (by decide))]
        by_cases z2 : bits.testBit (i + 1) = true
        · rw [if_neg (fun y => by rw [q2.mp y] at z2; exact absurd z2 (by decide))]
          by_cases z3 : tk (v + 1) t = tk (i + 1) t
          · rw [if_neg (show ¬ ¬ nI (tk (v + 1) t) = nI (tk (i + 1) t) from fun y => y (by rw [z3])), nI_add1]
            rw [es, if_pos ⟨z1, z2, z3⟩] at hi'
            exact hi'
          · rw [if_pos (show ¬ nI (tk (v + 1) t) = nI (tk (i + 1) t) by rw [nI_inj (by omega) (by omega)]; exact z3), add0]
            rw [es, if_neg (fun y => z3 y.2.2)] at hi'
            exact hi'
        · rw [if_pos (q2.mpr (by simpa using z2)), add0]
          rw [es, if_neg (fun y => z2 y.2.1)] at hi'
          exact hi'
      · rw [if_pos (q1.mpr (by simpa using z1)), add0]
        rw [es, if_neg (fun y => z1 y.1)] at hi'
        exact hi'
  have k2 : ∀ (Q : Int32 → Sg → Prop) (t : Nat) (x3 x4 : Int32), t < 24 → (K_X11_askOf_14 scr (nI bits) (if (if x3 = (-1) then 1 else (if x4 ≤ nI (maN bits tk t 9) then 0 else 1 : Int32) : Int32) = 0 then x3 else nI t : Int32) (if (if x3 = (-1) then 1 else (if x4 ≤ nI (maN bits tk t 9) then 0 else 1 : Int32) : Int32) = 0 then x4 else nI (maN bits tk t 9) : Int32) (nI (t + 1)) s Q) → ∀ j v, v + j = 9 → K_X11_askOf_27 scr (nI bits) x3 x4 (nI t) (nI (maN bits tk t v)) (nI (v + 1)) s Q := by
    intro Q t x3 x4 ht hK j
    induction j with
    | zero =>
      intro v hv
      have : v = 9 := by omega
      subst this
      refine W_X11_askOf_27 ⟨fun _ => ?_, fun h => absurd (Int32.le_refl _) h⟩
      rw [nI_add1]
      exact hK
    | succ j ih =>
      intro v hv
      refine W_X11_askOf_27 ⟨fun h => ?_, fun _ => ?_⟩
      · rw [c10, nI_le' (by omega) (by omega)] at h
        omega
      refine k3 Q t v x3 x4 _ ht (by omega) ?_ 9 0 (by omega)
      have hi' := ih (v + 1) (by omega)
      have es : maN bits tk t (v + 1) = if maN bits tk t v < alN bits tk t (v + 1) 9 then alN bits tk t (v + 1) 9 else maN bits tk t v := rfl
      have l1 := alN_le bits tk t (v + 1) 9
      have l2 := maN_le bits tk t v
      have q : nI (alN bits tk t (v + 1) 9) ≤ nI (maN bits tk t v) ↔ ¬ maN bits tk t v < alN bits tk t (v + 1) 9 := by rw [nI_le' (by omega) (by omega)]; omega
      by_cases z : maN bits tk t v < alN bits tk t (v + 1) 9
      · rw [if_neg (fun y => q.mp y z)]
        rw [es, if_pos z] at hi'
        exact hi'
      · rw [if_pos (q.mpr z)]
        rw [es, if_neg z] at hi'
        exact hi'
  have k1 : ∀ (j t : Nat) (x3 x4 : Int32), t + j = 24 → (t = 0 → x3 = -1) → (0 < t → x3 = nI (tlN bits tk t).1 ∧ x4 = nI (tlN bits tk t).2) → K_X11_askOf_14 scr (nI bits) x3 x4 (nI t) s (fun r σ' => r = nI (tlN bits tk 24).1 ∧ MT σ' (aT b) ∧ frW σ σ') := by
    intro j
    induction j with
    | zero =>
      intro t x3 x4 ht h0 h1
      have : t = 24 := by omega
      subst this
      exact W_X11_askOf_14 ⟨fun _ => ⟨(h1 (by omega)).1, M1, f1⟩, fun h => absurd (Int32.le_refl _) h⟩
    | succ j ih =>
      intro t x3 x4 ht h0 h1
      refine W_X11_askOf_14 ⟨fun h => ?_, fun _ => ?_⟩
      · rw [c24, nI_le' (by omega) (by omega)] at h
        omega
      refine k2 _ t x3 x4 (by omega) ?_ 9 0 (by omega)
      have es : tlN bits tk (t + 1) = if maN bits tk t 9 < (tlN bits tk t).2 then (t, maN bits tk t 9) else tlN bits tk t := rfl
      have l2 := maN_le bits tk t 9
      have l3 := tlN_le bits tk t
      rcases Nat.eq_zero_or_pos t with z | z
      · subst z
        rw [if_pos (h0 rfl), if_neg (show ¬ (1 : Int32) = 0 by decide), if_neg (show ¬ (1 : Int32) = 0 by decide)]
        refine ih 1 _ _ (by omega) (fun h => by omega) fun _ => ?_
        rw [es, if_pos (show maN bits tk 0 9 < (tlN bits tk 0).2 from show maN bits tk 0 9 < 10 by omega)]
        exact ⟨rfl, rfl⟩
      · obtain ⟨g1, g2⟩ := h1 z
        rw [g1, g2, if_neg (nI_m1_ne (by omega))]
        have q : nI (tlN bits tk t).2 ≤ nI (maN bits tk t 9) ↔ ¬ maN bits tk t 9 < (tlN bits tk t).2 := by rw [nI_le' (by omega) (by omega)]; omega
        by_cases y : maN bits tk t 9 < (tlN bits tk t).2
        · rw [if_neg (fun u => q.mp u y), if_neg (show ¬ (1 : Int32) = 0 by decide), if_neg (show ¬ (1 : Int32) = 0 by decide)]
          refine ih (t + 1) _ _ (by omega) (fun h => by omega) fun _ => ?_
          rw [es, if_pos y]
          exact ⟨rfl, rfl⟩
        · rw [if_pos (q.mpr y), if_pos rfl, if_pos rfl]
          refine ih (t + 1) _ _ (by omega) (fun h => by omega) fun _ => ?_
          rw [es, if_neg y]
          exact ⟨rfl, rfl⟩
  exact k1 24 0 (-1) 0 (by omega) (fun _ => rfl) (fun h => by omega)
theorem om_ask (scr : ScA) (b : AB) (x : Int32) : OkM scr 8 mX11_ask [.ref 136, .int x] b (qb (sv_ask b x) b) := by
  intro σ hR
  have h10 := hR.1.T.1
  refine E_X11_ask (W_X11_ask_0 ((ct_isAcrobat scr σ hR x).weak fun r s ⟨h1, h2, h3⟩ => W_X11_ask_5 ?_))
  rw [h1]
  refine ⟨fun z => bad_m hR (by unfold sv_ask; rw [if_pos z]) h3, fun z => ?_⟩
  obtain ⟨a, ha, rfl, -⟩ := (isW_or x (by omega)).resolve_left z
  unfold sv_ask
  rw [if_neg z, tN_nI (by omega)]
  exact (qi_ask scr b ha s (h3.rm hR)).weak fun r2 s2 ⟨g1, g2, g3⟩ => W_X11_ask_13 ⟨g1, (h3.tr g3).rm hR, (h3.tr g3).lo⟩
