/-! the reference: copies, counts, years -/
theorem i_neg {x : Int32} (h : x < 0) : x.toInt < 0 := by
  have := Int32.lt_iff_toInt_lt.mp h
  rw [show (0 : Int32).toInt = 0 by decide] at this
  exact this
theorem cp_sum {z : Nat} {i n : Int32} (hi : ¬ i < 0) (hn : ¬ n < 0) (hz : z ≤ 60) : ((nI z).toInt64 < i.toInt64 + n.toInt64 ↔ ¬ hrP z i n) ∧ (i.toInt64 + n.toInt64 ≤ (nI z).toInt64 ↔ hrP z i n) := by
  obtain ⟨i', hi', rfl⟩ := nI_of hi
  obtain ⟨n', hn', rfl⟩ := nI_of hn
  unfold hrP
  rw [nI_l (by omega), nI_l hi', nI_l hn', lN_add, Int64.lt_iff_toInt_lt, Int64.le_iff_toInt_le, lN_iw (by omega), lN_iw (by omega), nI_toInt hi', nI_toInt hn']
  constructor <;> omega
theorem om_copy (scr : ScA) (b : AB) (s i t j n : Int32) : OkM scr 2 mX11_copy [.ref 136, .int s, .int i, .int t, .int j, .int n] b (sp_copy b s i t j n) := by
  intro σ hR
  unfold sp_copy
  have bad : ∀ t : Int32 × AB, t = (-2, b) → (-2 : Int32) = t.1 ∧ RM σ t.2 ∧ ∀ a, a < 136 → σ a = σ a := fun t h => by rw [h]; exact ⟨rfl, hR, fun _ _ => rfl⟩
  refine E_X11_copy (W_X11_copy_0 ?_)
  rw [in4, in4]
  refine ⟨fun z => bad _ (if_pos (Or.inl z)), fun z1 => ⟨fun z2 => ?_, fun z => bad _ (if_pos (Or.inr z))⟩⟩
  rw [if_neg (show ¬ (isW s 4 = 0 ∨ isW t 4 = 0) from fun z => z.elim z1 z2)]
  obtain ⟨j1, hj1, rfl, -⟩ := (isW_or s (n := 4) (by decide)).resolve_left z1
  obtain ⟨j2, hj2, rfl, -⟩ := (isW_or t (n := 4) (by decide)).resolve_left z2
  obtain ⟨k1, k2, k3, k4⟩ := hR.2.2.2.2.1 j1 hj1
  obtain ⟨m1, m2, m3, m4⟩ := hR.2.2.2.2.1 j2 hj2
  have w1 := hR.1.2.2.2.2 j1 hj1
  have w2 := hR.1.2.2.2.2 j2 hj2
  rw [tN_nI (n := j1) (by omega), tN_nI (n := j2) (by omega), k1, m1, k2, m2, k3, m3, b2n_0, b2n_0]
  refine ⟨inB_nI hj1 (by decide), fun z => ?_, fun z => ⟨inB_nI hj2 (by decide), fun y => ⟨fun x => ?_, fun x => ?_⟩, fun y => ?_⟩⟩
  · rw [if_pos (Or.inl z)]
    exact (ct_meets scr σ hR 1).weak fun r s1 ⟨h1, h2, h3⟩ => W_X11_copy_40 ⟨h1, h2, h3⟩
  · have x' : aFo b j1 = aFo b j2 := (nI_inj (by omega) (by omega)).mp x
    rw [if_neg (show ¬ (aLo b j1 = true ∨ aLo b j2 = true) from fun q => q.elim z y), if_neg (fun q => q x')]
    have bd : (¬ hrP (aSz b j1) i n ∨ ¬ hrP (aSz b j2) j n) → CiA scr 0 mX11_meets [.ref 136, .int 2] σ (fun r9 σ' => K_X11_copy_116 scr r9 σ' (fun r σ' => r = (if ¬ hrP (aSz b j1) i n ∨ ¬ hrP (aSz b j2) j n then ((-10 - 2 : Int32), fnB b 2) else (1, shB b (cpX b j1 (Int32.toNatClampNeg i) j2 (Int32.toNatClampNeg j) (Int32.toNatClampNeg n)) (aF b))).1 ∧ RM σ' (if ¬ hrP (aSz b j1) i n ∨ ¬ hrP (aSz b j2) j n then ((-10 - 2 : Int32), fnB b 2) else (1, shB b (cpX b j1 (Int32.toNatClampNeg i) j2 (Int32.toNatClampNeg j) (Int32.toNatClampNeg n)) (aF b))).2 ∧ ∀ a, a < 136 → σ' a = σ a)) := fun h => by
      rw [if_pos h]
      exact (ct_meets scr σ hR 2).weak fun r s1 ⟨h1, h2, h3⟩ => W_X11_copy_116 ⟨h1, h2, h3⟩
    refine ⟨fun u => bd (Or.inl fun q => by have := i_neg u; have := q.1; omega), fun u1 => ⟨fun u => bd (Or.inr fun q => by have := i_neg u; have := q.1; omega), fun u2 => ⟨fun u => bd (Or.inl fun q => by have := i_neg u; have := q.2.1; omega), fun u3 => ⟨fun u => bd (Or.inl ?_), fun u4 => ⟨fun u5 => ?_, fun u5 => bd (Or.inr ?_)⟩⟩⟩⟩⟩
    · rw [lg_cmp_gt] at u
      exact (cp_sum u1 u3 w1.2).1.mp u
    · rw [lg_cmp_gt] at u4
      rw [lg_cmp_le] at u5
      have w' : hrP (aSz b j1) i n := Decidable.not_not.mp (fun q => u4 ((cp_sum u1 u3 w1.2).1.mpr q))
      have v' : hrP (aSz b j2) j n := (cp_sum u2 u3 w2.2).2.mp u5
      rw [if_neg (fun q => q.elim (fun q => q w') (fun q => q v'))]
      obtain ⟨i', n', rfl, rfl, hin⟩ := hrP_nI w' w1.2
      obtain ⟨j', n2, rfl, en, hjn⟩ := hrP_nI v' w2.2
      have : n' = n2 := by
        have hx : n' < 2 ^ 31 := by omega
        exact (nI_inj hx (by omega)).mp en
      subst this
      rw [tN_nI (n := i') (by omega), tN_nI (n := j') (by omega), tN_nI (n := n') (by omega)]
      have p2 : ∀ (r k : Nat) (g : Sg), k + r = n' → (∀ a c, a ≠ 170 → a ≠ 171 → g a c = σ a c) → (∀ x, x < n' → g 171 x = aIt b j1 (i' + x)) → (∀ u, u < 4 → ∀ y, y < 60 → g 170 (60 * u + y) = if u = j2 ∧ j' ≤ y ∧ y < j' + k then aIt b j1 (i' + (y - j')) else aIt b u y) → K_X11_copy_157 scr (nI j2) (nI j') (nI n') (nI k) g (fun r σ' => r = (1 : Int32) ∧ RM σ' (shB b (cpX b j1 i' j2 j' n') (aF b)) ∧ ∀ a, a < 136 → σ' a = σ a) := by
        intro r
        induction r with
        | zero =>
          intro k g hk hf hm hx
          have : k = n' := by omega
          subst this
          refine W_X11_copy_157 ⟨fun _ => ⟨rfl, hR.sh (fun a c y1 y2 => hf a c (by omega) (by omega)) (by rw [hf 136 53 (by omega) (by omega)]; exact hR.2.2.2.2.2) hR.1.2.2.2.2 (fun u hu => ?_)⟩, fun h => absurd (Int32.le_refl _) h⟩
          obtain ⟨p1, p2, p3, p4⟩ := hR.2.2.2.2.1 u hu
          rw [hf 167 u (by omega) (by omega), hf 168 u (by omega) (by omega), hf 169 u (by omega) (by omega)]
          exact ⟨p1, p2, p3, fun y hy => hx u hu y hy⟩
        | succ r ih =>
          intro k g hk hf hm hx
          have e60 : 60 * nI j2 + nI j' + nI k = nI (60 * j2 + j' + k) := by rw [show (60 : Int32) = nI 60 from rfl, pk_mul, nI_add, nI_add]
          refine W_X11_copy_157 ⟨fun h => ?_, fun _ => ?_⟩
          · rw [nI_le' (by omega) (by omega)] at h
            omega
          rw [e60, nI_add1]
          refine ⟨inB_nI (by omega) (by decide), inB_nI (by omega) (by decide), fun g2 d2 => ?_⟩
          rw [tN_nI (n := 60 * j2 + j' + k) (by omega), tN_nI (n := k) (by omega), hm k (by omega)] at d2
          refine ih (k + 1) g2 (by omega) (fun a c y1 y2 => by rw [d2, su_nr _ _ _ _ y1]; exact hf a c y1 y2) (fun x hx' => by rw [d2, su_nr _ _ _ _ (by omega)]; exact hm x hx') (fun u hu y hy => ?_)
          rw [d2]
          by_cases q : u = j2 ∧ y = j' + k
          · rw [if_pos ⟨q.1, by omega, by omega⟩, q.1, q.2, show 60 * j2 + (j' + k) = 60 * j2 + j' + k by omega, su_eq, show j' + k - j' = k by omega]
          · rw [su_nc _ _ _ _ (show 60 * u + y ≠ 60 * j2 + j' + k by omega), hx u hu y hy]
            by_cases q2 : u = j2 ∧ j' ≤ y ∧ y < j' + k
            · rw [if_pos q2, if_pos ⟨q2.1, q2.2.1, by omega⟩]
            · rw [if_neg q2, if_neg (by omega)]
      have p1 : ∀ (r k : Nat) (g : Sg), k + r = n' → (∀ a c, a ≠ 171 → g a c = σ a c) → (∀ x, x < k → g 171 x = aIt b j1 (i' + x)) → K_X11_copy_120 scr (nI j1) (nI i') (nI j2) (nI j') (nI n') (nI k) g (fun r σ' => r = (1 : Int32) ∧ RM σ' (shB b (cpX b j1 i' j2 j' n') (aF b)) ∧ ∀ a, a < 136 → σ' a = σ a) := by
        intro r
        induction r with
        | zero =>
          intro k g hk hf hm
          have : k = n' := by omega
          subst this
          refine W_X11_copy_120 ⟨fun _ => p2 k 0 g (by omega) (fun a c y1 y2 => hf a c y2) hm (fun u hu y hy => ?_), fun h => absurd (Int32.le_refl _) h⟩
          rw [if_neg (by omega), hf 170 _ (by omega)]
          exact (hR.2.2.2.2.1 u hu).2.2.2 y hy
        | succ r ih =>
          intro k g hk hf hm
          have e60 : 60 * nI j1 + nI i' + nI k = nI (60 * j1 + i' + k) := by rw [show (60 : Int32) = nI 60 from rfl, pk_mul, nI_add, nI_add]
          refine W_X11_copy_120 ⟨fun h => ?_, fun _ => ?_⟩
          · rw [nI_le' (by omega) (by omega)] at h
            omega
          rw [e60, nI_add1]
          refine ⟨inB_nI (by omega) (by decide), inB_nI (by omega) (by decide), fun g2 d2 => ?_⟩
          rw [tN_nI (n := 60 * j1 + i' + k) (by omega), tN_nI (n := k) (by omega), hf 170 _ (by omega), Nat.add_assoc (60 * j1) i' k, k4 (i' + k) (by omega)] at d2
          refine ih (k + 1) g2 (by omega) (fun a c y1 => by rw [d2, su_nr _ _ _ _ y1]; exact hf a c y1) (fun x hx' => ?_)
          rw [d2]
          by_cases q : x = k
          · rw [q, su_eq]
          · rw [su_nc _ _ _ _ q]; exact hm x (by omega)
      exact p1 n' 0 σ (by omega) (fun _ _ _ => rfl) (fun x hx => by omega)
    · rw [lg_cmp_le] at u5
      exact fun q => u5 ((cp_sum u2 u3 w2.2).2.mpr q)
  · rw [if_neg (show ¬ (aLo b j1 = true ∨ aLo b j2 = true) from fun q => q.elim z y), if_pos (fun q => x (by rw [q]))]
    exact (ct_meets scr σ hR 4).weak fun r s1 ⟨h1, h2, h3⟩ => W_X11_copy_61 ⟨h1, h2, h3⟩
  · rw [if_pos (Or.inr y)]
    exact (ct_meets scr σ hR 1).weak fun r s1 ⟨h1, h2, h3⟩ => W_X11_copy_40 ⟨h1, h2, h3⟩
/-- counts -/
theorem qf_count (scr : ScA) (b : AB) (x : Int32) (σ : Sg) (hR : RM σ b) : CiA scr 8 mX11_count [.ref 136, .int x] σ (fun r σ' => r = sv_count b x ∧ frW σ σ') := by
  have r0 := frW.refl σ
  refine E_X11_count (W_X11_count_0 ⟨fun z => ?_, fun z => ?_, fun z => ?_, fun z => ?_, fun z => ?_, fun z => ?_, fun z => ?_, fun z => ?_, fun z => ?_, fun n0 n1 n2 n3 n4 n5 n6 n7 n8 => ?_⟩)
  · subst z
    exact E_X11_acrobatsOf (W_X11_acrobatsOf_0 ((ct_reads scr σ hR).weak fun s1 ⟨M1, f1⟩ => W_X11_acrobatsOf_4 (W_X11_count_56 ⟨M1.1, f1⟩)))
  · subst z; exact ⟨hR.2.1.1, r0⟩
  · subst z; exact ⟨hR.2.2.1.1, r0⟩
  · subst z
    exact (qi_sum scr b (w := 0) (by decide) σ hR).weak fun r s ⟨h1, h2, h3⟩ => W_X11_count_72 ⟨h1, h3⟩
  · subst z
    exact (qi_sum scr b (w := 1) (by decide) σ hR).weak fun r s ⟨h1, h2, h3⟩ => W_X11_count_78 ⟨h1, h3⟩
  · subst z
    exact (qi_tower scr b (m := 23) (w := 0) (by decide) (by decide) σ hR).weak fun r s ⟨h1, h2, h3⟩ => W_X11_count_86 ⟨h1, h3⟩
  · subst z
    exact (qi_tower scr b (m := 23) (w := 1) (by decide) (by decide) σ hR).weak fun r s ⟨h1, h2, h3⟩ => W_X11_count_94 ⟨h1, h3⟩
  · subst z; exact ⟨hR.2.2.2.1.1, r0⟩
  · subst z; exact ⟨hR.2.2.2.2.2, r0⟩
  · refine ⟨?_, r0⟩
    unfold sv_count
    rw [if_neg n0, if_neg n1, if_neg n2, if_neg n3, if_neg n4, if_neg n5, if_neg n6, if_neg n7, if_neg n8]
theorem om_count (scr : ScA) (b : AB) (x : Int32) : OkM scr 8 mX11_count [.ref 136, .int x] b (qb (sv_count b x) b) := fun σ hR => (qf_count scr b x σ hR).weak fun r s ⟨h1, h3⟩ => ⟨h1, h3.rm hR, h3.lo⟩
/-- years -/
theorem qi_years (scr : ScA) (b : AB) {x n w : Int32} (z1 : ¬ isW n 9 = 0) (z2 : ¬ isW w 2 = 0) : QI scr 6 mX11_yearsOf [.ref 136, .int x, .int n, .int w] b (sv_years b x n w) := by
  intro σ hR
  have h10 := hR.1.T.1
  unfold sv_years
  rw [if_neg (fun z => z.elim z1 z2)]
  obtain ⟨n', hn', rfl, -⟩ := (isW_or n (n := 9) (by decide)).resolve_left z1
  rw [tN_nI (by omega)]
  have hE : EW (yE b x n') := yrE_W x h10 (show n' ≤ 8 by omega)
  refine E_X11_yearsOf (W_X11_yearsOf_0 ((ct_asTold scr σ hR).weak fun s1 ⟨M1, E1, f1⟩ => W_X11_yearsOf_4 fun s2 e2 => ?_))
  have e1 : (yE b x n').1 = if tn (aT b) = 0 then 0 else n' := rfl
  have w12 : s2 136 12 = nI (yE b x n').1 := by
    rw [e2, su_eq, M1.1, e1]
    have q : nI (tn (aT b)) = 0 ↔ tn (aT b) = 0 := by rw [show (0 : Int32) = nI 0 from rfl, nI_inj (by omega) (by omega)]
    by_cases z : tn (aT b) = 0
    · rw [if_neg (fun y => y (q.mpr z)), if_pos z]; rfl
    · rw [if_pos (fun y => z (q.mp y)), if_neg z]
  have w16 : s2 136 16 = 0 := by rw [e2, su_nc _ _ _ _ (by omega)]; exact E1.2.1
  have M2 : MT s2 (aT b) := M1.fr (by rw [e2, su_nc _ _ _ _ (by omega)]) fun a z1 z2 => by rw [e2, su_off _ _ _ _ (by omega)]
  have f2 : frW σ s2 := f1.tr (by rw [e2]; exact su_W _ _ _ _ (by omega))
  have h8 := hE.1
  have key : ∀ (j i : Nat) (s : Sg), i + j = (yE b x n').1 → MT s (aT b) → s 136 12 = nI (yE b x n').1 → s 136 16 = 0 → (∀ k, k < i → s 146 k = nI ((yE b x n').2.1 k) ∧ s 147 k = nI ((yE b x n').2.2.1 k) ∧ s 148 k = nI ((yE b x n').2.2.2 k)) → frW σ s → K_X11_yearsOf_26 scr w (lcN x (3 * i)) (nI i) s (fun r σ' => r = nI (if ¬ w = 0 then (sim (aT b) (yE b x n') (alB (yE b x n')) 24).2.2.2.2.1 else sta (aT b) (yE b x n') (alB (yE b x n'))) ∧ MT σ' (aT b) ∧ frW σ σ') := by
    intro j
    induction j with
    | zero =>
      intro i s hi M h12 h16 hv f
      have hi' : i = (yE b x n').1 := by omega
      refine W_X11_yearsOf_26 ⟨fun _ => ?_, fun h => absurd (by rw [h12, hi']; exact Int32.le_refl _) h⟩
      refine (ct_runs scr s hR.1.T M hE (N := 0) (ch := alB (yE b x n')) (by omega) nb0 ⟨h12, h16, fun k hk => hv k (by omega)⟩).weak fun s3 ⟨S3, N3, f3⟩ => W_X11_yearsOf_127 ⟨?_, f3.T M, f.tr f3.W⟩
      have g1 : s3 136 17 = nI (sta (aT b) (yE b x n') (alB (yE b x n'))) := N3.2.2.1
      have g2 : s3 136 18 = nI (sim (aT b) (yE b x n') (alB (yE b x n')) 24).2.2.2.2.1 := S3.2.2.2.1
      rw [g1, g2]
      split <;> rfl
    | succ j ih =>
      intro i s hi M h12 h16 hv f
      have tn0 : ¬ tn (aT b) = 0 := fun z => by
        rw [e1, if_pos z] at hi
        omega
      have l1 : 1103515245 * lcN x (3 * i) + 12345 = lcN x (3 * i + 1) := rfl
      have l2 : 1103515245 * lcN x (3 * i + 1) + 12345 = lcN x (3 * i + 2) := rfl
      have l3 : 1103515245 * lcN x (3 * i + 2) + 12345 = lcN x (3 * i + 3) := rfl
      have u1 := uh_lt (lcN x (3 * i + 1))
      have u2 := uh_lt (lcN x (3 * i + 2))
      have u3 := uh_lt (lcN x (3 * i + 3))
      refine W_X11_yearsOf_26 ⟨fun h => ?_, fun _ => ⟨inB_nI (by omega) (by decide), ?_⟩⟩
      · rw [h12, nI_le' (by omega) (by omega)] at h
        omega
      rw [l1, l2, l3, uh_nI, uh_nI, uh_nI, tN_nI (by omega), show (3 : Int32) = nI 3 from rfl, show (24 : Int32) = nI 24 from rfl, pk_rem (by omega) (by omega) (by omega), pk_rem (by omega) (by omega) (by omega)]
      intro t1 d1 t2 d2
      have a2 : t2 136 2 = nI (tn (aT b)) := by rw [d2, su_nr _ _ _ _ (by omega), d1, su_nr _ _ _ _ (by omega)]; exact M.1
      rw [a2]
      refine ⟨by rw [show (0 : Int32) = nI 0 from rfl, nI_inj (by omega) (by omega)]; exact tn0, fun t3 d3 => ?_⟩
      rw [pk_rem (by omega) (by omega) (by omega)] at d3
      rw [nI_add1]
      have o : ∀ a c, ¬ (146 ≤ a ∧ a ≤ 148) → t3 a c = s a c := fun a c z => by rw [d3, su_nr _ _ _ _ (by omega), d2, su_nr _ _ _ _ (by omega), d1, su_nr _ _ _ _ (by omega)]
      refine ih (i + 1) t3 (by omega) ?_ (by rw [o 136 12 (by omega)]; exact h12) (by rw [o 136 16 (by omega)]; exact h16) (fun k hk => ?_) (f.tr fun a c z1 z2 z3 z4 z5 => o a c (by omega))
      · exact M.fr (o 136 2 (by omega)) fun a z1 z2 => funext fun c => o a c (by omega)
      · by_cases z : k = i
        · subst z
          refine ⟨?_, ?_, ?_⟩
          · rw [d3, su_nr _ _ _ _ (by omega), d2, su_nr _ _ _ _ (by omega), d1, su_eq]; rfl
          · rw [d3, su_nr _ _ _ _ (by omega), d2, su_eq]; rfl
          · rw [d3, su_eq]; rfl
        · obtain ⟨p1, p2, p3⟩ := hv k (by omega)
          refine ⟨?_, ?_, ?_⟩
          · rw [d3, su_nr _ _ _ _ (by omega), d2, su_nr _ _ _ _ (by omega), d1, su_nc _ _ _ _ z]; exact p1
          · rw [d3, su_nr _ _ _ _ (by omega), d2, su_nc _ _ _ _ z, d1, su_nr _ _ _ _ (by omega)]; exact p2
          · rw [d3, su_nc _ _ _ _ z, d2, su_nr _ _ _ _ (by omega), d1, su_nr _ _ _ _ (by omega)]; exact p3
  exact key (yE b x n').1 0 s2 (by omega) M2 w12 w16 (fun k hk => by omega) f2
theorem om_years (scr : ScA) (b : AB) (x n w : Int32) : OkM scr 7 mX11_years [.ref 136, .int x, .int n, .int w] b (qb (sv_years b x n w) b) := by
  intro σ hR
  have bad : isW n 9 = 0 ∨ isW w 2 = 0 → (-2 : Int32) = (qb (sv_years b x n w) b).1 ∧ RM σ (qb (sv_years b x n w) b).2 ∧ ∀ a, a < 136 → σ a = σ a := fun h => bad_m hR (by unfold sv_years; rw [if_pos h]) (frW.refl σ)
  refine E_X11_years (W_X11_years_0 ?_)
  rw [in9, in2]
  exact ⟨fun z => bad (Or.inl z), fun z1 => ⟨fun z => bad (Or.inr z), fun z2 => (qi_years scr b z1 z2 σ hR).weak fun r2 s2 ⟨g1, g2, g3⟩ => W_X11_years_24 ⟨g1, g3.rm hR, g3.lo⟩⟩⟩
