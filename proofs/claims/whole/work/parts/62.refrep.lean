/-! what the reference holds -/
theorem in_isW (x : Int32) {n : Nat} (hn : n < 2 ^ 31) : inV x 0 (nI n - 1) = isW x (nI n) := by
  unfold inV isW
  rcases pk_ix x hn with h | h | ⟨j, hj, h⟩
  · rw [if_pos h, if_pos h]
  · by_cases z : x < 0
    · rw [if_pos z, if_pos z]
    · rw [if_neg z, if_neg z, if_pos h]
      have : nI n - 1 < x := by
        rcases Nat.eq_zero_or_pos n with q | q
        · subst q
          have e : nI 0 - 1 = (-1 : Int32) := by decide
          rw [e]
          exact Int32.lt_of_lt_of_le (b := 0) (by decide) (Int32.not_lt.mp z)
        · rw [show (1 : Int32) = nI 1 from rfl, pk_sub (by omega)]
          exact Int32.lt_of_lt_of_le ((nI_lt' (by omega) hn).mpr (show n - 1 < n by omega)) h
      rw [if_pos this]
  · subst h
    have z : ¬ nI j < 0 := by rw [show (0 : Int32) = nI 0 from rfl, nI_lt' (by omega) (by omega)]; omega
    rw [if_neg z, if_neg z, show (1 : Int32) = nI 1 from rfl, pk_sub (by omega)]
    rw [if_neg (show ¬ nI (n - 1) < nI j by rw [nI_lt' (by omega) (by omega)]; omega), if_neg (show ¬ nI n ≤ nI j by rw [nI_le' hn (by omega)]; omega)]
theorem in256 (x : Int32) : inV x 0 255 = isW x 256 := in_isW x (n := 256) (by decide)
theorem in24 (x : Int32) : inV x 0 23 = isW x 24 := in_isW x (n := 24) (by decide)
theorem in17 (x : Int32) : inV x 0 16 = isW x 17 := in_isW x (n := 17) (by decide)
theorem in11 (x : Int32) : inV x 0 10 = isW x 11 := in_isW x (n := 11) (by decide)
theorem in10 (x : Int32) : inV x 0 9 = isW x 10 := in_isW x (n := 10) (by decide)
theorem in9 (x : Int32) : inV x 0 8 = isW x 9 := in_isW x (n := 9) (by decide)
theorem in5 (x : Int32) : inV x 0 4 = isW x 5 := in_isW x (n := 5) (by decide)
theorem in4 (x : Int32) : inV x 0 3 = isW x 4 := in_isW x (n := 4) (by decide)
theorem in3 (x : Int32) : inV x 0 2 = isW x 3 := in_isW x (n := 3) (by decide)
theorem in2 (x : Int32) : inV x 0 1 = isW x 2 := in_isW x (n := 2) (by decide)
def RM (σ : Sg) (b : AB) : Prop := AW b ∧ TxM σ (aB b) (aL b) ∧ (σ 136 8 = nI (aE b).1 ∧ ∀ i, i < (aE b).1 → σ 143 i = nI ((aE b).2.1 i) ∧ σ 144 i = nI ((aE b).2.2.1 i) ∧ σ 145 i = nI ((aE b).2.2.2 i)) ∧ (σ 136 43 = nI (aI b).1 ∧ ∀ i, i < (aI b).1 → σ 163 i = nI ((aI b).2.1 i) ∧ σ 164 i = nI ((aI b).2.2.1 i) ∧ σ 165 i = nI ((aI b).2.2.2 i)) ∧ (∀ s, s < 4 → σ 167 s = b2I (!aLo b s) ∧ σ 168 s = nI (aFo b s) ∧ σ 169 s = nI (aSz b s) ∧ ∀ i, i < 60 → σ 170 (60 * s + i) = aIt b s i) ∧ σ 136 53 = aF b
/-- only what is no promise of a call has changed -/
def frW (σ σ' : Sg) : Prop := ∀ a c, ¬ (138 ≤ a ∧ a ≤ 142) → ¬ (146 ≤ a ∧ a ≤ 162) → a ≠ 166 → a ≠ 171 → (a = 136 → c = 0 ∨ c = 8 ∨ c = 43 ∨ c = 53) → σ' a c = σ a c
theorem frW.refl (σ : Sg) : frW σ σ := fun _ _ _ _ _ _ _ => rfl
theorem frW.tr {σ σ' σ'' : Sg} (h : frW σ σ') (h2 : frW σ' σ'') : frW σ σ'' := fun a c z1 z2 z3 z4 z5 => by rw [h2 a c z1 z2 z3 z4 z5, h a c z1 z2 z3 z4 z5]
theorem frW.lo {σ σ' : Sg} (h : frW σ σ') : ∀ a, a < 136 → σ' a = σ a := fun a ha => funext fun c => h a c (by omega) (by omega) (by omega) (by omega) (by omega)
theorem frW.row {σ σ' : Sg} (h : frW σ σ') {a : Nat} (ha : a = 137 ∨ (143 ≤ a ∧ a ≤ 145) ∨ (163 ≤ a ∧ a ≤ 165) ∨ (167 ≤ a ∧ a ≤ 170)) : σ' a = σ a := funext fun c => h a c (by omega) (by omega) (by omega) (by omega) (by omega)
theorem frW.rm {σ σ' : Sg} {b : AB} (h : frW σ σ') (hR : RM σ b) : RM σ' b := by
  have g : ∀ c, (c = 0 ∨ c = 8 ∨ c = 43 ∨ c = 53) → σ' 136 c = σ 136 c := fun c hc => h 136 c (by omega) (by omega) (by omega) (by omega) (fun _ => hc)
  unfold RM TxM
  rw [g 0 (by omega), g 8 (by omega), g 43 (by omega), g 53 (by omega), h.row (a := 137) (by omega), h.row (a := 143) (by omega), h.row (a := 144) (by omega), h.row (a := 145) (by omega), h.row (a := 163) (by omega), h.row (a := 164) (by omega), h.row (a := 165) (by omega), h.row (a := 167) (by omega), h.row (a := 168) (by omega), h.row (a := 169) (by omega), h.row (a := 170) (by omega)]
  exact hR
theorem frR.W {σ σ' : Sg} (h : frR σ σ') : frW σ σ' := fun a c z1 z2 z3 z4 z5 => h a c (by omega) (fun q => by have := z5 q.1; omega)
theorem su_W (σ : Sg) (k j : Nat) (v : Int32) (h : (138 ≤ k ∧ k ≤ 142) ∨ (146 ≤ k ∧ k ≤ 162) ∨ k = 166 ∨ k = 171 ∨ (k = 136 ∧ ¬ (j = 0 ∨ j = 8 ∨ j = 43 ∨ j = 53))) : frW σ (su σ k j v) := fun a c z1 z2 z3 z4 z5 => by
  by_cases e : a = k
  · subst e
    rw [su_nc]
    intro q
    subst q
    rcases h with h | h | h | h | ⟨h, h'⟩
    · exact z1 h
    · exact z2 h
    · exact z3 h
    · exact z4 h
    · exact h' (z5 h)
  · rw [su_nr _ _ _ _ e]
theorem ct_reads (scr : ScA) (σ : Sg) {b : AB} (hR : RM σ b) : CvA scr 4 mX11_reads [.ref 136] σ (fun σ' => MT σ' (aT b) ∧ frW σ σ') :=
  E_X11_reads (W_X11_reads_0 ((ct_faultOf scr σ hR.2.1 hR.1.1 hR.1.2.1).weak fun r s ⟨h1, h2, h3⟩ => W_X11_reads_4 ⟨h2, fun a c z1 z2 z3 z4 z5 => h3 a c z1 (fun q => by have := z5 q.1; omega)⟩))
theorem ct_asTold (scr : ScA) (σ : Sg) {b : AB} (hR : RM σ b) : CvA scr 5 mX11_asTold [.ref 136] σ (fun σ' => MT σ' (aT b) ∧ ME σ' (aE b) 0 ∧ frW σ σ') := by
  refine E_X11_asTold (W_X11_asTold_0 ((ct_reads scr σ hR).weak fun s1 ⟨M1, f1⟩ => W_X11_asTold_4 fun s2 e2 => ?_))
  have R1 := f1.rm hR
  have h8 := hR.1.2.2.1.1
  have f2 : frW σ s2 := f1.tr (by rw [e2]; exact su_W _ _ _ _ (by omega))
  have M2 : MT s2 (aT b) := M1.fr (by rw [e2, su_nc _ _ _ _ (by omega)]) fun a z1 z2 => by rw [e2, su_off _ _ _ _ (by omega)]
  have w2 : s2 136 12 = nI (aE b).1 := by rw [e2, su_eq]; exact R1.2.2.1.1
  have key : ∀ (j i : Nat) (s : Sg), i + j = (aE b).1 → frW σ s → MT s (aT b) → s 136 12 = nI (aE b).1 → (∀ k, k < i → s 146 k = nI ((aE b).2.1 k) ∧ s 147 k = nI ((aE b).2.2.1 k) ∧ s 148 k = nI ((aE b).2.2.2 k)) → K_X11_asTold_14 scr (nI i) s (fun σ' => MT σ' (aT b) ∧ ME σ' (aE b) 0 ∧ frW σ σ') := by
    intro j
    induction j with
    | zero =>
      intro i s hi hf hM hw hv
      have : i = (aE b).1 := by omega
      subst this
      have R := hf.rm hR
      refine W_X11_asTold_14 ⟨fun _ s' e' => ⟨?_, ⟨?_, ?_, fun k hk => ?_⟩, ?_⟩, fun h => absurd (by rw [R.2.2.1.1]; exact Int32.le_refl _) h⟩
      · exact hM.fr (by rw [e', su_nc _ _ _ _ (by omega)]) fun a z1 z2 => by rw [e', su_off _ _ _ _ (by omega)]
      · rw [e', su_nc _ _ _ _ (by omega)]; exact hw
      · rw [e', su_eq]; rfl
      · rw [e', su_nr _ _ _ _ (by omega), su_nr _ _ _ _ (by omega), su_nr _ _ _ _ (by omega)]; exact hv k hk
      · exact hf.tr (by rw [e']; exact su_W _ _ _ _ (by omega))
    | succ j ih =>
      intro i s hi hf hM hw hv
      have R := hf.rm hR
      refine W_X11_asTold_14 ⟨fun h => ?_, fun _ => ⟨inB_nI (by omega) (by decide), ?_⟩⟩
      · rw [R.2.2.1.1, nI_le' (by omega) (by omega)] at h
        omega
      intro t1 d1 t2 d2 t3 d3
      rw [tN_nI (by omega)] at d1 d2 d3
      obtain ⟨q1, q2, q3⟩ := R.2.2.1.2 i (by omega)
      rw [nI_add1]
      refine ih (i + 1) t3 (by omega) ?_ ?_ ?_ fun k hk => ?_
      · refine hf.tr (frW.tr (σ' := t1) (by rw [d1]; exact su_W _ _ _ _ (by omega)) (frW.tr (σ' := t2) (by rw [d2]; exact su_W _ _ _ _ (by omega)) (by rw [d3]; exact su_W _ _ _ _ (by omega))))
      · exact hM.fr (by rw [d3, su_nr _ _ _ _ (by omega), d2, su_nr _ _ _ _ (by omega), d1, su_nr _ _ _ _ (by omega)]) fun a z1 z2 => by rw [d3, su_off _ _ _ _ (by omega), d2, su_off _ _ _ _ (by omega), d1, su_off _ _ _ _ (by omega)]
      · rw [d3, su_nr _ _ _ _ (by omega), d2, su_nr _ _ _ _ (by omega), d1, su_nr _ _ _ _ (by omega)]; exact hw
      · have v1 : t1 144 i = s 144 i := by rw [d1, su_nr _ _ _ _ (by omega)]
        have v2 : t2 145 i = s 145 i := by rw [d2, su_nr _ _ _ _ (by omega), d1, su_nr _ _ _ _ (by omega)]
        rw [v1] at d2
        rw [v2] at d3
        by_cases z : k = i
        · subst z
          refine ⟨?_, ?_, ?_⟩
          · rw [d3, su_nr _ _ _ _ (by omega), d2, su_nr _ _ _ _ (by omega), d1, su_eq]; exact q1
          · rw [d3, su_nr _ _ _ _ (by omega), d2, su_eq]; exact q2
          · rw [d3, su_eq]; exact q3
        · obtain ⟨p1, p2, p3⟩ := hv k (by omega)
          refine ⟨?_, ?_, ?_⟩
          · rw [d3, su_nr _ _ _ _ (by omega), d2, su_nr _ _ _ _ (by omega), d1, su_nc _ _ _ _ z]; exact p1
          · rw [d3, su_nr _ _ _ _ (by omega), d2, su_nc _ _ _ _ z, d1, su_nr _ _ _ _ (by omega)]; exact p2
          · rw [d3, su_nc _ _ _ _ z, d2, su_nr _ _ _ _ (by omega), d1, su_nr _ _ _ _ (by omega)]; exact p3
  exact key (aE b).1 0 s2 (by omega) f2 M2 w2 fun k hk => by omega
theorem alB_bit {E : EE} {i : Nat} (hi : i < E.1) : (alB E).testBit i = true := by
  unfold alB
  rw [Nat.testBit_two_pow_sub_one]
  simpa using hi
theorem ct_runsTold (scr : ScA) (σ : Sg) {b : AB} (hR : RM σ b) : CvA scr 6 mX11_runsTold [.ref 136] σ (fun σ' => MT σ' (aT b) ∧ MS σ' (aT b) (fin b) 0 ∧ NT σ' (aT b) (aE b) (alB (aE b)) 24 ∧ frW σ σ') := by
  refine E_X11_runsTold (W_X11_runsTold_0 ((ct_asTold scr σ hR).weak fun s1 ⟨M1, E1, f1⟩ => W_X11_runsTold_4 ?_))
  refine (ct_runs scr s1 hR.1.T M1 hR.1.2.2.1 (N := 0) (ch := alB (aE b)) (by omega) (fun i hi => by rw [alB_bit hi, Nat.zero_testBit]; rfl) E1).weak fun s2 ⟨S2, N2, f2⟩ => W_X11_runsTold_8 ⟨f2.T M1, S2, N2, f1.tr f2.W⟩
theorem ct_isAcrobat (scr : ScA) (σ : Sg) {b : AB} (hR : RM σ b) (x : Int32) : CiA scr 5 mX11_isAcrobat [.ref 136, .int x] σ (fun r σ' => r = isW x (nI (tn (aT b))) ∧ MT σ' (aT b) ∧ frW σ σ') := by
  have h10 := hR.1.T.1
  refine E_X11_isAcrobat (W_X11_isAcrobat_0 ((ct_reads scr σ hR).weak fun s1 ⟨M1, f1⟩ => W_X11_isAcrobat_4 ?_))
  rw [M1.1, in_isW x (by omega)]
  refine ⟨?_, rfl, M1, f1⟩
  unfold isW
  split
  · exact Or.inl rfl
  · split
    · exact Or.inl rfl
    · exact Or.inr rfl
/-- a call that the reference answers as it is told -/
def OkM (scr : ScA) (d : Nat) (M : MD) (as : List Value) (b : AB) (t : Int32 × AB) : Prop := ∀ σ, RM σ b → CiA scr d M as σ (fun r σ' => r = t.1 ∧ RM σ' t.2 ∧ ∀ a, a < 136 → σ' a = σ a)
/-- an inner call that only asks, and reads first -/
def QI (scr : ScA) (d : Nat) (M : MD) (as : List Value) (b : AB) (v : Int32) : Prop := ∀ σ, RM σ b → CiA scr d M as σ (fun r σ' => r = v ∧ MT σ' (aT b) ∧ frW σ σ')
theorem bad_m {b : AB} {σ : Sg} (hR : RM σ b) {v : Int32} (h : v = -2) {σ' : Sg} (hf : frW σ σ') : (-2 : Int32) = (qb v b).1 ∧ RM σ' (qb v b).2 ∧ ∀ a, a < 136 → σ' a = σ a := ⟨h.symm, hf.rm hR, hf.lo⟩
