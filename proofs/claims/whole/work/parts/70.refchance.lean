/-! the reference: chances -/
theorem cmp_bit {n x i : Nat} (hx : x < 2 ^ n) : (2 ^ n - 1 - x).testBit i = (decide (i < n) && !x.testBit i) := by
  rw [show 2 ^ n - 1 - x = 2 ^ n - (x + 1) by omega, Nat.testBit_two_pow_sub_succ hx]
def wgR (c x : Nat) : Nat → Nat
  | 0 => 1
  | i + 1 => wgR c x i * (if x.testBit i = true then 16 - c else c)
theorem wg_sh {c n x : Nat} (hx : x < 2 ^ n) : ∀ i, i ≤ n → wgR c x i = shN c (2 ^ n - 1 - x) i
  | 0, _ => rfl
  | i + 1, h => by
    have ih := wg_sh (c := c) hx i (by omega)
    unfold wgR shN
    rw [ih, cmp_bit hx, decide_eq_true (show i < n by omega), Bool.true_and]
    cases x.testBit i <;> rfl
theorem gcd_odd {a : Nat} (h : ¬ a % 2 = 0) : ∀ k, Nat.gcd a (2 ^ k) = 1
  | 0 => by rw [Nat.pow_zero, Nat.gcd_one_right]
  | k + 1 => by
    have h2 : Nat.Coprime a 2 := by
      show Nat.gcd a 2 = 1
      rw [Nat.gcd_comm, Nat.gcd_rec, show a % 2 = 1 by omega]
      decide
    exact Nat.Coprime.pow_right _ h2
theorem rd_gcd : ∀ (f k a : Nat), k ≤ f → rdN f a (2 ^ k) = (a / Nat.gcd a (2 ^ k), 2 ^ k / Nat.gcd a (2 ^ k))
  | 0, k, a, h => by
    have : k = 0 := by omega
    subst this
    show (a, 1) = _
    rw [Nat.pow_zero, Nat.gcd_one_right, Nat.div_one]
  | f + 1, k, a, h => by
    have hr : rdN (f + 1) a (2 ^ k) = if a % 2 = 0 ∧ 2 ^ k % 2 = 0 then rdN f (a / 2) (2 ^ k / 2) else (a, 2 ^ k) := rfl
    rw [hr]
    cases k with
    | zero =>
      rw [if_neg (by simp), Nat.pow_zero, Nat.gcd_one_right, Nat.div_one, Nat.div_one]
    | succ k =>
      have e2 : 2 ^ (k + 1) = 2 * 2 ^ k := by rw [Nat.pow_succ]; omega
      have e3 : 2 ^ (k + 1) / 2 = 2 ^ k := by rw [e2]; omega
      by_cases z : a % 2 = 0
      · rw [if_pos ⟨z, by rw [e2]; omega⟩, e3, rd_gcd f k (a / 2) (by omega)]
        have ea : a = 2 * (a / 2) := by omega
        have eg : Nat.gcd a (2 ^ (k + 1)) = 2 * Nat.gcd (a / 2) (2 ^ k) := by
          rw [e2]
          conv => lhs; rw [ea]
          rw [Nat.gcd_mul_left]
        rw [eg, ← Nat.div_div_eq_div_mul, ← Nat.div_div_eq_div_mul, e3]
      · rw [if_neg (fun q => z q.1), gcd_odd z, Nat.div_one, Nat.div_one]
theorem lN_div {a d : Nat} (ha : a < 2 ^ 62) (h0 : 0 < d) (hd : d < 2 ^ 62) : lN a / lN d = lN (a / d) := by
  apply Int64.toInt_inj.mp
  have h1 : a / d ≤ a := Nat.div_le_self _ _
  rw [lg_ldiv_nonneg (by rw [lN_iw (by omega)]; omega) (by rw [lN_iw (by omega)]; omega), lN_iw (by omega), lN_iw (by omega), lN_iw (by omega)]
  exact (Int.natCast_ediv a d).symm
theorem lN_rem {a d : Nat} (ha : a < 2 ^ 62) (h0 : 0 < d) (hd : d < 2 ^ 62) : lN a - lN a / lN d * lN d = lN (a % d) := by
  have h1 : a / d * d ≤ a := Nat.div_mul_le_self a d
  rw [lN_div ha h0 hd, lN_mul, lN_sub h1]
  congr 1
  have := Nat.div_add_mod a d
  have e : a / d * d = d * (a / d) := Nat.mul_comm _ _
  omega
theorem ct_lowest (scr : ScA) (σ : Sg) {a c : Nat} (ha : a < 2 ^ 62) (hc : c < 2 ^ 62) (h0 : 0 < c) (w : Int32) : ClA scr 0 mX11_lowest [.long (lN a), .long (lN c), .int w] σ (fun r σ' => r = lN (if ¬ w = 0 then c / Nat.gcd a c else a / Nat.gcd a c) ∧ σ' = σ) := by
  refine E_X11_lowest (W_X11_lowest_0 ?_)
  have g0 : 0 < Nat.gcd a c := Nat.gcd_pos_of_pos_right _ h0
  have key : ∀ (f y x : Nat), y ≤ f → x < 2 ^ 62 → y < 2 ^ 62 → Nat.gcd x y = Nat.gcd a c → K_X11_lowest_6 scr (lN a) (lN c) w (lN x) (lN y) σ (fun r σ' => r = lN (if ¬ w = 0 then c / Nat.gcd a c else a / Nat.gcd a c) ∧ σ' = σ) := by
    have fi : ∀ x, x < 2 ^ 62 → Nat.gcd x 0 = Nat.gcd a c → (¬ w = 0 → ¬ lN x = 0) ∧ (w = 0 → ¬ lN x = 0) ∧ (if ¬ w = 0 then lN c / lN x else lN a / lN x : Int64) = lN (if ¬ w = 0 then c / Nat.gcd a c else a / Nat.gcd a c) ∧ σ = σ := fun x hx hg => by
      rw [Nat.gcd_zero_right] at hg
      have nz : ¬ lN x = 0 := fun q => by
        rw [show (0 : Int64) = lN 0 from rfl, ← Int64.toInt_inj, lN_iw (by omega), lN_iw (by omega)] at q
        omega
      refine ⟨fun _ => nz, fun _ => nz, ?_, rfl⟩
      rw [lN_div hc (by omega) hx, lN_div ha (by omega) hx, hg]
      split <;> rfl
    intro f
    induction f with
    | zero =>
      intro y x hy hx hy' hg
      have : y = 0 := by omega
      subst this
      exact W_X11_lowest_6 ⟨fun _ => fi x hx hg, fun h => absurd ((lg_cmp_eq _ _).mpr rfl) h⟩
    | succ f ih =>
      intro y x hy hx hy' hg
      rcases Nat.eq_zero_or_pos y with z | z
      · subst z
        exact W_X11_lowest_6 ⟨fun _ => fi x hx hg, fun h => absurd ((lg_cmp_eq _ _).mpr rfl) h⟩
      · have nz : ¬ lN y = 0 := fun q => by
          rw [show (0 : Int64) = lN 0 from rfl, ← Int64.toInt_inj, lN_iw (by omega), lN_iw (by omega)] at q
          omega
        refine W_X11_lowest_6 ⟨fun h => absurd ((lg_cmp_eq _ _).mp h) nz, fun _ => ⟨nz, ?_⟩⟩
        rw [lN_rem hx z hy']
        have hm : x % y < y := Nat.mod_lt _ z
        refine ih (x % y) y (by omega) hy' (by omega) ?_
        rw [← hg, Nat.gcd_comm x y, Nat.gcd_rec y x, Nat.gcd_comm]
  exact key c c a (Nat.le_refl _) ha hc rfl
theorem ff_in {f m : Nat} (hf : f ≤ 24) (hm : m < 24) : inV (ffI f) 0 (nI m) = 0 ↔ ¬ f ≤ m := by
  unfold ffI inV
  by_cases z : f = 24
  · rw [if_pos z, if_pos (show (-1 : Int32) < 0 by decide)]
    exact ⟨fun _ => by omega, fun _ => rfl⟩
  · rw [if_neg z, if_neg (nI_pos (by omega))]
    by_cases y : f ≤ m
    · rw [if_neg (by rw [nI_lt' (by omega) (by omega)]; omega)]
      exact ⟨fun q => absurd q (by decide), fun q => absurd y q⟩
    · rw [if_pos (by rw [nI_lt' (by omega) (by omega)]; omega)]
      exact ⟨fun _ => y, fun _ => rfl⟩
def QL (scr : ScA) (d : Nat) (M : MD) (as : List Value) (b : AB) (v : Int64) : Prop := ∀ σ, RM σ b → ClA scr d M as σ (fun r σ' => r = v ∧ MT σ' (aT b) ∧ frW σ σ')
def OmL (scr : ScA) (d : Nat) (M : MD) (as : List Value) (b : AB) (v : Int64) : Prop := ∀ σ, RM σ b → ClA scr d M as σ (fun r σ' => r = v ∧ RM σ' b ∧ ∀ a, a < 136 → σ' a = σ a)
theorem wg16 {c : Nat} (hc : c ≤ 16) (x : Nat) : ∀ i, wgR c x i ≤ 16 ^ i
  | 0 => Nat.le_refl _
  | i + 1 => by
    have ih := wg16 hc x i
    have e : 16 ^ (i + 1) = 16 ^ i * 16 := Nat.pow_succ ..
    unfold wgR
    rw [e]
    refine Nat.mul_le_mul ih ?_
    split <;> omega
theorem ql_chance (scr : ScA) (b : AB) {c m w : Int32} (z1 : ¬ isW c 17 = 0) (z2 : ¬ isW m 24 = 0) (z3 : ¬ isW w 2 = 0) : QL scr 6 mX11_chanceOf [.ref 136, .int c, .int m, .int w] b (sv_chance b c m w) := by
  intro σ hR
  have hE := hR.1.2.2.1
  have h8 := hE.1
  have hT := hR.1.T
  unfold sv_chance
  rw [if_neg (fun z => z.elim z1 fun z => z.elim z2 z3)]
  obtain ⟨j1, hj1, rfl, -⟩ := (isW_or c (n := 17) (by decide)).resolve_left z1
  obtain ⟨j2, hj2, rfl, -⟩ := (isW_or m (n := 24) (by decide)).resolve_left z2
  rw [tN_nI (by omega), tN_nI (by omega)]
  have p8 : 2 ^ (aE b).1 ≤ 256 := by
    have : 2 ^ (aE b).1 ≤ 2 ^ 8 := Nat.pow_le_pow_right (by decide) h8
    omega
  have p32 : 16 ^ (aE b).1 ≤ 4294967296 := Nat.le_trans (Nat.pow_le_pow_right (by decide) h8) (by decide)
  have hA : chS (aT b) (aE b) j1 j2 (2 ^ (aE b).1) < 2 ^ 62 := by
    have h1 := chS_le (T := aT b) hE (c := j1) (m := j2) (by omega) (2 ^ (aE b).1)
    omega
  refine E_X11_chanceOf (W_X11_chanceOf_0 ((ct_asTold scr σ hR).weak fun s1 ⟨M1, E1, f1⟩ => W_X11_chanceOf_4 ?_))
  have key : ∀ (j k : Nat) (s : Sg) (N A : Nat), k + j = 2 ^ (aE b).1 → MT s (aT b) → ME s (aE b) N → frW σ s → A + chS (aT b) (aE b) j1 j2 (2 ^ (aE b).1 - k) = chS (aT b) (aE b) j1 j2 (2 ^ (aE b).1) → K_X11_chanceOf_10 scr (nI j1) (nI j2) w (lN A) (nI k) s (fun r σ' => r = lN (if ¬ w = 0 then (chP b j1 j2).2 else (chP b j1 j2).1) ∧ MT σ' (aT b) ∧ frW σ σ') := by
    intro j
    induction j with
    | zero =>
      intro k s N A hk M E f hA'
      have hk' : k = 2 ^ (aE b).1 := by omega
      have h8' : s 136 8 = nI (aE b).1 := (f.rm hR).2.2.1.1
      have eA : A = chS (aT b) (aE b) j1 j2 (2 ^ (aE b).1) := by
        rw [hk', Nat.sub_self] at hA'
        have : chS (aT b) (aE b) j1 j2 0 = 0 := rfl
        omega
      refine W_X11_chanceOf_10 ⟨fun _ => ?_, fun h => absurd ?_ h⟩
      · rw [h8', l16 _ h8]
        refine (ct_lowest scr s (by rw [eA]; exact hA) (show 16 ^ (aE b).1 < 2 ^ 62 by omega) (Nat.pow_pos (by decide)) w).weak fun r s2 ⟨hr, hs⟩ => W_X11_chanceOf_127 ?_
        rw [hs]
        refine ⟨?_, M, f⟩
        have e16 : 16 ^ (aE b).1 = 2 ^ (4 * (aE b).1) := by rw [Nat.pow_mul]
        have ep : chP b j1 j2 = (A / Nat.gcd A (16 ^ (aE b).1), 16 ^ (aE b).1 / Nat.gcd A (16 ^ (aE b).1)) := by
          unfold chP
          rw [← eA, e16]
          exact rd_gcd 32 _ A (by omega)
        rw [hr, ep]
      · rw [h8', shl1 (by omega), hk']
        exact Int32.le_refl _
    | succ j ih =>
      intro k s N A hk M E f hA'
      have h8' : s 136 8 = nI (aE b).1 := (f.rm hR).2.2.1.1
      have hkx : k < 2 ^ (aE b).1 := by omega
      have es : chS (aT b) (aE b) j1 j2 (2 ^ (aE b).1 - k) = chS (aT b) (aE b) j1 j2 (2 ^ (aE b).1 - (k + 1)) + (if ffN (aT b) (aE b) (2 ^ (aE b).1 - (k + 1)) ≤ j2 then shN j1 (2 ^ (aE b).1 - (k + 1)) (aE b).1 else 0) := by
        rw [show 2 ^ (aE b).1 - k = (2 ^ (aE b).1 - (k + 1)) + 1 by omega]
        rfl
      have ecm : 2 ^ (aE b).1 - 1 - k = 2 ^ (aE b).1 - (k + 1) := by omega
      have ew := wg_sh (c := j1) hkx (aE b).1 (Nat.le_refl _)
      rw [ecm] at ew
      have hA2 : A ≤ chS (aT b) (aE b) j1 j2 (2 ^ (aE b).1) := by omega
      refine W_X11_chanceOf_10 ⟨fun h => ?_, fun _ => ?_⟩
      · rw [h8', shl1 (by omega), nI_le' (by omega) (by omega)] at h
        omega
      have wl := wg16 (c := j1) (by omega) k (aE b).1
      have inn : ∀ (r i : Nat), i + r = (aE b).1 → K_X11_chanceOf_27 scr (nI j1) (nI j2) w (lN A) (nI k) (lN (wgR j1 k i)) (nI i) s (fun r σ' => r = lN (if ¬ w = 0 then (chP b j1 j2).2 else (chP b j1 j2).1) ∧ MT σ' (aT b) ∧ frW σ σ') := by
        intro r
        induction r with
        | zero =>
          intro i hi
          have : i = (aE b).1 := by omega
          subst this
          have q : lg_cmp (lN (wgR j1 k (aE b).1)) 0 ≤ 0 ↔ wgR j1 k (aE b).1 = 0 := by
            rw [lg_cmp_le, Int64.le_iff_toInt_le, lN_iw (by omega), show (0 : Int64).toInt = 0 by decide]
            omega
          refine W_X11_chanceOf_27 ⟨fun _ => ⟨fun h => ?_, fun h s2 e2 => ?_⟩, fun h => absurd (by rw [h8']; exact Int32.le_refl _) h⟩
          · have h0 := q.mp h
            rw [nI_add1]
            refine ih (k + 1) s N A (by omega) M E f ?_
            rw [es, ← ew, h0, ite_self] at hA'
            omega
          · have M2 := M.nt (nI k)
            have E2 := E.nt k
            rw [← e2] at M2 E2
            have nbk : ∀ i, i < (aE b).1 → (2 ^ (aE b).1 - (k + 1)).testBit i = !k.testBit i := fun i hi => by
              rw [← ecm, cmp_bit hkx, decide_eq_true hi, Bool.true_and]
            refine (ct_runs scr s2 hT M2 hE (N := k) (ch := 2 ^ (aE b).1 - (k + 1)) (by omega) nbk E2).weak fun s3 ⟨S3, N3, f3⟩ => W_X11_chanceOf_84 ?_
            have e19 : s3 136 19 = ffI (ffN (aT b) (aE b) (2 ^ (aE b).1 - (k + 1))) := S3.2.2.2.2
            have fl := ffN_le hT (aE b) (2 ^ (aE b).1 - (k + 1))
            have fq := ff_in fl hj2
            rw [e19, nI_add1]
            have f2 : frW σ s2 := f.tr (by rw [e2]; exact su_W _ _ _ _ (by omega))
            by_cases y : ffN (aT b) (aE b) (2 ^ (aE b).1 - (k + 1)) ≤ j2
            · rw [if_neg (fun u => fq.mp u y), lN_add]
              refine ih (k + 1) s3 k _ (by omega) (f3.T M2) (f3.E E2) (f2.tr f3.W) ?_
              rw [es, if_pos y, ← ew] at hA'
              omega
            · rw [if_pos (fq.mpr y), show (0 : Int64) = lN 0 from rfl, lN_add]
              refine ih (k + 1) s3 k _ (by omega) (f3.T M2) (f3.E E2) (f2.tr f3.W) ?_
              rw [es, if_neg y] at hA'
              omega
        | succ r ih2 =>
          intro i hi
          refine W_X11_chanceOf_27 ⟨fun h => ?_, fun _ => ?_⟩
          · rw [h8', nI_le' (by omega) (by omega)] at h
            omega
          have q : iiV (nI k) (nI i) = 0 ↔ k.testBit i = false := iiV_0 (by omega) (by omega)
          rw [show (16 : Int32) = nI 16 from rfl, pk_sub (by omega), nI_l (by omega), nI_l (by omega), nI_add1]
          have i1 := ih2 (i + 1) (by omega)
          have ee : wgR j1 k (i + 1) = wgR j1 k i * (if k.testBit i = true then 16 - j1 else j1) := rfl
          rw [ee] at i1
          by_cases y : k.testBit i = true
          · rw [if_neg (fun u => by rw [q.mp u] at y; exact absurd y (by decide)), lN_mul]
            rw [if_pos y] at i1
            exact i1
          · rw [if_pos (q.mpr (by simpa using y)), lN_mul]
            rw [if_neg y] at i1
            exact i1
      exact inn (aE b).1 0 (by omega)
  exact key (2 ^ (aE b).1) 0 s1 0 0 (by omega) M1 E1 f1 (by rw [Nat.sub_zero, Nat.zero_add])
theorem om_chance (scr : ScA) (b : AB) (c m w : Int32) : OmL scr 7 mX11_chance [.ref 136, .int c, .int m, .int w] b (sv_chance b c m w) := by
  intro σ hR
  have bad : isW c 17 = 0 ∨ isW m 24 = 0 ∨ isW w 2 = 0 → ((-9223372036854775808) - (Int32.toInt64 (-2)) : Int64) = sv_chance b c m w ∧ RM σ b ∧ ∀ a, a < 136 → σ a = σ a := fun h => by
    unfold sv_chance
    rw [if_pos h]
    exact ⟨by decide, hR, fun _ _ => rfl⟩
  refine E_X11_chance (W_X11_chance_0 ?_)
  rw [in17, in24, in2]
  exact ⟨fun z => bad (Or.inl z), fun z1 => ⟨fun z => bad (Or.inr (Or.inl z)), fun z2 => ⟨fun z => bad (Or.inr (Or.inr z)), fun z3 => (ql_chance scr b z1 z2 z3 σ hR).weak fun r2 s2 ⟨g1, g2, g3⟩ => W_X11_chance_31 ⟨g1, g3.rm hR, g3.lo⟩⟩⟩⟩
