/-! the class's calls that only ask -/
def qb (v : Int32) (b : AB) : Int32 × AB := (v, b)
theorem badq {b : AB} {σ : Sg} (hR : RC σ b) {v : Int32} (h : v = -2) : (-2 : Int32) = (qb v b).1 ∧ RC σ (qb v b).2 ∧ ∀ a, 136 ≤ a → σ a = σ a := ⟨h.symm, hR, fun _ _ => rfl⟩
def sv_acrobat (b : AB) (x w : Int32) : Int32 := if isW x (nI (tn (aT b))) = 0 then -2 else if w = 0 then nI (tso (aT b) (Int32.toNatClampNeg x)) else if w = 1 then nI (twe (aT b) (Int32.toNatClampNeg x)) else if w = 2 then nI (tst (aT b) (Int32.toNatClampNeg x)) else if w = 3 then nI (tco (aT b) (Int32.toNatClampNeg x)) else if w = 4 then nI (tpl (aT b) (Int32.toNatClampNeg x)) else -2
theorem ok_acrobat (scr : ScA) (b : AB) (x w : Int32) : OkC scr 1 mX10_acrobat [.ref 0, .int x, .int w] b (qb (sv_acrobat b x w) b) := by
  intro σ hR
  obtain ⟨hW, hB, -⟩ := id hR
  have hC := hB.2.1
  have h10 := hW.T.1
  unfold sv_acrobat
  refine E_X10_acrobat (W_X10_acrobat_0 ?_)
  rw [hC.1]
  refine ⟨fun h => ?_, fun h => badq hR (if_pos h)⟩
  rw [if_neg h]
  obtain ⟨j, hj, rfl, -⟩ := (isW_or x (by omega)).resolve_left h
  obtain ⟨e1, e2, e3, e4, e5⟩ := hC.2.1 j hj
  have ib : inB (nI j) 10 = true := inB_nI (by omega) (by decide)
  rw [tN_nI (by omega)]
  refine ⟨fun w0 => ⟨ib, ?_, hR, fun _ _ => rfl⟩, fun w1 => ⟨ib, ?_, hR, fun _ _ => rfl⟩, fun w2 => ⟨ib, ?_, hR, fun _ _ => rfl⟩, fun w3 => ⟨ib, ?_, hR, fun _ _ => rfl⟩, fun w4 => ⟨ib, ?_, hR, fun _ _ => rfl⟩, fun n0 n1 n2 n3 n4 => ⟨?_, hR, fun _ _ => rfl⟩⟩
  · subst w0; exact e1
  · subst w1; exact e2
  · subst w2; exact e3
  · subst w3; exact e4
  · subst w4; exact e5
  · show (-2 : Int32) = _
    unfold qb
    rw [if_neg n0, if_neg n1, if_neg n2, if_neg n3, if_neg n4]
def sv_at (b : AB) (m x w : Int32) : Int32 := if isW m 24 = 0 ∨ isW x (nI (tn (aT b))) = 0 ∨ isW w 4 = 0 then -2 else nI (fac (aT b) (sim (aT b) (aE b) (alB (aE b)) (Int32.toNatClampNeg m + 1)) (ldAt (aT b) (aE b) (alB (aE b)) (Int32.toNatClampNeg m) (sim (aT b) (aE b) (alB (aE b)) (Int32.toNatClampNeg m))) (Int32.toNatClampNeg m) (Int32.toNatClampNeg x) (Int32.toNatClampNeg w))
theorem ok_at (scr : ScA) (b : AB) (m x w : Int32) : OkC scr 5 mX10_at [.ref 0, .int m, .int x, .int w] b (qb (sv_at b m x w) b) := by
  intro σ hR
  obtain ⟨hW, hB, -⟩ := id hR
  have hC := hB.2.1
  have h10 := hW.T.1
  unfold sv_at
  refine E_X10_at (W_X10_at_0 ?_)
  rw [hC.1]
  refine ⟨fun z => badq hR (if_pos (Or.inl z)), fun z1 => ⟨fun z => badq hR (if_pos (Or.inr (Or.inl z))), fun z2 => ⟨fun z3 => ?_, fun z => badq hR (if_pos (Or.inr (Or.inr z)))⟩⟩⟩
  rw [if_neg (fun z => z.elim z1 fun z => z.elim z2 z3)]
  obtain ⟨j1, hj1, rfl, -⟩ := (isW_or m (n := 24) (by decide)).resolve_left z1
  obtain ⟨j2, hj2, rfl, -⟩ := (isW_or x (by omega)).resolve_left z2
  obtain ⟨j3, hj3, rfl, -⟩ := (isW_or w (n := 4) (by decide)).resolve_left z3
  refine (ok_played scr b σ hR).weak fun r s ⟨hr, R1, P1, f1⟩ => ⟨hr, W_X10_at_38 ⟨inB_nI hj1 (by decide), ?_⟩⟩
  rw [c4, pk_mul, nI_add, tN_nI (by omega), tN_nI (by omega), tN_nI (by omega), tN_nI (by omega), show 24 + 1 + 1 * j1 = 25 + j1 by omega, show j2 * 4 + j3 = 4 * j2 + j3 by omega]
  exact ⟨inB_nI (by omega) (by decide), P1.2.2.2 rfl j1 hj1 j2 hj2 j3 hj3, R1, f1⟩
def sv_stands (b : AB) (m p : Int32) : Int32 := if isW m 24 = 0 ∨ isW p 10 = 0 then -2 else wsI (aT b) (aE b) (alB (aE b)) (Int32.toNatClampNeg m) (Int32.toNatClampNeg p)
theorem ok_stands (scr : ScA) (b : AB) (m p : Int32) : OkC scr 5 mX10_stands [.ref 0, .int m, .int p] b (qb (sv_stands b m p) b) := by
  intro σ hR
  obtain ⟨hW, hB, -⟩ := id hR
  unfold sv_stands
  refine E_X10_stands (W_X10_stands_0 ⟨fun z => badq hR (if_pos (Or.inl z)), fun z1 => ⟨fun z2 => ?_, fun z => badq hR (if_pos (Or.inr z))⟩⟩)
  rw [if_neg (fun z => z.elim z1 z2)]
  obtain ⟨j1, hj1, rfl, -⟩ := (isW_or m (n := 24) (by decide)).resolve_left z1
  obtain ⟨j2, hj2, rfl, -⟩ := (isW_or p (n := 10) (by decide)).resolve_left z2
  refine (ok_played scr b σ hR).weak fun r s ⟨hr, R1, P1, f1⟩ => ⟨hr, W_X10_stands_25 ?_⟩
  rw [wh_nI hW.T R1.2.1.2.1 P1 hj1 hj2, tN_nI (by omega), tN_nI (by omega)]
  exact ⟨rfl, R1, f1⟩
def htN (x : Nat) : Nat := (if x &&& 15 = 0 then 0 else 1) + (if x &&& 112 = 0 then 0 else 1) + (if x &&& 384 = 0 then 0 else 1) + (if x &&& 512 = 0 then 0 else 1)
def tknA (b : AB) (m : Nat) : Nat := (sim (aT b) (aE b) (alB (aE b)) (m + 1)).1
theorem tknA_lt {b : AB} (h : AW b) {m : Nat} (hm : m < 24) : tknA b m < 1024 := (sim_B h.T _ _ (m + 1) (by omega)).1
def sv_tower (b : AB) (m w : Int32) : Int32 := if isW m 24 = 0 ∨ isW w 2 = 0 then -2 else nI (if ¬ w = 0 then htN (tknA b (Int32.toNatClampNeg m)) else pop (tknA b (Int32.toNatClampNeg m)))
theorem ok_tower (scr : ScA) (b : AB) (m w : Int32) : OkC scr 5 mX10_tower [.ref 0, .int m, .int w] b (qb (sv_tower b m w) b) := by
  intro σ hR
  obtain ⟨hW, hB, -⟩ := id hR
  unfold sv_tower
  refine E_X10_tower (W_X10_tower_0 ⟨fun z => badq hR (if_pos (Or.inl z)), fun z1 => ⟨fun z2 => ?_, fun z => badq hR (if_pos (Or.inr z))⟩⟩)
  rw [if_neg (fun z => z.elim z1 z2)]
  obtain ⟨j1, hj1, rfl, -⟩ := (isW_or m (n := 24) (by decide)).resolve_left z1
  refine (ok_played scr b σ hR).weak fun r s ⟨hr, R1, P1, f1⟩ => ⟨hr, W_X10_tower_24 ⟨inB_nI hj1 (by decide), ?_⟩⟩
  have e : s 19 j1 = nI (tknA b j1) := P1.2.1 j1 hj1
  rw [tN_nI (by omega), e, htV_nI _ (tknA_lt hW hj1), bcV_nI _ (tknA_lt hW hj1)]
  refine ⟨?_, R1, f1⟩
  show _ = nI (if ¬ w = 0 then htN (tknA b j1) else pop (tknA b j1))
  split <;> rfl
def fin (b : AB) : SS := sim (aT b) (aE b) (alB (aE b)) 24
def sv_sum (b : AB) (w : Int32) : Int32 := if isW w 2 = 0 then -2 else nI (if w = 0 then sta (aT b) (aE b) (alB (aE b)) else (fin b).2.2.2.2.1)
theorem ok_sum (scr : ScA) (b : AB) (w : Int32) : OkC scr 5 mX10_sum [.ref 0, .int w] b (qb (sv_sum b w) b) := by
  intro σ hR
  unfold sv_sum
  refine E_X10_sum (W_X10_sum_0 ⟨fun z1 => ⟨fun z => ?_, fun z => ?_⟩, fun z => badq hR (if_pos z)⟩)
  · rw [if_neg z1, if_neg z]
    exact (ok_played scr b σ hR).weak fun r s ⟨hr, R1, P1, f1⟩ => ⟨hr, W_X10_sum_29 ⟨P1.1.2.2.1, R1, f1⟩⟩
  · rw [if_neg z1, if_pos z]
    exact (ok_played scr b σ hR).weak fun r s ⟨hr, R1, P1, f1⟩ => ⟨hr, W_X10_sum_19 ⟨P1.2.2.1, R1, f1⟩⟩
def oI (o : Option Nat) : Int32 := match o with
  | some x => nI x
  | none => -1
def tpF (b : AB) : Nat → Option Nat
  | 0 => none
  | m + 1 => if (tknA b m).testBit 9 = true then (match tpF b m with
    | some x => some x
    | none => some m) else tpF b m
def tpM (b : AB) : Nat → Nat
  | 0 => 0
  | m + 1 => if (tknA b m).testBit 9 = true then tpM b m + 1 else tpM b m
theorem tpF_lt (b : AB) : ∀ m x, tpF b m = some x → x < m
  | 0, x, h => by cases h
  | m + 1, x, h => by
    unfold tpF at h
    split at h
    · cases h1 : tpF b m with
      | some y =>
        rw [h1] at h
        cases h
        have := tpF_lt b m x h1
        omega
      | none =>
        rw [h1] at h
        cases h
        omega
    · have := tpF_lt b m x h
      omega
def sv_top (b : AB) (w : Int32) : Int32 := if isW w 2 = 0 then -2 else if ¬ w = 0 then nI (tpM b 24) else oI (tpF b 24)
theorem ok_top (scr : ScA) (b : AB) (w : Int32) : OkC scr 5 mX10_top [.ref 0, .int w] b (qb (sv_top b w) b) := by
  intro σ hR
  obtain ⟨hW, hB, -⟩ := id hR
  unfold sv_top
  refine E_X10_top (W_X10_top_0 ⟨fun z1 => ?_, fun z => badq hR (if_pos z)⟩)
  rw [if_neg z1]
  refine (ok_played scr b σ hR).weak fun r s ⟨hr, R1, P1, f1⟩ => ⟨hr, W_X10_top_15 ?_⟩
  have key : ∀ (j m : Nat), m + j = 24 → K_X10_top_27 scr w (oI (tpF b m)) (nI (tpM b m)) (nI m) s (fun r σ' => r = (qb (if ¬ w = 0 then nI (tpM b 24) else oI (tpF b 24)) b).1 ∧ RC σ' (qb (if ¬ w = 0 then nI (tpM b 24) else oI (tpF b 24)) b).2 ∧ ∀ a, 136 ≤ a → σ' a = σ a) := by
    intro j
    induction j with
    | zero =>
      intro m hm
      have : m = 24 := by omega
      subst this
      exact W_X10_top_27 ⟨fun _ => ⟨rfl, R1, f1⟩, fun h => absurd (Int32.le_refl _) h⟩
    | succ j ih =>
      intro m hm
      refine W_X10_top_27 ⟨fun h => ?_, fun _ => ⟨inB_nI (by omega) (by decide), ?_⟩⟩
      · rw [c24, nI_le' (by omega) (by omega)] at h
        omega
      have e : s 19 m = nI (tknA b m) := P1.2.1 m (by omega)
      have hlt := tknA_lt hW (m := m) (by omega)
      have q : hbV (nI (tknA b m)) 9 = 0 ↔ (tknA b m).testBit 9 = false := hbV_0 (p := 9) (by omega) (by omega)
      rw [tN_nI (by omega), e, nI_add1, nI_add1]
      have i1 := ih (m + 1) (by omega)
      by_cases z : (tknA b m).testBit 9 = true
      · have z' : ¬ hbV (nI (tknA b m)) 9 = 0 := fun y => by rw [q.mp y] at z; exact absurd z (by decide)
        rw [if_neg z', if_neg z']
        rw [tpM, if_pos z, tpF, if_pos z] at i1
        have e2 : (if ¬ oI (tpF b m) = (-1) then oI (tpF b m) else nI m : Int32) = oI (match tpF b m with | some x => some x | none => some m) := by
          cases h : tpF b m with
          | none => exact if_neg (fun y => y rfl)
          | some x => exact if_pos (nI_m1_ne (by have := tpF_lt b m x h; omega))
        rw [e2]
        exact i1
      · have z' : hbV (nI (tknA b m)) 9 = 0 := q.mpr (by simpa using z)
        rw [if_pos z', if_pos z']
        rw [tpM, if_neg z, tpF, if_neg z] at i1
        exact i1
  exact key 24 0 (by omega)
def moN (b : AB) : Nat → Nat
  | 0 => 0
  | j + 1 => if pop (tknA b (moN b j)) < pop (tknA b (j + 1)) then j + 1 else moN b j
theorem moN_le (b : AB) : ∀ j, moN b j ≤ j
  | 0 => Nat.le_refl _
  | j + 1 => by
    have := moN_le b j
    unfold moN
    split <;> omega
def sv_most (b : AB) (w : Int32) : Int32 := if isW w 2 = 0 then -2 else nI (if ¬ w = 0 then moN b 23 else pop (tknA b (moN b 23)))
theorem ok_most (scr : ScA) (b : AB) (w : Int32) : OkC scr 5 mX10_most [.ref 0, .int w] b (qb (sv_most b w) b) := by
  intro σ hR
  obtain ⟨hW, hB, -⟩ := id hR
  unfold sv_most
  refine E_X10_most (W_X10_most_0 ⟨fun z1 => ?_, fun z => badq hR (if_pos z)⟩)
  rw [if_neg z1]
  refine (ok_played scr b σ hR).weak fun r s ⟨hr, R1, P1, f1⟩ => ⟨hr, W_X10_most_15 ?_⟩
  have pe : ∀ m, m < 24 → bcV (s 19 (nI m).toNatClampNeg) = nI (pop (tknA b m)) := fun m hm => by
    have e : s 19 m = nI (tknA b m) := P1.2.1 m hm
    rw [tN_nI (by omega), e, bcV_nI _ (tknA_lt hW hm)]
  have key : ∀ (j m : Nat), m + j = 23 → K_X10_most_24 scr w (nI (moN b m)) (nI (m + 1)) s (fun r σ' => r = (qb (nI (if ¬ w = 0 then moN b 23 else pop (tknA b (moN b 23)))) b).1 ∧ RC σ' (qb (nI (if ¬ w = 0 then moN b 23 else pop (tknA b (moN b 23)))) b).2 ∧ ∀ a, 136 ≤ a → σ' a = σ a) := by
    intro j
    induction j with
    | zero =>
      intro m hm
      have : m = 23 := by omega
      subst this
      have hl := moN_le b 23
      refine W_X10_most_24 ⟨fun _ => ⟨fun _ => inB_nI (by omega) (by decide), ?_, R1, f1⟩, fun h => absurd (Int32.le_refl _) h⟩
      rw [pe _ (by omega)]
      show _ = nI (if ¬ w = 0 then moN b 23 else pop (tknA b (moN b 23)))
      split <;> rfl
    | succ j ih =>
      intro m hm
      have hl := moN_le b m
      refine W_X10_most_24 ⟨fun h => ?_, fun _ => ⟨inB_nI (by omega) (by decide), inB_nI (by omega) (by decide), ?_⟩⟩
      · rw [c24, nI_le' (by omega) (by omega)] at h
        omega
      rw [pe _ (by omega), pe _ (by omega), nI_add1]
      have i1 := ih (m + 1) (by omega)
      have p1 := pop_le (tknA b (m + 1))
      have p2 := pop_le (tknA b (moN b m))
      have q : nI (pop (tknA b (m + 1))) ≤ nI (pop (tknA b (moN b m))) ↔ ¬ pop (tknA b (moN b m)) < pop (tknA b (m + 1)) := by rw [nI_le' (by omega) (by omega)]; omega
      by_cases z : pop (tknA b (moN b m)) < pop (tknA b (m + 1))
      · rw [if_neg (fun y => q.mp y z)]
        rw [moN, if_pos z] at i1
        exact i1
      · rw [if_pos (q.mpr z)]
        rw [moN, if_neg z] at i1
        exact i1
  exact key 23 0 (by omega)
def cluN (b : AB) : Nat → Option Nat × Nat
  | 0 => (none, 0)
  | a + 1 => if (cluN b a).2 < (fin b).2.2.1 a then (some a, (fin b).2.2.1 a) else cluN b a
theorem cluN_le {b : AB} (h : AW b) : ∀ a, a ≤ tn (aT b) → (cluN b a).2 ≤ 7296
  | 0, _ => by show 0 ≤ 7296; omega
  | a + 1, ha => by
    have ih := cluN_le h a (by omega)
    have := ((sim_B h.T (aE b) (alB (aE b)) 24 (by omega)).2.1 a (by omega)).2.1
    unfold cluN
    split
    · exact this
    · exact ih
def sv_clumsy (b : AB) : Int32 := oI (cluN b (tn (aT b))).1
theorem ok_clumsy (scr : ScA) (b : AB) : OkC scr 5 mX10_clumsy [.ref 0] b (qb (sv_clumsy b) b) := by
  intro σ hR
  obtain ⟨hW, hB, -⟩ := id hR
  have h10 := hW.T.1
  refine E_X10_clumsy (W_X10_clumsy_0 ((ok_played scr b σ hR).weak fun r s ⟨hr, R1, P1, f1⟩ => ⟨hr, W_X10_clumsy_4 ?_⟩))
  have hn : s 3 6 = nI (tn (aT b)) := R1.2.1.2.1.1
  have key : ∀ (j a : Nat), a + j = tn (aT b) → K_X10_clumsy_15 scr (oI (cluN b a).1) (nI (cluN b a).2) (nI a) s (fun r σ' => r = (qb (sv_clumsy b) b).1 ∧ RC σ' (qb (sv_clumsy b) b).2 ∧ ∀ a, 136 ≤ a → σ' a = σ a) := by
    intro j
    induction j with
    | zero =>
      intro a ha
      have : a = tn (aT b) := by omega
      subst this
      exact W_X10_clumsy_15 ⟨fun _ => ⟨rfl, R1, f1⟩, fun h => absurd (by rw [hn]; exact Int32.le_refl _) h⟩
    | succ j ih =>
      intro a ha
      refine W_X10_clumsy_15 ⟨fun h => ?_, fun _ => ⟨inB_nI (by omega) (by decide), ?_⟩⟩
      · rw [hn, nI_le' (by omega) (by omega)] at h
        omega
      have e : s 21 a = nI ((fin b).2.2.1 a) := (P1.1.2.1 a (by omega)).2.1
      have l1 := ((sim_B hW.T (aE b) (alB (aE b)) 24 (by omega)).2.1 a (by omega)).2.1
      have l1' : (fin b).2.2.1 a ≤ 304 * 24 := l1
      have l2 := cluN_le hW a (by omega)
      rw [tN_nI (by omega), e, nI_add1]
      have q : nI ((fin b).2.2.1 a) ≤ nI (cluN b a).2 ↔ ¬ (cluN b a).2 < (fin b).2.2.1 a := by rw [nI_le' (by omega) (by omega)]; omega
      have i1 := ih (a + 1) (by omega)
      by_cases z : (cluN b a).2 < (fin b).2.2.1 a
      · rw [if_neg (fun y => q.mp y z), if_neg (fun y => q.mp y z)]
        rw [cluN, if_pos z] at i1
        exact i1
      · rw [if_pos (q.mpr z), if_pos (q.mpr z)]
        rw [cluN, if_neg z] at i1
        exact i1
  exact key (tn (aT b)) 0 (by omega)
def evU (b : AB) : Nat → Nat
  | 0 => 0
  | m + 1 => evU b m ||| tknA b m
theorem evU_lt {b : AB} (h : AW b) : ∀ m, m ≤ 24 → evU b m < 1024
  | 0, _ => (show 0 < 1024 by omega)
  | m + 1, hm => or_lt (n := 10) (evU_lt h m (by omega)) (tknA_lt h (by omega))
def dwN (b : AB) : Nat → Nat
  | 0 => 0
  | a + 1 => if (evU b 24).testBit (tpl (aT b) a) = true then dwN b a else dwN b a ||| 2 ^ a
def sv_down (b : AB) : Int32 := nI (dwN b (tn (aT b)))
theorem ok_down (scr : ScA) (b : AB) : OkC scr 5 mX10_down [.ref 0] b (qb (sv_down b) b) := by
  intro σ hR
  obtain ⟨hW, hB, -⟩ := id hR
  have h10 := hW.T.1
  refine E_X10_down (W_X10_down_0 ((ok_played scr b σ hR).weak fun r s ⟨hr, R1, P1, f1⟩ => ⟨hr, W_X10_down_4 ?_⟩))
  have hC := R1.2.1.2.1
  have hn : s 3 6 = nI (tn (aT b)) := hC.1
  have key2 : ∀ (j a : Nat), a + j = tn (aT b) → K_X10_down_35 scr (nI (evU b 24)) (nI (dwN b a)) (nI a) s (fun r σ' => r = (qb (sv_down b) b).1 ∧ RC σ' (qb (sv_down b) b).2 ∧ ∀ a, 136 ≤ a → σ' a = σ a) := by
    intro j
    induction j with
    | zero =>
      intro a ha
      have : a = tn (aT b) := by omega
      subst this
      exact W_X10_down_35 ⟨fun _ => ⟨rfl, R1, f1⟩, fun h => absurd (by rw [hn]; exact Int32.le_refl _) h⟩
    | succ j ih =>
      intro a ha
      refine W_X10_down_35 ⟨fun h => ?_, fun _ => ⟨inB_nI (by omega) (by decide), ?_⟩⟩
      · rw [hn, nI_le' (by omega) (by omega)] at h
        omega
      have e : s 8 a = nI (tpl (aT b) a) := (hC.2.1 a (by omega)).2.2.2.2
      have hp := (hW.T.2.1 a (by omega)).2.2.2.2.2.2
      have hl := evU_lt hW 24 (by omega)
      rw [tN_nI (by omega), e, nI_add1, shl1 (by omega), or_nI]
      have q : hbV (nI (evU b 24)) (nI (tpl (aT b) a)) = 0 ↔ (evU b 24).testBit (tpl (aT b) a) = false := hbV_0 (by omega) (by omega)
      have i1 := ih (a + 1) (by omega)
      by_cases z : (evU b 24).testBit (tpl (aT b) a) = true
      · have z' : ¬ hbV (nI (evU b 24)) (nI (tpl (aT b) a)) = 0 := fun y => by rw [q.mp y] at z; exact absurd z (by decide)
        rw [if_pos z']
        rw [dwN, if_pos z] at i1
        exact i1
      · rw [if_neg (fun y => y (q.mpr (by simpa using z)))]
        rw [dwN, if_neg z] at i1
        exact i1
  have key1 : ∀ (j m : Nat), m + j = 24 → K_X10_down_12 scr (nI (evU b m)) (nI m) s (fun r σ' => r = (qb (sv_down b) b).1 ∧ RC σ' (qb (sv_down b) b).2 ∧ ∀ a, 136 ≤ a → σ' a = σ a) := by
    intro j
    induction j with
    | zero =>
      intro m hm
      have : m = 24 := by omega
      subst this
      exact W_X10_down_12 ⟨fun _ => key2 (tn (aT b)) 0 (by omega), fun h => absurd (Int32.le_refl _) h⟩
    | succ j ih =>
      intro m hm
      refine W_X10_down_12 ⟨fun h => ?_, fun _ => ⟨inB_nI (by omega) (by decide), ?_⟩⟩
      · rw [c24, nI_le' (by omega) (by omega)] at h
        omega
      have e : s 19 m = nI (tknA b m) := P1.2.1 m (by omega)
      rw [tN_nI (by omega), e, or_nI, nI_add1]
      exact ih (m + 1) (by omega)
  exact key1 24 0 (by omega)
