/-! a run with numbers alone, for the constructors: an evaluator and its soundness -/
abbrev Ch : Type := Nat × Nat × List (Nat × Nat × Nat) × List (Nat × Nat × Int32)
def gA : List (Nat × Nat × Nat) → Nat → Nat → Option Nat
  | [], _, _ => none
  | e :: L, a, b => if a = e.1 ∧ b = e.2.1 then some e.2.2 else gA L a b
def gI : List (Nat × Nat × Int32) → Nat → Nat → Int32
  | [], _, _ => 0
  | e :: L, a, b => if a = e.1 ∧ b = e.2.1 then e.2.2 else gI L a b
def cH (h : Ch) : Hp := (h.1, h.2.1, S0, gA h.2.2.1, gI h.2.2.2)
def frA (n : Nat) : List (Nat × Nat × Nat) → Bool
  | [] => true
  | e :: L => decide (e.1 < n) && frA n L
def frI (n : Nat) : List (Nat × Nat × Int32) → Bool
  | [] => true
  | e :: L => decide (e.1 < n) && frI n L
theorem gA_fr {n : Nat} : ∀ (L : List (Nat × Nat × Nat)), frA n L = true → ∀ a b, n ≤ a → gA L a b = none
  | [], _, a, b, _ => rfl
  | e :: L, h, a, b, ha => by
    obtain ⟨h1, h2⟩ := Bool.and_eq_true_iff.mp h
    have h1 := of_decide_eq_true h1
    have es : gA (e :: L) a b = if a = e.1 ∧ b = e.2.1 then some e.2.2 else gA L a b := rfl
    rw [es, if_neg (by omega)]
    exact gA_fr L h2 a b ha
theorem gI_fr {n : Nat} : ∀ (L : List (Nat × Nat × Int32)), frI n L = true → ∀ a b, n ≤ a → gI L a b = 0
  | [], _, a, b, _ => rfl
  | e :: L, h, a, b, ha => by
    obtain ⟨h1, h2⟩ := Bool.and_eq_true_iff.mp h
    have h1 := of_decide_eq_true h1
    have es : gI (e :: L) a b = if a = e.1 ∧ b = e.2.1 then e.2.2 else gI L a b := rfl
    rw [es, if_neg (by omega)]
    exact gI_fr L h2 a b ha
theorem ru_gA (L : List (Nat × Nat × Nat)) (k b t : Nat) : ru (gA L) k b (some t) = gA ((k, b, t) :: L) := rfl
theorem su_gI (L : List (Nat × Nat × Int32)) (k b : Nat) (v : Int32) : su (gI L) k b v = gI ((k, b, v) :: L) := rfl
theorem rr_gA {n : Nat} {L : List (Nat × Nat × Nat)} (h : frA n L = true) : rr (gA L) n (fun _ => none) = gA L := by
  funext a b
  unfold rr
  by_cases e : a = n
  · rw [if_pos e, gA_fr L h a b (by omega)]
  · rw [if_neg e]
theorem sr_gI {n : Nat} {L : List (Nat × Nat × Int32)} (h : frI n L = true) : sr (gI L) n (fun _ => 0) = gI L := by
  funext a b
  unfold sr
  by_cases e : a = n
  · rw [if_pos e, gI_fr L h a b (by omega)]
  · rw [if_neg e]
theorem up_S0 {n : Nat} {x : Nat × Nat} (h : S0 n = x) : va_up S0 n x = S0 := by
  funext a
  unfold va_up
  by_cases e : a = n
  · rw [if_pos e, e, h]
  · rw [if_neg e]
def mnE (n0 : Nat) : Nat → List (Nat × Nat × Nat) → List (Nat × Nat × Nat)
  | 0, L => L
  | N + 1, L => (n0, N, n0 + 1 + N) :: mnE n0 N L
theorem gA_mnE (n0 : Nat) (L : List (Nat × Nat × Nat)) : ∀ (N a b : Nat), gA (mnE n0 N L) a b = if a = n0 ∧ b < N then some (n0 + 1 + b) else gA L a b
  | 0, a, b => by
    rw [if_neg (by omega)]
    rfl
  | N + 1, a, b => by
    have es : gA (mnE n0 (N + 1) L) a b = if a = n0 ∧ b = N then some (n0 + 1 + N) else gA (mnE n0 N L) a b := rfl
    rw [es, gA_mnE n0 L N a b]
    by_cases e : a = n0 ∧ b = N
    · rw [if_pos e, if_pos ⟨e.1, by omega⟩, e.2]
    · rw [if_neg e]
      by_cases e2 : a = n0 ∧ b < N
      · rw [if_pos e2, if_pos ⟨e2.1, by omega⟩]
      · rw [if_neg e2, if_neg (by omega)]
def mnOk (n0 K : Nat) : Nat → Bool
  | 0 => true
  | N + 1 => decide (S0 (n0 + 1 + N) = (1, K)) && mnOk n0 K N
theorem mnOk_at {n0 K : Nat} : ∀ N, mnOk n0 K N = true → ∀ i, i < N → S0 (n0 + 1 + i) = (1, K)
  | 0, _, i, h => by omega
  | N + 1, h, i, hi => by
    obtain ⟨h1, h2⟩ := Bool.and_eq_true_iff.mp h
    rcases Nat.lt_or_ge i N with q | q
    · exact mnOk_at N h2 i q
    · rw [show i = N by omega]; exact of_decide_eq_true h1
theorem mnS_S0 {n0 N K : Nat} (h1 : S0 n0 = (5, N)) (h2 : mnOk n0 K N = true) : mnS S0 n0 N K = S0 := by
  funext a
  unfold mnS
  by_cases e : a = n0
  · rw [if_pos e, e, h1]
  · rw [if_neg e]
    by_cases e2 : n0 < a ∧ a ≤ n0 + N
    · rw [if_pos e2]
      have := mnOk_at N h2 (a - n0 - 1) (by omega)
      rw [show n0 + 1 + (a - n0 - 1) = a by omega] at this
      exact this.symm
    · rw [if_neg e2]
theorem mnR_gA {n0 N : Nat} {L : List (Nat × Nat × Nat)} (h : frA n0 L = true) : mnR (gA L) n0 N = gA (mnE n0 N L) := by
  funext a b
  rw [gA_mnE]
  unfold mnR
  by_cases e : a = n0
  · rw [if_pos e]
    by_cases e2 : b < N
    · rw [if_pos e2, if_pos ⟨e, e2⟩]
    · rw [if_neg e2, if_neg (fun q => e2 q.2), gA_fr L h a b (by omega)]
  · rw [if_neg e, if_neg (show ¬ (a = n0 ∧ b < N) from fun q => e q.1)]
    by_cases e2 : n0 < a ∧ a ≤ n0 + N
    · rw [if_pos e2, gA_fr L h a b (by omega)]
    · rw [if_neg e2]
theorem mnV_gI {n0 N : Nat} {L : List (Nat × Nat × Int32)} (h : frI n0 L = true) : mnV (gI L) n0 N = gI L := by
  funext a b
  unfold mnV
  by_cases e : n0 ≤ a ∧ a ≤ n0 + N
  · rw [if_pos e, gI_fr L h a b e.1]
  · rw [if_neg e]
/-! one plain instruction -/
def toC (r : Bool × LsA × List Value × Hp) (h : Ch) : Option (LsA × List Value × Ch) := if r.1 = true then some (r.2.1, r.2.2.1, h) else none
theorem toC_ok {r : Bool × LsA × List Value × Hp} {h h' : Ch} {ls' : LsA} {st' : List Value} (hh : r.2.2.2 = cH h) (e : toC r h = some (ls', st', h')) : r = (true, ls', st', cH h') := by
  obtain ⟨r1, r2, r3, r4⟩ := r
  have hh' : r4 = cH h := hh
  subst hh'
  unfold toC at e
  split at e
  · rename_i z
    have z' : r1 = true := z
    cases e
    rw [z']
  · cases e
def esP (a b o : Nat) (ls : LsA) (st : List Value) (h : Ch) : Option (LsA × List Value × Ch) := match st with
  | .int v :: .ref k :: r => if kO h.1 S0 k a = true ∧ (o = 0 ∨ (o = 2 ∧ (v = 0 ∨ v = 1))) then some (ls, r, (h.1, h.2.1, h.2.2.1, (k, b, v) :: h.2.2.2)) else none
  | .ref t :: .ref k :: r => if kO h.1 S0 k a = true ∧ o = 1 then some (ls, r, (h.1, h.2.1, (k, b, t) :: h.2.2.1, h.2.2.2)) else none
  | _ => none
theorem esP_ok {a b o : Nat} {ls ls' : LsA} {st st' : List Value} {h h' : Ch} (e : esP a b o ls st h = some (ls', st', h')) : putA a b o ls st (cH h) = (true, ls', st', cH h') := by
  unfold esP at e
  split at e
  · split at e
    · rename_i z
      cases e
      obtain ⟨z1, z2⟩ := z
      rcases z2 with z2 | ⟨z2, z3⟩
      · subst z2
        show (kO h.1 S0 _ a, _) = _
        rw [z1]
        rfl
      · subst z2
        show (kO h.1 S0 _ a && decide _, _) = _
        rw [z1, decide_eq_true z3]
        rfl
    · cases e
  · split at e
    · rename_i z
      cases e
      obtain ⟨z1, z2⟩ := z
      subst z2
      show (kO h.1 S0 _ a, _) = _
      rw [z1]
      rfl
    · cases e
  · cases e
def esI (ls : LsA) (st : List Value) (h : Ch) : Option (LsA × List Value × Ch) := match st with
  | .int x :: .int i :: .ref k :: r => if kA h.1 S0 k 1 i = true then some (ls, r, (h.1, h.2.1, h.2.2.1, (k, i.toNatClampNeg, x) :: h.2.2.2)) else none
  | _ => none
theorem esI_ok {ls ls' : LsA} {st st' : List Value} {h h' : Ch} (e : esI ls st h = some (ls', st', h')) : isA ls st (cH h) = (true, ls', st', cH h') := by
  unfold esI at e
  split at e
  · split at e
    · rename_i z
      cases e
      show (kA h.1 S0 _ 1 _, _) = _
      rw [z]
      rfl
    · cases e
  · cases e
def esA (ls : LsA) (st : List Value) (h : Ch) : Option (LsA × List Value × Ch) := match st with
  | .ref t :: .int i :: .ref k :: r => if ((kA h.1 S0 k 3 i && kO h.1 S0 t 0) || (kA h.1 S0 k 4 i && kO h.1 S0 t 4)) = true then some (ls, r, (h.1, h.2.1, (k, i.toNatClampNeg, t) :: h.2.2.1, h.2.2.2)) else none
  | _ => none
theorem esA_ok {ls ls' : LsA} {st st' : List Value} {h h' : Ch} (e : esA ls st h = some (ls', st', h')) : asA ls st (cH h) = (true, ls', st', cH h') := by
  unfold esA at e
  split at e
  · split at e
    · rename_i z
      cases e
      show ((kA h.1 S0 _ 3 _ && kO h.1 S0 _ 0) || (kA h.1 S0 _ 4 _ && kO h.1 S0 _ 4), _) = _
      rw [z]
      rfl
    · cases e
  · cases e
def esN (N1 W1 a : Nat) (ls : LsA) (st : List Value) (h : Ch) : Option (LsA × List Value × Ch) := if S0 h.1 = (0, a) ∧ frA h.1 h.2.2.1 = true ∧ frI h.1 h.2.2.2 = true ∧ h.1 + 1 ≤ N1 ∧ h.2.1 + nF a ≤ W1 then some (ls, .ref h.1 :: st, (h.1 + 1, h.2.1 + nF a, h.2.2.1, h.2.2.2)) else none
theorem esN_ok {N1 W1 a : Nat} {ls ls' : LsA} {st st' : List Value} {h h' : Ch} (e : esN N1 W1 a ls st h = some (ls', st', h')) : nwA N1 W1 a ls st (cH h) = (true, ls', st', cH h') := by
  unfold esN at e
  split at e
  · rename_i z
    obtain ⟨z1, z2, z3, z4, z5⟩ := z
    cases e
    show (decide (h.1 + 1 ≤ N1 ∧ h.2.1 + nF a ≤ W1), ls, .ref h.1 :: st, (h.1 + 1, h.2.1 + nF a, va_up S0 h.1 (0, a), rr (gA h.2.2.1) h.1 (fun _ => none), sr (gI h.2.2.2) h.1 (fun _ => 0))) = _
    rw [up_S0 z1, rr_gA z2, sr_gI z3, decide_eq_true ⟨z4, z5⟩]
    rfl
  · cases e
def esW (N1 W1 a : Nat) (ls : LsA) (st : List Value) (h : Ch) : Option (LsA × List Value × Ch) := match st with
  | .int n :: r => if ¬ n < 0 ∧ n.toNatClampNeg ≤ 1000 ∧ S0 h.1 = (a + 1, n.toNatClampNeg) ∧ frA h.1 h.2.2.1 = true ∧ frI h.1 h.2.2.2 = true ∧ h.1 + 1 ≤ N1 ∧ h.2.1 + n.toNatClampNeg ≤ W1 then some (ls, .ref h.1 :: r, (h.1 + 1, h.2.1 + n.toNatClampNeg, h.2.2.1, h.2.2.2)) else none
  | _ => none
theorem esW_ok {N1 W1 a : Nat} {ls ls' : LsA} {st st' : List Value} {h h' : Ch} (e : esW N1 W1 a ls st h = some (ls', st', h')) : naA N1 W1 a ls st (cH h) = (true, ls', st', cH h') := by
  unfold esW at e
  split at e
  · split at e
    · rename_i n r z
      obtain ⟨y1, y2, z1, z2, z3, z4, z5⟩ := z
      cases e
      show (decide (¬ n < 0 ∧ n.toNatClampNeg ≤ 1000 ∧ h.1 + 1 ≤ N1 ∧ h.2.1 + n.toNatClampNeg ≤ W1), ls, .ref h.1 :: r, (h.1 + 1, h.2.1 + n.toNatClampNeg, va_up S0 h.1 (a + 1, n.toNatClampNeg), rr (gA h.2.2.1) h.1 (fun _ => none), sr (gI h.2.2.2) h.1 (fun _ => 0))) = _
      rw [up_S0 z1, rr_gA z2, sr_gI z3, decide_eq_true ⟨y1, y2, z4, z5⟩]
      rfl
    · cases e
  · cases e
def esM (N1 W1 : Nat) (ls : LsA) (st : List Value) (h : Ch) : Option (LsA × List Value × Ch) := match st with
  | .int k :: .int n :: r => if ¬ n < 0 ∧ ¬ k < 0 ∧ n.toNatClampNeg ≤ 1000 ∧ k.toNatClampNeg ≤ 1000 ∧ S0 h.1 = (5, n.toNatClampNeg) ∧ mnOk h.1 k.toNatClampNeg n.toNatClampNeg = true ∧ frA h.1 h.2.2.1 = true ∧ frI h.1 h.2.2.2 = true ∧ h.1 + (1 + n.toNatClampNeg) ≤ N1 ∧ h.2.1 + (n.toNatClampNeg + n.toNatClampNeg * k.toNatClampNeg) ≤ W1 then some (ls, .ref h.1 :: r, (h.1 + (1 + n.toNatClampNeg), h.2.1 + (n.toNatClampNeg + n.toNatClampNeg * k.toNatClampNeg), mnE h.1 n.toNatClampNeg h.2.2.1, h.2.2.2)) else none
  | _ => none
theorem esM_ok {N1 W1 : Nat} {ls ls' : LsA} {st st' : List Value} {h h' : Ch} (e : esM N1 W1 ls st h = some (ls', st', h')) : mnA N1 W1 ls st (cH h) = (true, ls', st', cH h') := by
  unfold esM at e
  split at e
  · split at e
    · rename_i k n r z
      obtain ⟨y1, y2, y3, y4, z1, z2, z3, z4, z5, z6⟩ := z
      cases e
      show (decide (¬ n < 0 ∧ ¬ k < 0 ∧ n.toNatClampNeg ≤ 1000 ∧ k.toNatClampNeg ≤ 1000 ∧ h.1 + (1 + n.toNatClampNeg) ≤ N1 ∧ h.2.1 + (n.toNatClampNeg + n.toNatClampNeg * k.toNatClampNeg) ≤ W1), ls, .ref h.1 :: r, (h.1 + (1 + n.toNatClampNeg), h.2.1 + (n.toNatClampNeg + n.toNatClampNeg * k.toNatClampNeg), mnS S0 h.1 n.toNatClampNeg k.toNatClampNeg, mnR (gA h.2.2.1) h.1 n.toNatClampNeg, mnV (gI h.2.2.2) h.1 n.toNatClampNeg)) = _
      rw [mnS_S0 z1 z2, mnR_gA z3, mnV_gI z4, decide_eq_true ⟨y1, y2, y3, y4, z5, z6⟩]
      rfl
    · cases e
  · cases e
def esL (ls : LsA) (st : List Value) (h : Ch) : Option (LsA × List Value × Ch) := match st with
  | .ref k :: r => if k < h.1 ∧ 1 ≤ (S0 k).1 ∧ (S0 k).1 ≤ 5 then some (ls, .int (Int32.ofNat (S0 k).2) :: r, h) else none
  | _ => none
theorem esL_ok {scr : ScA} {ls ls' : LsA} {st st' : List Value} {h h' : Ch} (e : esL ls st h = some (ls', st', h')) : alA scr ls st (cH h) = (true, ls', st', cH h') := by
  unfold esL at e
  split at e
  · split at e
    · rename_i k r z
      cases e
      show (decide (k < h.1 ∧ 1 ≤ (S0 k).1 ∧ (S0 k).1 ≤ 5), _) = _
      rw [decide_eq_true z]
      rfl
    · cases e
  · cases e
def es (N1 W1 : Nat) (q : AI) (ls : LsA) (st : List Value) (h : Ch) : Option (LsA × List Value × Ch) := match q with
  | (i, _, a, b, o, _, c, _) => match i with
    | .iconst _ => some (ls, .int c :: st, h)
    | .bipush _ => some (ls, .int c :: st, h)
    | .sipush _ => some (ls, .int c :: st, h)
    | .aload_n _ => toC (ldA a ls st (cH h)) h
    | .iload_n _ => toC (ldI a ls st (cH h)) h
    | .istore_n _ => toC (sdI a ls st (cH h)) h
    | .iinc _ _ => toC (incA a c ls st (cH h)) h
    | .goto _ => some (ls, st, h)
    | .dup => toC (dpA ls st (cH h)) h
    | .getfield _ => toC (getA a b o ls st (cH h)) h
    | .arraylength => esL ls st h
    | .invokespecial _ => toC (oiA ls st (cH h)) h
    | .putfield _ => esP a b o ls st h
    | .iastore => esI ls st h
    | .aastore => esA ls st h
    | .new _ => esN N1 W1 a ls st h
    | .newarray _ => esW N1 W1 a ls st h
    | .anewarray _ => esW N1 W1 a ls st h
    | .multianewarray _ _ => esM N1 W1 ls st h
    | _ => none
theorem ldA_h (a : Nat) (ls : LsA) (st : List Value) (h : Hp) : (ldA a ls st h).2.2.2 = h := by unfold ldA; split <;> rfl
theorem ldI_h (a : Nat) (ls : LsA) (st : List Value) (h : Hp) : (ldI a ls st h).2.2.2 = h := by unfold ldI; split <;> rfl
theorem sdI_h (a : Nat) (ls : LsA) (st : List Value) (h : Hp) : (sdI a ls st h).2.2.2 = h := by unfold sdI; split <;> rfl
theorem incA_h (a : Nat) (c : Int32) (ls : LsA) (st : List Value) (h : Hp) : (incA a c ls st h).2.2.2 = h := by unfold incA; split <;> rfl
theorem dpA_h (ls : LsA) (st : List Value) (h : Hp) : (dpA ls st h).2.2.2 = h := by unfold dpA; split <;> rfl
theorem getA_h (a b o : Nat) (ls : LsA) (st : List Value) (h : Hp) : (getA a b o ls st h).2.2.2 = h := by
  unfold getA
  split
  · split <;> rfl
  · rfl
theorem alA_h (scr : ScA) (ls : LsA) (st : List Value) (h : Hp) : (alA scr ls st h).2.2.2 = h := by unfold alA; split <;> rfl
theorem oiA_h (ls : LsA) (st : List Value) (h : Hp) : (oiA ls st h).2.2.2 = h := by unfold oiA; split <;> rfl
theorem es_ok {scr : ScA} {N1 W1 : Nat} {q : AI} {ls ls' : LsA} {st st' : List Value} {h h' : Ch} (e : es N1 W1 q ls st h = some (ls', st', h')) : stp scr N1 W1 q ls st (cH h) = (true, ls', st', cH h') := by
  obtain ⟨i, n, a, b, o, t, c, d⟩ := q
  cases i with
  | iconst _ => cases e; rfl
  | bipush _ => cases e; rfl
  | sipush _ => cases e; rfl
  | aload_n _ => exact toC_ok (ldA_h _ _ _ _) e
  | iload_n _ => exact toC_ok (ldI_h _ _ _ _) e
  | istore_n _ => exact toC_ok (sdI_h _ _ _ _) e
  | iinc _ _ => exact toC_ok (incA_h _ _ _ _ _) e
  | goto _ => cases e; rfl
  | dup => exact toC_ok (dpA_h _ _ _) e
  | getfield _ => exact toC_ok (getA_h _ _ _ _ _ _) e
  | arraylength => exact esL_ok e
  | invokespecial _ => exact toC_ok (oiA_h _ _ _) e
  | putfield _ => exact esP_ok e
  | iastore => exact esI_ok e
  | aastore => exact esA_ok e
  | new _ => exact esN_ok e
  | newarray _ => exact esW_ok e
  | anewarray _ => exact esW_ok e
  | multianewarray _ _ => exact esM_ok e
  | _ => cases e
