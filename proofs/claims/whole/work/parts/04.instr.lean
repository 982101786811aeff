/-! instructions as a function of locals, stack and heap -/
def kO (n : Nat) (sh : Nat → Nat × Nat) (k a : Nat) : Bool := decide (k < n ∧ sh k = (0, a))
def kR (r : Nat → Nat → Option Nat) (k b t : Nat) : Bool := decide (r k b = some t)
def kA (n : Nat) (sh : Nat → Nat × Nat) (k t : Nat) (i : Int32) : Bool := decide (k < n ∧ (sh k).1 = t) && inB i (sh k).2
def op2 (f : Int32 → Int32 → Int32) (ls : LsA) (st : List Value) (h : Hp) : Bool × LsA × List Value × Hp := match st with
  | .int y :: .int x :: r => (true, ls, .int (f x y) :: r, h)
  | _ => (false, ls, st, h)
def op2z (f : Int32 → Int32 → Int32) (ls : LsA) (st : List Value) (h : Hp) : Bool × LsA × List Value × Hp := match st with
  | .int y :: .int x :: r => (decide (¬ y = 0), ls, .int (f x y) :: r, h)
  | _ => (false, ls, st, h)
def op1 (f : Int32 → Int32) (ls : LsA) (st : List Value) (h : Hp) : Bool × LsA × List Value × Hp := match st with
  | .int x :: r => (true, ls, .int (f x) :: r, h)
  | _ => (false, ls, st, h)
def opJ (f : Int64 → Int64 → Int64) (ls : LsA) (st : List Value) (h : Hp) : Bool × LsA × List Value × Hp := match st with
  | .long y :: .long x :: r => (true, ls, .long (f x y) :: r, h)
  | _ => (false, ls, st, h)
def opJz (f : Int64 → Int64 → Int64) (ls : LsA) (st : List Value) (h : Hp) : Bool × LsA × List Value × Hp := match st with
  | .long y :: .long x :: r => (decide (¬ y = 0), ls, .long (f x y) :: r, h)
  | _ => (false, ls, st, h)
def ldI (a : Nat) (ls : LsA) (st : List Value) (h : Hp) : Bool × LsA × List Value × Hp := match gL ls a with
  | some (.int x) => (true, ls, .int x :: st, h)
  | _ => (false, ls, st, h)
def ldJ (a : Nat) (ls : LsA) (st : List Value) (h : Hp) : Bool × LsA × List Value × Hp := match gL ls a with
  | some (.long x) => (true, ls, .long x :: st, h)
  | _ => (false, ls, st, h)
def ldA (a : Nat) (ls : LsA) (st : List Value) (h : Hp) : Bool × LsA × List Value × Hp := match gL ls a with
  | some (.ref x) => (true, ls, .ref x :: st, h)
  | some (.retAddr x) => (true, ls, .retAddr x :: st, h)
  | _ => (false, ls, st, h)
def sdI (a : Nat) (ls : LsA) (st : List Value) (h : Hp) : Bool × LsA × List Value × Hp := match st with
  | .int x :: r => (true, stL ls a (.int x), r, h)
  | _ => (false, ls, st, h)
def sdJ (a : Nat) (ls : LsA) (st : List Value) (h : Hp) : Bool × LsA × List Value × Hp := match st with
  | .long x :: r => (true, stL2 ls a (.long x), r, h)
  | _ => (false, ls, st, h)
def sdA (a : Nat) (ls : LsA) (st : List Value) (h : Hp) : Bool × LsA × List Value × Hp := match st with
  | .ref x :: r => (true, stL ls a (.ref x), r, h)
  | .retAddr x :: r => (true, stL ls a (.retAddr x), r, h)
  | _ => (false, ls, st, h)
def incA (a : Nat) (c : Int32) (ls : LsA) (st : List Value) (h : Hp) : Bool × LsA × List Value × Hp := match gL ls a with
  | some (.int x) => (true, stL ls a (.int (x + c)), st, h)
  | _ => (false, ls, st, h)
def getA (a b o : Nat) (ls : LsA) (st : List Value) (h : Hp) : Bool × LsA × List Value × Hp := match st with
  | .ref k :: r => match o with
    | 0 => (kO h.1 h.2.2.1 k a, ls, .int (h.2.2.2.2 k b) :: r, h)
    | t + 1 => (kO h.1 h.2.2.1 k a && kR h.2.2.2.1 k b (k + t), ls, .ref (k + t) :: r, h)
  | _ => (false, ls, st, h)
def putA (a b o : Nat) (ls : LsA) (st : List Value) (h : Hp) : Bool × LsA × List Value × Hp := match st with
  | .int v :: .ref k :: r => match o with
    | 0 => (kO h.1 h.2.2.1 k a, ls, r, (h.1, h.2.1, h.2.2.1, h.2.2.2.1, su h.2.2.2.2 k b v))
    | 2 => (kO h.1 h.2.2.1 k a && decide (v = 0 ∨ v = 1), ls, r, (h.1, h.2.1, h.2.2.1, h.2.2.2.1, su h.2.2.2.2 k b v))
    | _ => (false, ls, st, h)
  | .ref t :: .ref k :: r => match o with
    | 1 => (kO h.1 h.2.2.1 k a, ls, r, (h.1, h.2.1, h.2.2.1, ru h.2.2.2.1 k b (some t), h.2.2.2.2))
    | _ => (false, ls, st, h)
  | _ => (false, ls, st, h)
def iaA (scr : ScA) (ls : LsA) (st : List Value) (h : Hp) : Bool × LsA × List Value × Hp := match st with
  | .int i :: .ref k :: r => (kA h.1 h.2.2.1 k 1 i, ls, .int (h.2.2.2.2 k i.toNatClampNeg) :: r, h)
  | .int i :: .retAddr j :: r => (decide (j < 5) && inB i (tbS scr j), ls, .int (tbV scr j i.toNatClampNeg) :: r, h)
  | _ => (false, ls, st, h)
def baA (ls : LsA) (st : List Value) (h : Hp) : Bool × LsA × List Value × Hp := match st with
  | .int i :: .ref k :: r => (kA h.1 h.2.2.1 k 2 i, ls, .int (h.2.2.2.2 k i.toNatClampNeg) :: r, h)
  | _ => (false, ls, st, h)
def isA (ls : LsA) (st : List Value) (h : Hp) : Bool × LsA × List Value × Hp := match st with
  | .int x :: .int i :: .ref k :: r => (kA h.1 h.2.2.1 k 1 i, ls, r, (h.1, h.2.1, h.2.2.1, h.2.2.2.1, su h.2.2.2.2 k i.toNatClampNeg x))
  | _ => (false, ls, st, h)
def bsA (ls : LsA) (st : List Value) (h : Hp) : Bool × LsA × List Value × Hp := match st with
  | .int x :: .int i :: .ref k :: r => (kA h.1 h.2.2.1 k 2 i && decide (x = 0 ∨ x = 1), ls, r, (h.1, h.2.1, h.2.2.1, h.2.2.2.1, su h.2.2.2.2 k i.toNatClampNeg x))
  | _ => (false, ls, st, h)
def aaA (a b o : Nat) (ls : LsA) (st : List Value) (h : Hp) : Bool × LsA × List Value × Hp := match st with
  | .int i :: .ref k :: r => (kA h.1 h.2.2.1 k (o + 3) i && (decide (o < 3) && kR h.2.2.2.1 k i.toNatClampNeg (k + a + b * i.toNatClampNeg)), ls, .ref (k + a + b * i.toNatClampNeg) :: r, h)
  | _ => (false, ls, st, h)
def asA (ls : LsA) (st : List Value) (h : Hp) : Bool × LsA × List Value × Hp := match st with
  | .ref t :: .int i :: .ref k :: r => ((kA h.1 h.2.2.1 k 3 i && kO h.1 h.2.2.1 t 0) || (kA h.1 h.2.2.1 k 4 i && kO h.1 h.2.2.1 t 4), ls, r, (h.1, h.2.1, h.2.2.1, ru h.2.2.2.1 k i.toNatClampNeg (some t), h.2.2.2.2))
  | _ => (false, ls, st, h)
def alA (scr : ScA) (ls : LsA) (st : List Value) (h : Hp) : Bool × LsA × List Value × Hp := match st with
  | .ref k :: r => (decide (k < h.1 ∧ 1 ≤ (h.2.2.1 k).1 ∧ (h.2.2.1 k).1 ≤ 5), ls, .int (Int32.ofNat (h.2.2.1 k).2) :: r, h)
  | .retAddr j :: r => (decide (j < 5), ls, .int (Int32.ofNat (tbS scr j)) :: r, h)
  | _ => (false, ls, st, h)
def nwA (N1 W1 a : Nat) (ls : LsA) (st : List Value) (h : Hp) : Bool × LsA × List Value × Hp := (decide (h.1 + 1 ≤ N1 ∧ h.2.1 + nF a ≤ W1), ls, .ref h.1 :: st, (h.1 + 1, h.2.1 + nF a, va_up h.2.2.1 h.1 (0, a), rr h.2.2.2.1 h.1 (fun _ => none), sr h.2.2.2.2 h.1 (fun _ => 0)))
def naA (N1 W1 a : Nat) (ls : LsA) (st : List Value) (h : Hp) : Bool × LsA × List Value × Hp := match st with
  | .int n :: r => (decide (¬ n < 0 ∧ n.toNatClampNeg ≤ 1000 ∧ h.1 + 1 ≤ N1 ∧ h.2.1 + n.toNatClampNeg ≤ W1), ls, .ref h.1 :: r, (h.1 + 1, h.2.1 + n.toNatClampNeg, va_up h.2.2.1 h.1 (a + 1, n.toNatClampNeg), rr h.2.2.2.1 h.1 (fun _ => none), sr h.2.2.2.2 h.1 (fun _ => 0)))
  | _ => (false, ls, st, h)
def mnS (sh : Nat → Nat × Nat) (n0 N K : Nat) : Nat → Nat × Nat := fun k => if k = n0 then (5, N) else if n0 < k ∧ k ≤ n0 + N then (1, K) else sh k
def mnR (r : Nat → Nat → Option Nat) (n0 N : Nat) : Nat → Nat → Option Nat := fun k j => if k = n0 then (if j < N then some (n0 + 1 + j) else none) else if n0 < k ∧ k ≤ n0 + N then none else r k j
def mnV (σ : Nat → Nat → Int32) (n0 N : Nat) : Nat → Nat → Int32 := fun k j => if n0 ≤ k ∧ k ≤ n0 + N then 0 else σ k j
def mnA (N1 W1 : Nat) (ls : LsA) (st : List Value) (h : Hp) : Bool × LsA × List Value × Hp := match st with
  | .int k :: .int n :: r => (decide (¬ n < 0 ∧ ¬ k < 0 ∧ n.toNatClampNeg ≤ 1000 ∧ k.toNatClampNeg ≤ 1000 ∧ h.1 + (1 + n.toNatClampNeg) ≤ N1 ∧ h.2.1 + (n.toNatClampNeg + n.toNatClampNeg * k.toNatClampNeg) ≤ W1), ls, .ref h.1 :: r, (h.1 + (1 + n.toNatClampNeg), h.2.1 + (n.toNatClampNeg + n.toNatClampNeg * k.toNatClampNeg), mnS h.2.2.1 h.1 n.toNatClampNeg k.toNatClampNeg, mnR h.2.2.2.1 h.1 n.toNatClampNeg, mnV h.2.2.2.2 h.1 n.toNatClampNeg))
  | _ => (false, ls, st, h)
def oiA (ls : LsA) (st : List Value) (h : Hp) : Bool × LsA × List Value × Hp := match st with
  | .ref _ :: r => (decide ((r.map fun v => v.category).sum ≤ 8), ls, r, h)
  | _ => (false, ls, st, h)
def isS (N1 W1 a : Nat) (ls : LsA) (st : List Value) (h : Hp) : Bool × LsA × List Value × Hp := match a with
  | 0 => match st with
    | .int y :: .int x :: r => (decide ((r.map fun v => v.category).sum ≤ 8 ∧ h.1 ≤ N1 ∧ h.2.1 ≤ W1), ls, .int (if x < y then y else x) :: r, h)
    | _ => (false, ls, st, h)
  | 1 => match st with
    | .int y :: .int x :: r => (decide ((r.map fun v => v.category).sum ≤ 8 ∧ h.1 ≤ N1 ∧ h.2.1 ≤ W1), ls, .int (if y < x then y else x) :: r, h)
    | _ => (false, ls, st, h)
  | _ => match st with
    | .int n :: .int dp :: .ref kd :: .int sp :: .ref ks :: r => (decide ((r.map fun v => v.category).sum ≤ 8) && decide (kd < h.1 ∧ (h.2.2.1 kd).1 = 1 ∧ ks < h.1 ∧ (h.2.2.1 ks).1 = 1) && decide (¬ sp < 0 ∧ ¬ dp < 0 ∧ ¬ n < 0 ∧ sp.toNatClampNeg + n.toNatClampNeg ≤ (h.2.2.1 ks).2 ∧ dp.toNatClampNeg + n.toNatClampNeg ≤ (h.2.2.1 kd).2), ls, r, (h.1, h.2.1, h.2.2.1, h.2.2.2.1, sr h.2.2.2.2 kd (va_cpy (h.2.2.2.2 ks) (h.2.2.2.2 kd) sp.toNatClampNeg dp.toNatClampNeg n.toNatClampNeg)))
    | _ => (false, ls, st, h)
def dpA (ls : LsA) (st : List Value) (h : Hp) : Bool × LsA × List Value × Hp := match st with
  | .int v :: r => (true, ls, .int v :: .int v :: r, h)
  | .ref v :: r => (true, ls, .ref v :: .ref v :: r, h)
  | _ => (false, ls, st, h)
def d2A (ls : LsA) (st : List Value) (h : Hp) : Bool × LsA × List Value × Hp := match st with
  | .int v :: .ref k :: r => (true, ls, .int v :: .ref k :: .int v :: .ref k :: r, h)
  | _ => (false, ls, st, h)
def i2lA (ls : LsA) (st : List Value) (h : Hp) : Bool × LsA × List Value × Hp := match st with
  | .int x :: r => (true, ls, .long x.toInt64 :: r, h)
  | _ => (false, ls, st, h)
def lshA (ls : LsA) (st : List Value) (h : Hp) : Bool × LsA × List Value × Hp := match st with
  | .int y :: .long x :: r => (true, ls, .long (x <<< (y.toInt64 &&& 63)) :: r, h)
  | _ => (false, ls, st, h)
def lcA (ls : LsA) (st : List Value) (h : Hp) : Bool × LsA × List Value × Hp := match st with
  | .long y :: .long x :: r => (true, ls, .int (lg_cmp x y) :: r, h)
  | _ => (false, ls, st, h)
def stp (scr : ScA) (N1 W1 : Nat) (q : AI) (ls : LsA) (st : List Value) (h : Hp) : Bool × LsA × List Value × Hp := match q with
  | (i, _, a, b, o, _, c, d) => match i with
    | .iconst _ => (true, ls, .int c :: st, h)
    | .bipush _ => (true, ls, .int c :: st, h)
    | .sipush _ => (true, ls, .int c :: st, h)
    | .ldc _ => (true, ls, .int c :: st, h)
    | .ldc_w _ => (true, ls, .int c :: st, h)
    | .lconst _ => (true, ls, .long d :: st, h)
    | .ldc2_w _ => (true, ls, .long d :: st, h)
    | .iload_n _ => ldI a ls st h
    | .iload _ => ldI a ls st h
    | .lload_n _ => ldJ a ls st h
    | .lload _ => ldJ a ls st h
    | .aload_n _ => ldA a ls st h
    | .aload _ => ldA a ls st h
    | .istore_n _ => sdI a ls st h
    | .istore _ => sdI a ls st h
    | .lstore_n _ => sdJ a ls st h
    | .lstore _ => sdJ a ls st h
    | .astore_n _ => sdA a ls st h
    | .astore _ => sdA a ls st h
    | .iinc _ _ => incA a c ls st h
    | .iadd => op2 (fun x y => x + y) ls st h
    | .isub => op2 (fun x y => x - y) ls st h
    | .imul => op2 (fun x y => x * y) ls st h
    | .iand => op2 (fun x y => x &&& y) ls st h
    | .ior => op2 (fun x y => x ||| y) ls st h
    | .ixor => op2 (fun x y => x ^^^ y) ls st h
    | .ishl => op2 (fun x y => x <<< (y &&& 31)) ls st h
    | .ishr => op2 (fun x y => x >>> (y &&& 31)) ls st h
    | .iushr => op2 (fun x y => (x.toUInt32 >>> (y.toUInt32 &&& Int32.toUInt32 31)).toInt32) ls st h
    | .idiv => op2z (fun x y => x / y) ls st h
    | .irem => op2z (fun x y => x - x / y * y) ls st h
    | .ladd => opJ (fun x y => x + y) ls st h
    | .lsub => opJ (fun x y => x - y) ls st h
    | .lmul => opJ (fun x y => x * y) ls st h
    | .ldiv => opJz (fun x y => x / y) ls st h
    | .lrem => opJz (fun x y => x - x / y * y) ls st h
    | .i2b => op1 (fun x => x.toInt8.toInt32) ls st h
    | .i2s => op1 (fun x => x.toInt16.toInt32) ls st h
    | .i2l => i2lA ls st h
    | .lshl => lshA ls st h
    | .lcmp => lcA ls st h
    | .goto _ => (true, ls, st, h)
    | .getfield _ => getA a b o ls st h
    | .putfield _ => putA a b o ls st h
    | .getstatic _ => (decide (a < 4), ls, .retAddr a :: st, h)
    | .iaload => iaA scr ls st h
    | .baload => baA ls st h
    | .iastore => isA ls st h
    | .bastore => bsA ls st h
    | .aaload => aaA a b o ls st h
    | .aastore => asA ls st h
    | .arraylength => alA scr ls st h
    | .new _ => nwA N1 W1 a ls st h
    | .newarray _ => naA N1 W1 a ls st h
    | .anewarray _ => naA N1 W1 a ls st h
    | .multianewarray _ _ => mnA N1 W1 ls st h
    | .invokespecial _ => oiA ls st h
    | .invokestatic _ => isS N1 W1 a ls st h
    | .dup => dpA ls st h
    | .dup2 => d2A ls st h
    | _ => (false, ls, st, h)
def exA (scr : ScA) (N1 W1 : Nat) : List AI → LsA → List Value → Hp → Bool × LsA × List Value × Hp
  | [], ls, st, h => (true, ls, st, h)
  | q :: qs, ls, st, h => match stp scr N1 W1 q ls st h with
    | (b, ls', st', h') => match exA scr N1 W1 qs ls' st' h' with
      | (b2, r) => (b && b2, r)
def nxP (pc : Nat) (q : AI) : Nat := match q with
  | (i, n, a, _) => match i with
    | .goto _ => a
    | _ => pc + n
/-- what the bytes, the pool and the tables must say of an instruction -/
def ckX (d : Nat) (M : MD) (pc : Nat) (q : AI) : Bool := match q with
  | (i, n, a, b, o, t, c, dv) => match i with
    | .iconst k => decide (n = 1 ∧ Int32.ofInt k = c)
    | .bipush k => decide (n = 2 ∧ (Int8.ofInt k).toInt32 = c)
    | .sipush k => decide (n = 3 ∧ (Int16.ofInt k).toInt32 = c)
    | .ldc k => decide (n = 2) && inT t (.constant M.1.cls k c)
    | .ldc_w k => decide (n = 3) && inT t (.constant M.1.cls k c)
    | .lconst k => decide (n = 1 ∧ Int64.ofNat (k : Nat) = dv)
    | .ldc2_w k => decide (n = 3) && inT t (.constantLong M.1.cls k dv)
    | .iload_n k => decide (n = 1 ∧ (k : Nat) = a)
    | .lload_n k => decide (n = 1 ∧ (k : Nat) = a)
    | .aload_n k => decide (n = 1 ∧ (k : Nat) = a)
    | .iload k => decide (n = 2 ∧ k = a)
    | .lload k => decide (n = 2 ∧ k = a)
    | .aload k => decide (n = 2 ∧ k = a)
    | .istore_n k => decide (n = 1 ∧ (k : Nat) = a ∧ a < M.2.2.1)
    | .lstore_n k => decide (n = 1 ∧ (k : Nat) = a ∧ a + 1 < M.2.2.1)
    | .astore_n k => decide (n = 1 ∧ (k : Nat) = a ∧ a < M.2.2.1)
    | .istore k => decide (n = 2 ∧ k = a ∧ a < M.2.2.1)
    | .lstore k => decide (n = 2 ∧ k = a ∧ a + 1 < M.2.2.1)
    | .astore k => decide (n = 2 ∧ k = a ∧ a < M.2.2.1)
    | .iinc k x => decide (n = 3 ∧ k = a ∧ Int32.ofInt x = c ∧ a < M.2.2.1)
    | .goto x => decide (n = 3 ∧ (pc : Int) + x = (a : Int))
    | .getfield k => decide (n = 3 ∧ a < 12 ∧ b < nF a ∧ (isRf a b = true ↔ o ≠ 0)) && inT t (.fieldLink M.1.cls k (clF a).1 ((clF a).2.1 b).2.1 ((clF a).2.1 b).2.2.1) && decide (((clF a).2.1 b).1 = (clF a).1)
    | .putfield k => decide (n = 3 ∧ a < 12 ∧ b < nF a ∧ ((tyF a b = .int ∧ o = 0) ∨ (tyF a b = .boolean ∧ o = 2) ∨ (isRf a b = true ∧ o = 1)) ∧ (((clF a).2.1 b).2.2.2 = false ∨ (M.1.name = "<init>" ∧ (clF a).1 = M.1.cls ∧ ((clF a).2.1 b).2.2.2 = true))) && inT t (.fieldLink M.1.cls k (clF a).1 ((clF a).2.1 b).2.1 ((clF a).2.1 b).2.2.1) && decide (((clF a).2.1 b).1 = (clF a).1)
    | .getstatic k => decide (n = 3 ∧ a < 4) && (inT t (.fieldLink M.1.cls k "HumanPyramid" (tbN a) "[I") || inN t (.fieldLinkNest M.1.cls k "HumanPyramid" (tbN a) "[I" "HumanPyramid"))
    | .new k => decide (n = 3 ∧ a < 12) && inT t (.classLink M.1.cls k (clF a).1) && inT o (.instantiable (clF a).1 (nF a)) && inT b (.initialized (clF a).1)
    | .newarray ty => decide (n = 2 ∧ ((a = 0 ∧ newarray.typeOf ty = .int) ∨ (a = 1 ∧ newarray.typeOf ty = .boolean))) && inT t (.arrayClass (newarray.typeOf ty))
    | .anewarray k => decide (n = 3) && ((decide (a = 2) && inT t (.classLink M.1.cls k "HumanPyramid$Best")) || (decide (a = 3) && inT t (.classLink M.1.cls k "HumanPyramid$Sheet")))
    | .multianewarray k x => decide (n = 4 ∧ x = 2) && inT t (.classLink M.1.cls k "[[I") && inT o (.arrayClass .int)
    | .invokespecial k => decide (n = 3 ∧ 1 ≤ d) && inT t (.methodLink M.1.cls k Lib.objectInit)
    | .invokestatic k => decide (n = 3 ∧ 1 ≤ d) && ((decide (a = 0) && inT t (.methodLink M.1.cls k Lib.Math.max.name)) || (decide (a = 1) && inT t (.methodLink M.1.cls k Lib.Math.min.name)) || (decide (a = 2) && inT t (.methodLink M.1.cls k arraycopyName)))
    | _ => decide (n = 1)
def ck1 (d : Nat) (M : MD) (pc : Nat) (q : AI) : Bool := decide (decode M.2.1 pc = .ok (q.1, q.2.1)) && ckX d M pc q
def ckA (d : Nat) (M : MD) : Nat → List AI → Nat → Bool
  | pc, [], e => decide (pc = e)
  | pc, q :: qs, e => ck1 d M pc q && ckA d M (nxP pc q) qs e
