/-! the tables' words, by their places -/
def gwT : List Cond := lw_tbl.filter goodWord
def inT (p : Nat) (w : Cond) : Bool := decide (lw_tbl[p]? = some w) && goodWord w
theorem inT_mem {p : Nat} {w : Cond} (h : inT p w = true) : w ∈ gwT := by
  unfold inT at h
  rw [Bool.and_eq_true, decide_eq_true_eq] at h
  exact List.mem_filter.mpr ⟨List.mem_of_getElem? h.1, h.2⟩
theorem gwT_good {w : Cond} (h : w ∈ gwT) : w ∈ lw_tbl ∧ ((w.onTables && w.keeps) = true ∨ ∃ ty, w = .arrayClass ty) := ⟨(List.mem_filter.mp h).1, good_of_word (List.mem_filter.mp h).2⟩
def wsM (M : MD) : List Cond := Cond.code M.1 M.2.1 M.2.2.1 M.2.2.2 :: gwT
def nestM : List Cond := lw_tbl.filter (fun w => match w with | .methodLinkNest _ _ _ _ => true | _ => false)
def nestF : List Cond := lw_tbl.filter (fun w => match w with | .fieldLinkNest _ _ _ _ _ _ => true | _ => false)
def inN (p : Nat) (w : Cond) : Bool := decide (lw_tbl[p]? = some w)
def tyA (cy : Nat → ClassId) : List (ClassId × FieldType) := [(cy 0, .int), (cy 1, .boolean), (cy 2, .object "HumanPyramid$Best"), (cy 3, .object "HumanPyramid$Sheet"), (cy 4, .array .int)]
/-- what the tables say that is no word of gwT, the static rows and the script -/
def TbA (tb : Nat → Nat) (z : Nat) (scr : ScA) (U : State) (H : Heap) : Prop :=
  (∀ j, j < 4 → va_Z "HumanPyramid" (tbN j) "[I" (.ref (tb j)) (fun q => z ≤ q) U H) ∧ (∀ j, j < 5 → va_T .int (tb j) (tbS scr j) (fun i => .int (tbV scr j i)) (fun q => z ≤ q) U H) ∧
  (∀ w ∈ nestM, va_Nw w U) ∧ (∀ w ∈ nestF, va_Nw w U) ∧ va_AO "HumanPyramid$Best" U ∧ va_AO "HumanPyramid$Sheet" U ∧ va_Nw (.arrayOver (.array .int)) U
theorem nestM_of {w : Cond} (h : w ∈ nestM) : ∃ a i x b, w = .methodLinkNest a i x b := by
  have := (List.mem_filter.mp h).2
  cases w <;> first | exact ⟨_, _, _, _, rfl⟩ | cases this
theorem nestF_of {w : Cond} (h : w ∈ nestF) : ∃ a i x b c d, w = .fieldLinkNest a i x b c d := by
  have := (List.mem_filter.mp h).2
  cases w <;> first | exact ⟨_, _, _, _, _, _, rfl⟩ | cases this
theorem TbA.moved {tb : Nat → Nat} {z : Nat} {scr : ScA} {u U : State} {H H1 : Heap} (h : TbA tb z scr u H) (hW : u.WarmedH U.vm) (hq : ∀ a : Nat, a < H.size → ¬ z ≤ a → H1[a]? = H[a]?) : TbA tb z scr U H1 := by
  obtain ⟨h1, h2, h3, h4, h5, h6, h7⟩ := h
  refine ⟨fun j hj => ((h1 j hj).moved hW.alike).kept hq, fun j hj => ((h2 j hj).moved hW.alike).kept hq, fun w hw => ?_, fun w hw => ?_, h5.moved hW.alike, h6.moved hW.alike, ?_⟩
  · obtain ⟨a, i, x, b, rfl⟩ := nestM_of hw
    exact va_Nw.warmM hW (h3 _ hw)
  · obtain ⟨a, i, x, b, c, d, rfl⟩ := nestF_of hw
    exact va_Nw.warmF hW (h4 _ hw)
  · exact Jvm.Stand.arrayOver_alikeB hW.alike h7
def WdA (D : va_G) (cy : Nat → ClassId) (z : Nat) (h : Hp) (H : Heap) : Prop := va_P D vwCl (wldA cy z h) H
def CkA (D : va_G) (cy : Nat → ClassId) (tb : Nat → Nat) (z : Nat) (scr : ScA) (U : State) (H : Heap) : Prop := va_K D vwCl (tyA cy) U ∧ TbA tb z scr U H
/-- a method's context -/
def EnA (scr : ScA) (d : Nat) (M : MD) (D : va_G) (cy : Nat → ClassId) (tb : Nat → Nat) (z : Nat) (p : Program) (R : Room) (s : State) (m : MethodId) (args : Array Value) (meth : Method) (c : Code) (n0 mc ms : Nat) : Prop :=
  p.tables.exec = Jvm.exec ∧ c.code = M.2.1 ∧ c.maxLocals = M.2.2.1 ∧ s.vm.findClass M.1.cls = some m.cls ∧ (∀ w ∈ gwT, w.before args s = true) ∧ CkA D cy tb z scr s s.heap ∧ s.heap.size = z + n0 ∧ (M.1.name = "<init>" → meth.name = "<init>") ∧ d ≤ R.frames ∧ d * 32 ≤ R.locals ∧ mc ≤ R.cells ∧ ms ≤ R.slots
def GoA (M : MD) (D : va_G) (cy : Nat → ClassId) (tb : Nat → Nat) (z : Nat) (p : Program) (l : Launch) (e : Env) (R : Room) (s : State) (m : MethodId) (args : Array Value) (below : List Frame) (meth : Method) (c : Code) (n0 w0 mc ms : Nat) (Qf : State → Prop) (pc : Nat) (ls : LsA) (st : List Value) (h : Hp) : Prop :=
  ∀ (H : Heap) (locs : List Loc) (A : Array Slot), WdA D cy z h H → va_S (fun q => z ≤ q) s.heap H locs → lsOK M.2.2.1 z tb ls A → n0 ≤ h.1 → w0 ≤ h.2.1 → W p l e R s m args below meth c H locs (h.1 - n0) (h.2.1 - w0) Qf (F0 m pc A (st.map (rvA z tb)))
def rtI (r : Option Value) : Instr := match r with
  | none => .return_
  | some (.int _) => .ireturn
  | some (.long _) => .lreturn
  | some _ => .areturn
def okR (ret : Option FieldType) (r : Option Value) : Prop := match ret, r with
  | none, none => True
  | some .int, some (.int _) => True
  | some .boolean, some (.int v) => v = 0 ∨ v = 1
  | some .long, some (.long _) => True
  | some (.object _), some (.ref _) => True
  | _, _ => False
def RtA (M : MD) (D : va_G) (cy : Nat → ClassId) (tb : Nat → Nat) (z : Nat) (p : Program) (l : Launch) (e : Env) (R : Room) (s : State) (m : MethodId) (args : Array Value) (below : List Frame) (meth : Method) (c : Code) (mc ms : Nat) (post : Option Value → Hp → Prop) (Qf : State → Prop) : Prop :=
  ∀ (r : Option Value) (h : Hp) (H : Heap) (locs : List Loc) (cells slots pc : Nat) (A : Array Slot), post r h → WdA D cy z h H → va_S (fun q => z ≤ q) s.heap H locs → cells ≤ mc → slots ≤ ms → okR M.2.2.2 r → decode M.2.1 pc = .ok (rtI r, 1) → W p l e R s m args below meth c H locs cells slots Qf (F0 m pc A (r.toList.map (rvA z tb)))
/-- THE JUDGEMENT: from here the method returns, with 'post' -/
def XA (scr : ScA) (d : Nat) (M : MD) (N1 W1 pc : Nat) (ls : LsA) (st : List Value) (h : Hp) (post : Option Value → Hp → Prop) : Prop :=
  ∀ (D : va_G) (cy : Nat → ClassId) (tb : Nat → Nat) (z : Nat) (p : Program) (l : Launch) (e : Env) (R : Room) (s : State) (m : MethodId) (args : Array Value) (below : List Frame) (meth : Method) (c : Code) (n0 w0 mc ms : Nat) (Qf : State → Prop),
    EnA scr d M D cy tb z p R s m args meth c n0 mc ms → N1 = n0 + mc → W1 = w0 + ms → RtA M D cy tb z p l e R s m args below meth c mc ms post Qf → GoA M D cy tb z p l e R s m args below meth c n0 w0 mc ms Qf pc ls st h
def rmA (d mc ms : Nat) : Room := { frames := d, cells := mc, slots := ms, locals := d * 32 }
def QxA (D : va_G) (cy : Nat → ClassId) (tb : Nat → Nat) (z : Nat) (post : Option Value → Hp → Prop) : Array Value → State → Outcome → State → Prop := fun _ st oc t =>
  (∃ (r : Option Value) (h : Hp), post r h ∧ oc = .returned (r.map (rvA z tb)) ∧ WdA D cy z h t.heap) ∧ va_F (fun q => z ≤ q) st t
/-- a method's contract -/
def CtA (scr : ScA) (d : Nat) (M : MD) (as : List Value) (h : Hp) (mc ms : Nat) (post : Option Value → Hp → Prop) : Prop :=
  ∀ (l : Launch) (D : va_G) (cy : Nat → ClassId) (tb : Nat → Nat) (z : Nat), Met l M.1 (wsM M) (rmA d mc ms) (va_Pc (as.map (rvA z tb)) (fun U => U.heap.size = z + h.1 ∧ WdA D cy z h U.heap ∧ CkA D cy tb z scr U U.heap)) (QxA D cy tb z post) mc ms (fun q => z ≤ q)
def enL : List Value → LsA
  | [] => []
  | v :: vs => match v with
    | .long x => some (.long x) :: none :: enL vs
    | .double x => some (.double x) :: none :: enL vs
    | v => some v :: enL vs
theorem enL_get {z : Nat} {tb : Nat → Nat} : ∀ (vs : List Value) (b i : Nat) (v : Value), (enL vs).getD i none = some v → (b + i, rvA z tb v) ∈ lv_args b (vs.map (rvA z tb))
  | [], b, i, v, h => by simp [enL] at h
  | u :: vs, b, i, v, h => by
    have h1 : ∀ (hc : u.category = 1) (hu : enL (u :: vs) = some u :: enL vs), (b + i, rvA z tb v) ∈ lv_args b ((u :: vs).map (rvA z tb)) := by
      intro hc hu
      rw [hu] at h
      rw [List.map_cons, lv_args, if_neg (by rw [rvA_cat, hc]; decide)]
      cases i with
      | zero => simp at h; rw [h]; exact List.mem_cons_self
      | succ j =>
        have := enL_get (z := z) (tb := tb) vs (b + 1) j v (by simpa using h)
        rw [show b + (j + 1) = b + 1 + j by omega]
        exact List.mem_cons_of_mem _ this
    have h2 : ∀ (hc : u.category = 2) (hu : enL (u :: vs) = some u :: none :: enL vs), (b + i, rvA z tb v) ∈ lv_args b ((u :: vs).map (rvA z tb)) := by
      intro hc hu
      rw [hu] at h
      rw [List.map_cons, lv_args, if_pos (by rw [rvA_cat, hc])]
      cases i with
      | zero => simp at h; rw [h]; exact List.mem_cons_self
      | succ j =>
        cases j with
        | zero => simp at h
        | succ k =>
          have := enL_get (z := z) (tb := tb) vs (b + 2) k v (by simpa using h)
          rw [show b + (k + 1 + 1) = b + 2 + k by omega]
          exact List.mem_cons_of_mem _ this
    cases u with
    | long _ => exact h2 rfl rfl
    | double _ => exact h2 rfl rfl
    | int _ => exact h1 rfl rfl
    | float _ => exact h1 rfl rfl
    | null => exact h1 rfl rfl
    | ref _ => exact h1 rfl rfl
    | retAddr _ => exact h1 rfl rfl
theorem enL_len {z : Nat} {tb : Nat → Nat} : ∀ (vs : List Value), (lg_sl (vs.map (rvA z tb))).length = (enL vs).length
  | [] => rfl
  | u :: vs => by
    have ih := enL_len (z := z) (tb := tb) vs
    unfold lg_sl at ih ⊢
    rw [List.map_cons, List.flatMap_cons, List.length_append, ih]
    cases u <;> simp [rvA, enL, Value.category] <;> omega
