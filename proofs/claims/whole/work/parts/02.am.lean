/-! THE ABSTRACT MACHINE: a heap of numbered cells (count, slots, shapes, references, ints), instructions as a function, tied to W -/
abbrev MD : Type := MethodName × ByteArray × Nat × Option FieldType
abbrev Hp : Type := Nat × Nat × (Nat → Nat × Nat) × (Nat → Nat → Option Nat) × (Nat → Nat → Int32)
abbrev AI : Type := Instr × Nat × Nat × Nat × Nat × Nat × Int32 × Int64
abbrev LsA : Type := List (Option Value)
abbrev ScA : Type := Nat × (Nat → Int32)
def su (σ : Nat → Nat → Int32) (k j : Nat) (v : Int32) : Nat → Nat → Int32 := fun a b => if a = k ∧ b = j then v else σ a b
def sr (σ : Nat → Nat → Int32) (k : Nat) (f : Nat → Int32) : Nat → Nat → Int32 := fun a b => if a = k then f b else σ a b
def ru (r : Nat → Nat → Option Nat) (k j : Nat) (v : Option Nat) : Nat → Nat → Option Nat := fun a b => if a = k ∧ b = j then v else r a b
def rr (r : Nat → Nat → Option Nat) (k : Nat) (f : Nat → Option Nat) : Nat → Nat → Option Nat := fun a b => if a = k then f b else r a b
theorem su_eq (σ : Nat → Nat → Int32) (k j : Nat) (v : Int32) : su σ k j v k j = v := if_pos ⟨rfl, rfl⟩
theorem su_ne (σ : Nat → Nat → Int32) (k j : Nat) (v : Int32) {a b : Nat} (h : a ≠ k ∨ b ≠ j) : su σ k j v a b = σ a b := if_neg (fun q => h.elim (fun z => z q.1) (fun z => z q.2))
theorem su_row (σ : Nat → Nat → Int32) (k j : Nat) (v : Int32) : su σ k j v k = upd (σ k) j v := by
  funext b
  by_cases h : b = j <;> simp [su, upd, h]
theorem su_off (σ : Nat → Nat → Int32) (k j : Nat) (v : Int32) {a : Nat} (h : a ≠ k) : su σ k j v a = σ a := by
  funext b
  exact su_ne σ k j v (Or.inl h)
theorem sr_row (σ : Nat → Nat → Int32) (k : Nat) (f : Nat → Int32) : sr σ k f k = f := by
  funext b
  simp [sr]
theorem sr_off (σ : Nat → Nat → Int32) (k : Nat) (f : Nat → Int32) {a : Nat} (h : a ≠ k) : sr σ k f a = σ a := by
  funext b
  simp [sr, h]
theorem ru_off (σ : Nat → Nat → Option Nat) (k j : Nat) (v : Option Nat) {a : Nat} (h : a ≠ k) : ru σ k j v a = σ a := by
  funext b
  simp [ru, h]
theorem ru_row (σ : Nat → Nat → Option Nat) (k j : Nat) (v : Option Nat) : ru σ k j v k = va_up (σ k) j v := by
  funext b
  by_cases h : b = j <;> simp [ru, va_up, h]
theorem rr_off (σ : Nat → Nat → Option Nat) (k : Nat) (f : Nat → Option Nat) {a : Nat} (h : a ≠ k) : rr σ k f a = σ a := by
  funext b
  simp [rr, h]
theorem rr_row (σ : Nat → Nat → Option Nat) (k : Nat) (f : Nat → Option Nat) : rr σ k f k = f := by
  funext b
  simp [rr]
def nF (ci : Nat) : Nat := ([4, 4, 7, 5, 4, 13, 4, 2, 7, 4, 14, 54] : List Nat).getD ci 0
def tyF (ci : Nat) : Nat → FieldType := ([tyX0, tyX1, tyX2, tyX3, tyX4, tyX5, tyX6, tyX7, tyX8, tyX9, tyX10, tyX11] : List (Nat → FieldType)).getD ci (fun _ => .int)
def clF (ci : Nat) : vw_C := vwCl.getD ci (RX0, TX0, 0)
def isRf (ci j : Nat) : Bool := (tyF ci j).isReference
def inB (i : Int32) (n : Nat) : Bool := decide (¬ (i < 0 ∨ n ≤ i.toNatClampNeg))
theorem inB_iff {i : Int32} {n : Nat} : inB i n = true ↔ vp_in i n := by
  unfold inB vp_in
  exact decide_eq_true_iff
/-- the static tables of the class, read only: 0 LEFT_BELOW, 1 SUPPORTS, 2 ROWS, 3 DIGEST_MOMENTS; 4 the script -/
def tbN (j : Nat) : String := ([ "LEFT_BELOW", "SUPPORTS", "ROWS", "DIGEST_MOMENTS"] : List String).getD j ""
def tbL (j : Nat) : List Int32 := ([[0, 0, 0, 0, 0, 1, 2, 4, 5, 7], [0, 0, 0, 0, 3, 6, 12, 48, 96, 384], [15, 112, 384, 512], [0, 4, 10, 17, 23]] : List (List Int32)).getD j []
def tbV (scr : ScA) (j : Nat) (i : Nat) : Int32 := match j with
  | 0 => (tbL 0).getD i 0
  | 1 => (tbL 1).getD i 0
  | 2 => (tbL 2).getD i 0
  | 3 => (tbL 3).getD i 0
  | _ => scr.2 i
def tbS (scr : ScA) (j : Nat) : Nat := match j with
  | 0 => 10
  | 1 => 10
  | 2 => 4
  | 3 => 5
  | _ => scr.1
def rvA (z : Nat) (tb : Nat → Nat) (v : Value) : Value := match v with
  | .ref k => .ref (z + k)
  | .retAddr j => .ref (tb j)
  | v => v
theorem rvA_cat (z : Nat) (tb : Nat → Nat) (v : Value) : (rvA z tb v).category = v.category := by cases v <;> rfl
/-- locals -/
def gL (ls : LsA) (a : Nat) : Option Value := ls.getD a none
def kiL (ls : LsA) (i : Nat) : LsA := match i with
  | 0 => ls
  | j + 1 => match ls.getD j none with
    | none => ls
    | some w => match w with
      | .long _ => ls.set j none
      | .double _ => ls.set j none
      | _ => ls
def stL (ls : LsA) (i : Nat) (v : Value) : LsA := (kiL ls i).set i (some v)
def stL2 (ls : LsA) (i : Nat) (v : Value) : LsA := ((kiL ls i).set (i + 1) none).set i (some v)
def lsOK (nL z : Nat) (tb : Nat → Nat) (ls : LsA) (A : Array Slot) : Prop := A.size = nL ∧ lv_wf A ∧ ∀ (i : Nat) (v : Value), ls.getD i none = some v → A[i]? = some (.val (rvA z tb v))
def lsP (z : Nat) (tb : Nat → Nat) (ls : LsA) : List (Nat × Value) := (List.range ls.length).filterMap (fun i => (ls.getD i none).map (fun v => (i, rvA z tb v)))
theorem lsP_mem {z : Nat} {tb : Nat → Nat} {ls : LsA} {q : Nat × Value} : q ∈ lsP z tb ls ↔ ∃ v, ls.getD q.1 none = some v ∧ q.2 = rvA z tb v := by
  unfold lsP
  rw [List.mem_filterMap]
  constructor
  · rintro ⟨i, hi, h⟩
    cases hv : ls.getD i none with
    | none => rw [hv] at h; cases h
    | some v => rw [hv] at h; cases h; exact ⟨v, hv, rfl⟩
  · rintro ⟨v, h1, h2⟩
    refine ⟨q.1, ?_, ?_⟩
    · rw [List.mem_range]
      rcases Nat.lt_or_ge q.1 ls.length with h | h
      · exact h
      · rw [List.getD_eq_getElem?_getD, List.getElem?_eq_none h] at h1; cases h1
    · rw [h1]; simp [← h2]
theorem lsOK_has {nL z : Nat} {tb : Nat → Nat} {ls : LsA} {A : Array Slot} (h : lsOK nL z tb ls A) : lv_has A nL (lsP z tb ls) := ⟨h.1, h.2.1, fun q hq => by
  obtain ⟨v, h1, h2⟩ := lsP_mem.mp hq
  rw [h2]
  exact h.2.2 q.1 v h1⟩
theorem getD_set_self {ls : LsA} {i : Nat} {x : Option Value} {v : Value} (h : (ls.set i x).getD i none = some v) : x = some v := by
  rw [List.getD_eq_getElem?_getD, List.getElem?_set] at h
  by_cases hl : i < ls.length
  · simpa [hl] using h
  · simp [hl] at h
theorem getD_set_ne {ls : LsA} {i j : Nat} {x : Option Value} (h : i ≠ j) : (ls.set i x).getD j none = ls.getD j none := by
  rw [List.getD_eq_getElem?_getD, List.getElem?_set_ne h, List.getD_eq_getElem?_getD]
theorem kiL_get {ls : LsA} {i j : Nat} {v : Value} (h : (kiL ls i).getD j none = some v) : ls.getD j none = some v ∧ ¬ (j + 1 = i ∧ v.category = 2) := by
  cases i with
  | zero => exact ⟨h, fun q => by omega⟩
  | succ k =>
    unfold kiL at h
    simp only at h
    cases hk : ls.getD k none with
    | none =>
      rw [hk] at h
      refine ⟨h, fun q => ?_⟩
      have : j = k := by omega
      subst this
      rw [hk] at h; cases h
    | some w =>
      rw [hk] at h
      have key : ∀ {x : LsA}, x = ls.set k none → (x.getD j none = some v) → ls.getD j none = some v ∧ ¬ (j + 1 = k + 1 ∧ v.category = 2) := by
        intro x hx hq
        subst hx
        by_cases e : k = j
        · subst e
          have := getD_set_self hq
          cases this
        · rw [getD_set_ne e] at hq
          exact ⟨hq, fun q => e (by omega)⟩
      have key2 : w.category ≠ 2 → ls.getD j none = some v → ls.getD j none = some v ∧ ¬ (j + 1 = k + 1 ∧ v.category = 2) := by
        intro hc hq
        refine ⟨hq, fun q => ?_⟩
        have e : j = k := by omega
        subst e
        rw [hk] at hq
        cases hq
        exact hc q.2
      cases w with
      | long _ => exact key rfl h
      | double _ => exact key rfl h
      | int _ => exact key2 (by simp [Value.category]) h
      | float _ => exact key2 (by simp [Value.category]) h
      | null => exact key2 (by simp [Value.category]) h
      | ref _ => exact key2 (by simp [Value.category]) h
      | retAddr _ => exact key2 (by simp [Value.category]) h
theorem lsOK_st {nL z i : Nat} {tb : Nat → Nat} {ls : LsA} {A : Array Slot} {v : Value} (h : lv_has A nL ((i, rvA z tb v) :: (lsP z tb ls).filter (fun q => !(q.1 == i) && !(q.1 + 1 == i && q.2.category == 2)))) : lsOK nL z tb (stL ls i v) A := by
  refine ⟨h.1, h.2.1, fun j w hj => ?_⟩
  unfold stL at hj
  by_cases e : i = j
  · subst e
    rw [← Option.some.inj (getD_set_self hj)]
    exact h.2.2 _ List.mem_cons_self
  · rw [getD_set_ne e] at hj
    obtain ⟨h1, h2⟩ := kiL_get hj
    refine h.2.2 (j, rvA z tb w) (List.mem_cons_of_mem _ (List.mem_filter.mpr ⟨lsP_mem.mpr ⟨w, h1, rfl⟩, ?_⟩))
    simp only [rvA_cat, Bool.and_eq_true, Bool.not_eq_true', beq_eq_false_iff_ne, ne_eq, Bool.and_eq_false_iff]
    refine ⟨fun q => e q.symm, ?_⟩
    by_cases q1 : j + 1 = i
    · exact Or.inr fun q2 => h2 ⟨q1, q2⟩
    · exact Or.inl q1
theorem lsOK_st2 {nL z i : Nat} {tb : Nat → Nat} {ls : LsA} {A : Array Slot} {v : Value} (h : lv_has A nL ((i, rvA z tb v) :: (lsP z tb ls).filter (fun q => !(q.1 == i) && (!(q.1 == i + 1) && !(q.1 + 1 == i && q.2.category == 2))))) : lsOK nL z tb (stL2 ls i v) A := by
  refine ⟨h.1, h.2.1, fun j w hj => ?_⟩
  unfold stL2 at hj
  by_cases e : i = j
  · subst e
    rw [← Option.some.inj (getD_set_self hj)]
    exact h.2.2 _ List.mem_cons_self
  · rw [getD_set_ne e] at hj
    by_cases e2 : i + 1 = j
    · subst e2
      have := getD_set_self hj
      cases this
    · rw [getD_set_ne e2] at hj
      obtain ⟨h1, h2⟩ := kiL_get hj
      refine h.2.2 (j, rvA z tb w) (List.mem_cons_of_mem _ (List.mem_filter.mpr ⟨lsP_mem.mpr ⟨w, h1, rfl⟩, ?_⟩))
      simp only [rvA_cat, Bool.and_eq_true, Bool.not_eq_true', beq_eq_false_iff_ne, ne_eq, Bool.and_eq_false_iff]
      refine ⟨fun q => e q.symm, fun q => e2 q.symm, ?_⟩
      by_cases q1 : j + 1 = i
      · exact Or.inr fun q2 => h2 ⟨q1, q2⟩
      · exact Or.inl q1
/-- the worlds -/
def flV (z : Nat) (h : Hp) (k ci j : Nat) : Value := if isRf ci j = true then va_rf ((h.2.2.2.1 k j).map (fun a => z + a)) else .int (h.2.2.2.2 k j)
def celA (cy : Nat → ClassId) (z : Nat) (h : Hp) (k : Nat) : va_E := match h.2.2.1 k with
  | (0, ci) => .inr (ci, (List.range (nF ci)).map (flV z h k ci))
  | (1, n) => .inl (cy 0, n, .inl (h.2.2.2.2 k))
  | (2, n) => .inl (cy 1, n, .inl (h.2.2.2.2 k))
  | (t + 3, n) => .inl (cy (t + 2), n, .inr (.inr (.inr (.inr (fun j => (h.2.2.2.1 k j).map (fun a => z + a))))))
def wldA (cy : Nat → ClassId) (z : Nat) (h : Hp) : va_W := (List.range h.1).map (fun k => (z + k, celA cy z h k))
theorem wld_get {cy : Nat → ClassId} {z k : Nat} {h : Hp} (hk : k < h.1) : (wldA cy z h)[k]? = some (z + k, celA cy z h k) := by
  unfold wldA
  rw [List.getElem?_map, List.getElem?_range hk]
  rfl
theorem wld_lt {cy : Nat → ClassId} {z k : Nat} {h : Hp} {q : Nat × va_E} (hq : (wldA cy z h)[k]? = some q) : k < h.1 ∧ q = (z + k, celA cy z h k) := by
  have hl : k < h.1 := by
    have := (List.getElem?_eq_some_iff.mp hq).1
    simpa [wldA] using this
  exact ⟨hl, (Option.some.inj ((wld_get hl).symm.trans hq)).symm⟩
theorem wld_D {cy : Nat → ClassId} {z : Nat} {h : Hp} : va_D (fun q => z ≤ q) (wldA cy z h) := by
  refine ⟨fun i j p q hi hj e => ?_, fun k q hk => ?_⟩
  · rw [(wld_lt hi).2, (wld_lt hj).2] at e
    have e' : z + i = z + j := e
    omega
  · rw [(wld_lt hk).2]
    exact Nat.le_add_right _ _
theorem wld_set {cy : Nat → ClassId} {z k : Nat} {h h' : Hp} {x : va_E} (hn : h'.1 = h.1) (hk : k < h.1) (ho : ∀ i, i ≠ k → celA cy z h' i = celA cy z h i) (hx : celA cy z h' k = x) : (wldA cy z h).set k (z + k, x) = wldA cy z h' := by
  apply List.ext_getElem?
  intro i
  by_cases hi : i < h.1
  · rw [wld_get (h := h') (by omega)]
    by_cases e : i = k
    · subst e
      rw [List.getElem?_set_self (by simpa [wldA] using hi), hx]
    · rw [List.getElem?_set_ne (Ne.symm e), wld_get hi, ho i e]
  · rw [List.getElem?_eq_none (by simp [wldA]; omega), List.getElem?_eq_none (by simp [wldA]; omega)]
theorem wld_push {cy : Nat → ClassId} {z : Nat} {h h' : Hp} {x : va_E} (hn : h'.1 = h.1 + 1) (ho : ∀ i, i < h.1 → celA cy z h' i = celA cy z h i) (hx : celA cy z h' h.1 = x) : wldA cy z h ++ [(z + h.1, x)] = wldA cy z h' := by
  unfold wldA
  rw [hn, List.range_succ, List.map_append]
  congr 1
  · apply List.map_congr_left
    intro i hi
    rw [ho i (List.mem_range.mp hi)]
  · simp [hx]
