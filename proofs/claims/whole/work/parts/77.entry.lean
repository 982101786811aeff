/-! THE CLAIM OUT OF ONE WALK OF THE LAW'S BODY. Your part is whole_start (and what it stands on); all else here is the same for every law, but numbers. -/
def R_law : String := "HumanPyramidLaw"
def lw_P (b : Addr) (xs : List Int32) (args : Array Value) (s : State) : Prop := args = #[.ref b] ∧ s.IntsAt b xs ∧ xs.length ≤ 3072 ∧ (Jvm.Cond.and given_1 narrow_1).before args s = true
def lw_Q (_ : Array Value) (s : State) (o : Outcome) (t : State) : Prop := o = .returned (some (.int 1)) ∧ Framed s o t [] 600000 7302250
def lw_Z (below : List Frame) (a : Array Value) (s : State) : State → Prop := fun t => ∃ o, t.status = .running ∧ Ended t below o ∧ lw_Q a s o t
/-- the law's own end, with 1 on the stack, nothing written that was there before, its room as the claim has it -/
theorem lw_ret {p : Program} {l : Launch} {e : Env} {s : State} {m : MethodId} {below : List Frame} {meth : Method} {c : Code} {b : Nat} (hx : p.tables.exec = Jvm.exec) (hb : c.code = code) (hr : meth.sig.returnType = ret) (hlocks : meth.locks = false) {pc : Nat} {H : Heap} {ls : Array Slot} (hdg : decode code pc = .ok (.ireturn, 1)) : W p l e room_1 s m #[Value.ref b] below meth c H [] 600000 7302250 (lw_Z below #[Value.ref b] s) (F0 m pc ls [.int 1]) := by
  intro T hT X
  obtain ⟨fs, hret, hrun, hended, hW, hframe⟩ := X.leave (v := some (.int 1)) (hlocks := hlocks) (fun h => by rw [hr] at h; cases h)
  have hmeth' : T.vm.method? m = some meth := X.method'
  refine ⟨T.setFrames fs, ?_, .returned (some (.int 1)), hrun, hended, rfl, ⟨_, rfl⟩, hW, hframe⟩
  jvm_step X.here [X.here.top, hx, hb, hdg, hmeth', hr, ret, narrow_b1]
  (try refine ⟨rfl, ?_⟩); (try refine ⟨rfl, ?_⟩)
  first | (intro acts; rw [hret _ acts rfl rfl rfl]) | rw [hret _ _ rfl rfl rfl]
  exact Steps.refl _
/-- what holds at the law's entry: the machine, the code, the tables' words (any of lw_tbl by 'hts w (by decide +kernel)'), the script of L ints xs at the cell b, what the Statement gives of the start (any of its parts by flat_of_before) -/
def lw_At (p : Program) (s : State) (m : MethodId) (meth : Method) (c : Code) (b L : Nat) (xs : Nat → Int32) : Prop :=
  p.tables.exec = Jvm.exec ∧ c.code = code ∧ meth.sig.returnType = ret ∧ c.maxLocals = 4 ∧ s.vm.findClass R_law = some m.cls ∧ (∀ w ∈ lw_tbl, w.before #[Value.ref b] s = true) ∧ va_X b L xs s s.heap ∧ b < s.heap.size ∧ meth.locks = false ∧ (Jvm.Cond.and given_1 narrow_1).before #[Value.ref b] s = true
/-- a static row of ints -/
theorem st_row {s : State} {b : Nat} {nm : String} {N : Nat} {f : Nat → Int32} (hN : N < 2 ^ 31) (hs : ∀ c ∈ flatC (Jvm.Cond.and given_1 narrow_1), c.before #[Value.ref b] s = true) (hl : (Cond.laysStatic "HumanPyramid" nm "[I").before #[Value.ref b] s = true) (hini : (Cond.initialized "HumanPyramid").before #[Value.ref b] s = true) (h1 : Cond.arrayOf (.static "HumanPyramid" nm "[I") .int ∈ flatC (Jvm.Cond.and given_1 narrow_1)) (h2 : Cond.eq (.length (.static "HumanPyramid" nm "[I")) (.int (Int32.ofNat N)) ∈ flatC (Jvm.Cond.and given_1 narrow_1)) (h3 : ∀ j, j < N → Cond.eq (.elem (.static "HumanPyramid" nm "[I") (.int (Int32.ofNat j))) (.int (f j)) ∈ flatC (Jvm.Cond.and given_1 narrow_1)) : ∃ t : Nat, va_Z "HumanPyramid" nm "[I" (.ref t) (fun q => s.heap.size ≤ q) s s.heap ∧ va_T .int t N (fun i => .int (f i)) (fun q => s.heap.size ≤ q) s s.heap := by
  have hA : ∀ a : Nat, a < s.heap.size → ¬ s.heap.size ≤ a := fun a ha => by omega
  obtain ⟨t, e, h⟩ := va_Tof (tm := .static "HumanPyramid" nm "[I") (ty := .int) (N := N) (f := fun i => .int (f i)) (A := fun q => s.heap.size ≤ q) hN (hs _ h1) (va_eqt (hs _ h2)) (fun j hj => va_eqt (hs _ (h3 j hj))) hA
  exact ⟨t, va_Zof hl hini e hA, h⟩
theorem inst_w : ∀ a, a < 12 → inT (([272, 160, 311, 262, 376, 206, 186, 90, 105, 352, 82, 888] : List Nat).getD a 0) (.instantiable (clF a).1 (nF a)) = true := by decide +kernel
theorem row0_m : ∀ j, j < 10 → Cond.eq (.elem (.static "HumanPyramid" "LEFT_BELOW" "[I") (.int (Int32.ofNat j))) (.int ((tbL 0).getD j 0)) ∈ flatC (Jvm.Cond.and given_1 narrow_1) := by decide +kernel
theorem row1_m : ∀ j, j < 10 → Cond.eq (.elem (.static "HumanPyramid" "SUPPORTS" "[I") (.int (Int32.ofNat j))) (.int ((tbL 1).getD j 0)) ∈ flatC (Jvm.Cond.and given_1 narrow_1) := by decide +kernel
theorem row2_m : ∀ j, j < 4 → Cond.eq (.elem (.static "HumanPyramid" "ROWS" "[I") (.int (Int32.ofNat j))) (.int ((tbL 2).getD j 0)) ∈ flatC (Jvm.Cond.and given_1 narrow_1) := by decide +kernel
theorem row3_m : ∀ j, j < 5 → Cond.eq (.elem (.static "HumanPyramid" "DIGEST_MOMENTS" "[I") (.int (Int32.ofNat j))) (.int ((tbL 3).getD j 0)) ∈ flatC (Jvm.Cond.and given_1 narrow_1) := by decide +kernel
theorem in_tbl {w : Cond} (i : Nat) (h : inN i w = true) : w ∈ lw_tbl := List.mem_of_getElem? (of_decide_eq_true h)
/-- the context at the law's entry -/
theorem ck_start {s : State} {b L : Nat} {xs : Nat → Int32} (hL : L < 2 ^ 31) (hts : ∀ w ∈ lw_tbl, w.before #[Value.ref b] s = true) (hX : va_X b L xs s s.heap) (hb : b < s.heap.size) (hgv : (Jvm.Cond.and given_1 narrow_1).before #[Value.ref b] s = true) : ∃ (D : va_G) (cy : Nat → ClassId) (tb : Nat → Nat), tb 4 = b ∧ CkA D cy tb s.heap.size (L, xs) s s.heap := by
  have hs := flat_of_before _ hgv
  have hg : ∀ w ∈ gwT, w.before #[Value.ref b] s = true := fun w hw => hts w (gwT_good hw).1
  have ini : (Cond.initialized "HumanPyramid").before #[Value.ref b] s = true := hts _ (in_tbl 65 (by decide +kernel))
  obtain ⟨t0, z0, v0⟩ := st_row (nm := "LEFT_BELOW") (N := 10) (f := fun i => (tbL 0).getD i 0) (by decide) hs (hts _ (in_tbl 596 (by decide +kernel))) ini (by decide +kernel) (by decide +kernel) row0_m
  obtain ⟨t1, z1, v1⟩ := st_row (nm := "SUPPORTS") (N := 10) (f := fun i => (tbL 1).getD i 0) (by decide) hs (hts _ (in_tbl 571 (by decide +kernel))) ini (by decide +kernel) (by decide +kernel) row1_m
  obtain ⟨t2, z2, v2⟩ := st_row (nm := "ROWS") (N := 4) (f := fun i => (tbL 2).getD i 0) (by decide) hs (hts _ (in_tbl 629 (by decide +kernel))) ini (by decide +kernel) (by decide +kernel) row2_m
  obtain ⟨t3, z3, v3⟩ := st_row (nm := "DIGEST_MOMENTS") (N := 5) (f := fun i => (tbL 3).getD i 0) (by decide) hs (hts _ (in_tbl 872 (by decide +kernel))) ini (by decide +kernel) (by decide +kernel) row3_m
  have hkn : ∀ a : Nat, ∃ x : ClassId × (Nat → Nat), ∀ q : vw_C, vwCl[a]? = some q → u_Kn s q.1 q.2.1 q.2.2 x.1 x.2 := by
    intro a
    by_cases ha : a < 12
    · obtain ⟨cC, iS, h⟩ := u_known (ws := gwT) (s := s) (args := #[Value.ref b]) (C := (clF a).1) (T := (clF a).2.1) (N := nF a) (n := nF a) hg (inL ha) (hg _ (inT_mem (inst_w a ha)))
      refine ⟨(cC, iS), fun q hq => ?_⟩
      rw [clF_get ha] at hq
      cases hq
      exact h
    · refine ⟨(0, fun _ => 0), fun q hq => ?_⟩
      have hlt := (List.getElem?_eq_some_iff.mp hq).1
      exact absurd hlt ha
  obtain ⟨c0, k0, p0, f0, g0, e0⟩ := Cond.arrayClass_spec (hts (.arrayClass .int) (in_tbl 103 (by decide +kernel)))
  obtain ⟨c1, k1, p1, f1, g1, e1⟩ := Cond.arrayClass_spec (hts (.arrayClass .boolean) (in_tbl 1056 (by decide +kernel)))
  have o2 : (Cond.arrayOver (.object "HumanPyramid$Best")).before #[Value.ref b] s = true := hts _ (in_tbl 293 (by decide +kernel))
  have o3 : (Cond.arrayOver (.object "HumanPyramid$Sheet")).before #[Value.ref b] s = true := hts _ (in_tbl 375 (by decide +kernel))
  have o4 : (Cond.arrayOver (.array .int)).before #[Value.ref b] s = true := hts _ (in_tbl 212 (by decide +kernel))
  obtain ⟨p2, c2', k2, a2, -, g2, e2, f2⟩ := Cond.arrayOver_spec o2
  obtain ⟨p3, c3', k3, a3, -, g3, e3, f3⟩ := Cond.arrayOver_spec o3
  obtain ⟨p4, c4', k4, a4, -, g4, e4, f4⟩ := arrayOverA_spec o4
  refine ⟨(fun a => (Classical.choose (hkn a)).1, fun a => (Classical.choose (hkn a)).2), fun i => match i with
    | 0 => c0
    | 1 => c1
    | 2 => c2'
    | 3 => c3'
    | _ => c4', fun i => match i with
    | 0 => t0
    | 1 => t1
    | 2 => t2
    | 3 => t3
    | _ => b, rfl, ⟨fun a q hq => Classical.choose_spec (hkn a) q hq, fun k q hq => ?_⟩, fun j hj => ?_, fun j hj => ?_, fun w hw => ?_, fun w hw => ?_, va_AO.of o2, va_AO.of o3, o4⟩
  · have hk : k < 5 := (List.getElem?_eq_some_iff.mp hq).1
    rcases (by omega : k = 0 ∨ k = 1 ∨ k = 2 ∨ k = 3 ∨ k = 4) with rfl | rfl | rfl | rfl | rfl
    · cases hq
      exact ⟨fun n z => ⟨(fun k h => by cases h), k0, g0, p0, e0⟩, f0⟩
    · cases hq
      exact ⟨fun n z => ⟨(fun k h => by cases h), k1, g1, p1, e1⟩, f1⟩
    · cases hq
      exact ⟨fun n z => ⟨(fun k h => by cases h), k2, g2, p2, e2⟩, k2, p2, g2, e2, a2, f2⟩
    · cases hq
      exact ⟨fun n z => ⟨(fun k h => by cases h), k3, g3, p3, e3⟩, k3, p3, g3, e3, a3, f3⟩
    · cases hq
      exact ⟨fun n z => ⟨(fun k h => by cases h), k4, g4, p4, e4⟩, f4⟩
  · rcases (by omega : j = 0 ∨ j = 1 ∨ j = 2 ∨ j = 3) with rfl | rfl | rfl | rfl
    · exact z0
    · exact z1
    · exact z2
    · exact z3
  · rcases (by omega : j = 0 ∨ j = 1 ∨ j = 2 ∨ j = 3 ∨ j = 4) with rfl | rfl | rfl | rfl | rfl
    · exact v0
    · exact v1
    · exact v2
    · exact v3
    · obtain ⟨cell, y1, y2, y3, y4, y5⟩ := hX
      exact ⟨cell, y1, y2, y3, Nat.le_of_eq y4.symm, by rw [y4]; rfl, y5, fun q => absurd hb (Nat.not_lt.mpr q)⟩
  · obtain ⟨a, i, x, h, rfl⟩ := nestM_of hw
    exact va_tabs rfl rfl (hts _ (List.mem_filter.mp hw).1)
  · obtain ⟨a, i, x, h, y, v, rfl⟩ := nestF_of hw
    exact va_tabs rfl rfl (hts _ (List.mem_filter.mp hw).1)
theorem whole_start {p : Program} {e : Env} {s : State} {m : MethodId} {below : List Frame} {meth : Method} {c : Code} (l : Launch) (hflags : l.flags = flags0) {b L : Nat} {xs : Nat → Int32} (hL : L ≤ 3072) (C0 : lw_At p s m meth c b L xs) : W p l e room_1 s m #[Value.ref b] below meth c s.heap [] 0 0 (lw_Z below #[Value.ref b] s) (entryFrame m ([Value.ref b] : List Value).toArray 4) := by
  obtain ⟨hx, hbc, hr, hml, hown, hts, hX, hbl, hlocks, hgv⟩ := C0
  obtain ⟨D, cy, tb, htb, hCk⟩ := ck_start (L := L) (by omega) hts hX hbl hgv
  have E : EnA (L, xs) 11 mL D cy tb s.heap.size p room_1 s m #[Value.ref b] meth c 0 172 4705 := ⟨hx, hbc, hml, hown, fun w hw => hts w (gwT_good hw).1, hCk, rfl, fun q => absurd q (by decide), by decide, by decide, by decide, by decide⟩
  have hRt : RtA mL D cy tb s.heap.size p l e room_1 s m #[Value.ref b] below meth c 172 4705 (pI (fun r _ => r = 1)) (lw_Z below #[Value.ref b] s) := by
    intro rv h H locs cells slots pc A hp hP hS hc1 hc2 hok hd
    obtain ⟨r9, s9, g1, g2, g3⟩ := hp
    subst g1
    subst g3
    exact va_forget (fun q hq => hS.2.2 q hq) (W.widen (k := 600000) (n := 7302250) (by omega) (by omega) (lw_ret hx hbc hr hlocks hd))
  rw [lg_entry_eq]
  have hl := lv_entry ([Value.ref b] : List Value) (n := 4) (show 1 ≤ 4 by omega)
  generalize (lg_sl ([Value.ref b] : List Value) ++ List.replicate (4 - (lg_sl ([Value.ref b] : List Value)).length) Slot.unset).toArray = A at hl ⊢
  have hgo := law_all (L, xs) (show L < 2 ^ 31 by omega) D cy tb s.heap.size p l e room_1 s m #[Value.ref b] below meth c 0 0 172 4705 _ E rfl rfl hRt s.heap [] A (fun k q hq => by cases hq) va_S.rf ⟨hl.1, hl.2.1, fun i v hi => ?_⟩ (Nat.le_refl _) (Nat.le_refl _)
  · exact hgo
  · cases i with
    | zero =>
      have hi' : some (Value.retAddr 4) = some v := hi
      cases hi'
      show A[0]? = some (.val (.ref (tb 4)))
      rw [htb]
      exact hl.2.2 (0, .ref b) (by simp [lv_args])
    | succ i =>
      exfalso
      rcases (by omega : i = 0 ∨ i = 1 ∨ i = 2 ∨ 3 ≤ i) with rfl | rfl | rfl | hi3
      · cases hi
      · cases hi
      · cases hi
      · rw [List.getD_eq_getElem?_getD, List.getElem?_eq_none (by show 4 ≤ i + 1; omega)] at hi
        cases hi
