/-! calls by contract -/
def cmB (M' : MD) (na tc ti : Nat) : Bool := inT tc (.code M'.1 M'.2.1 M'.2.2.1 M'.2.2.2) && inT ti (.initialized M'.1.cls) && decide (M'.1.cls ≠ "java/lang/invoke/MethodHandle" ∧ M'.1.cls ≠ "java/lang/invoke/VarHandle" ∧ (parseMethodDescriptor M'.1.desc).map (fun d => d.parameters.length) = some na ∧ M'.2.2.1 ≤ 13)
/-- an instance method of class ci that may be called -/
def cvB (M' : MD) (ci na tc ti tm ts : Nat) : Bool := cmB M' na tc ti && inT tm (.instanceMethod M'.1) && inT ts (.selects M'.1.cls M'.1 M'.1) && decide (ci < 12 ∧ M'.1.cls = (clF ci).1)
def csB (M' : MD) (na tc ti tm : Nat) : Bool := cmB M' na tc ti && inT tm (.static M'.1)
def ciB (M' : MD) (na tc ti tm : Nat) : Bool := cmB M' na tc ti && inT tm (.instanceMethod M'.1) && decide (M'.1.name = "<init>" ∧ M'.2.2.2 = none)
def lkB (M M' : MD) (pc idx t : Nat) (i : Instr) : Bool := decide (decode M.2.1 pc = .ok (i, 3)) && (inT t (.methodLink M.1.cls idx M'.1) || inN t (.methodLinkNest M.1.cls idx M'.1 "HumanPyramid"))
theorem good_ws (M' : MD) (hc : Cond.code M'.1 M'.2.1 M'.2.2.1 M'.2.2.2 ∈ gwT) : GoodIn gwT (wsM M') := fun w hw => by
  rcases List.mem_cons.mp hw with rfl | hw
  · exact ⟨hc, (gwT_good hc).2⟩
  · exact ⟨hw, (gwT_good hw).2⟩
theorem lk_or {M M' : MD} {pc idx t : Nat} {i : Instr} (h : lkB M M' pc idx t i = true) : decode M.2.1 pc = .ok (i, 3) ∧ (Cond.methodLink M.1.cls idx M'.1 ∈ gwT ∨ Cond.methodLinkNest M.1.cls idx M'.1 "HumanPyramid" ∈ nestM) := by
  obtain ⟨h1, h2⟩ := Bool.and_eq_true_iff.mp h
  refine ⟨of_decide_eq_true h1, ?_⟩
  rw [Bool.or_eq_true] at h2
  rcases h2 with h2 | h2
  · exact Or.inl (inT_mem h2)
  · exact Or.inr (List.mem_filter.mpr ⟨List.mem_of_getElem? (of_decide_eq_true h2), rfl⟩)
section CallsA
variable {scr : ScA} {d : Nat} {M M' : MD} {D : va_G} {cy : Nat → ClassId} {tb : Nat → Nat} {z : Nat} {p : Program} {l : Launch} {e : Env} {R : Room} {s : State} {m : MethodId} {args : Array Value} {below : List Frame} {meth : Method} {c : Code} {n0 w0 mc ms : Nat} {Qf : State → Prop} {pc : Nat} {ls : LsA} {st : List Value} {h : Hp}
theorem run_go {H : Heap} {locs : List Loc} {A : Array Slot} {mc' ms' : Nat} {stk rest : List Value} {a : Array Value} {post' : Option Value → Hp → Prop} (hS : va_S (fun q => z ≤ q) s.heap H locs) (hL : lsOK M.2.2.1 z tb ls A) (hn : n0 ≤ h.1) (hw : w0 ≤ h.2.1) (hsz : s.heap.size = z + n0)
    (hr : va_Run p l e R s m args below meth c H locs (h.1 - n0) (h.2.1 - w0) mc' ms' (F0 m pc A stk) (rest.map (rvA z tb)) (QxA D cy tb z post' a) (fun q => z ≤ q))
    (kk : ∀ (rv : Option Value) (h' : Hp), post' rv h' → h'.1 = h.1 + mc' ∧ h'.2.1 = h.2.1 + ms' ∧ GoA M D cy tb z p l e R s m args below meth c n0 w0 mc ms Qf (pc + 3) ls (rv.toList ++ rest) h') : W p l e R s m args below meth c H locs (h.1 - n0) (h.2.1 - w0) Qf (F0 m pc A stk) := by
  intro T hT X
  obtain ⟨v, st₀, t, T', L, h0, X', hL', e1, e2, ⟨⟨rv, h', hp, hv, hW'⟩, hF⟩, stp9⟩ := hr T hT X
  have hv' : v = rv.map (rvA z tb) := by injection hv
  subst hv'
  obtain ⟨g1, g2, g3⟩ := kk rv h' hp
  rw [← e1] at hW'
  have hF1 : st₀.heap.size ≤ T'.heap.size := by rw [e1]; exact hF.1
  have hF2 : ∀ q : Nat, q < st₀.heap.size → ¬ z ≤ q → T'.heap[q]? = st₀.heap[q]? := fun q a1 a2 => by rw [e1]; exact hF.2 q a1 a2
  rw [h0] at hF1 hF2
  have hS' : va_S (fun q => z ≤ q) s.heap T'.heap (locs ++ L) := ⟨Nat.le_trans hS.1 hF1, fun q a1 a2 => (hF2 q (Nat.lt_of_lt_of_le a1 hS.1) a2).trans (hS.2.1 q a1 a2), fun q hq => by
    rcases List.mem_append.mp hq with h9 | h9
    · exact hS.2.2 q h9
    · exact hL' q h9⟩
  have hk9 := g3 T'.heap (locs ++ L) A hW' hS' hL (by omega) (by omega)
  have c1 : h'.1 - n0 = h.1 - n0 + mc' := by omega
  have c2 : h'.2.1 - w0 = h.2.1 - w0 + ms' := by omega
  rw [c1, c2] at hk9
  obtain ⟨t2, a1, b1⟩ := hk9 T' rfl X'
  refine ⟨t2, stp9 t2 ?_, b1⟩
  have e3 : (rv.map (rvA z tb)).toList ++ rest.map (rvA z tb) = (rv.toList ++ rest).map (rvA z tb) := by cases rv <;> simp
  show Steps p.tables e below (T'.setTop { F0 m pc A stk with pc := pc + 3, stack := (rv.map (rvA z tb)).toList ++ rest.map (rvA z tb) }) t2
  rw [e3]
  exact a1
theorem pre_ok (E : EnA scr d M D cy tb z p R s m args meth c n0 mc ms) {H : Heap} {locs : List Loc} (hP : WdA D cy z h H) (hS : va_S (fun q => z ≤ q) s.heap H locs) (hHs : H.size = z + h.1) (as : List Value) : FrameBlind (va_Pc (as.map (rvA z tb)) (fun U => U.heap.size = z + h.1 ∧ WdA D cy z h U.heap ∧ CkA D cy tb z scr U U.heap)) ∧ ∀ U : State, U.heap = H → s.WarmedH U.vm → va_Pc (as.map (rvA z tb)) (fun U => U.heap.size = z + h.1 ∧ WdA D cy z h U.heap ∧ CkA D cy tb z scr U U.heap) (as.map (rvA z tb)).toArray U := by
  refine ⟨fun a U g mk q => ⟨q.1, q.2.1, q.2.2.1, q.2.2.2.same rfl⟩, fun U hU hW => ⟨rfl, by rw [hU]; exact hHs, by rw [hU]; exact hP, ?_⟩⟩
  have hC := E.2.2.2.2.2.1
  refine ⟨va_K.moved hW.alike hC.1, hC.2.moved hW (fun a a1 a2 => ?_)⟩
  rw [hU]
  exact hS.2.1 a a1 a2
end CallsA
section CallsB
variable {scr : ScA} {d d' : Nat} {M : MD} {N1 W1 pc : Nat} {ls : LsA} {st rest : List Value} {h : Hp} {post post' : Option Value → Hp → Prop} {as : List Value} {mc' ms' : Nat}
/-- a call of an instance method -/
theorem XA.callV {M' : MD} {ci na k idx t tc ti tm ts : Nat} (hv : cvB M' ci na tc ti tm ts = true) (hl : lkB M M' pc idx t (.invokevirtual idx) = true) (hO : kO h.1 h.2.2.1 k ci = true) (hst : st = as.reverse ++ .ref k :: rest) (hn : as.length = na) (hrest : (rest.map fun v => v.category).sum ≤ 8) (hdd : d' + 1 ≤ d) (hb1 : h.1 + mc' ≤ N1) (hb2 : h.2.1 + ms' ≤ W1)
    (hC : CtA scr d' M' (.ref k :: as) h mc' ms' post') (kk : ∀ (rv : Option Value) (h' : Hp), post' rv h' → h'.1 = h.1 + mc' ∧ h'.2.1 = h.2.1 + ms' ∧ XA scr d M N1 W1 (pc + 3) ls (rv.toList ++ rest) h' post) : XA scr d M N1 W1 pc ls st h post := by
  subst hst
  obtain ⟨v123, v4⟩ := Bool.and_eq_true_iff.mp hv
  obtain ⟨v12, v3⟩ := Bool.and_eq_true_iff.mp v123
  obtain ⟨v1, v2⟩ := Bool.and_eq_true_iff.mp v12
  obtain ⟨u12, u3⟩ := Bool.and_eq_true_iff.mp v1
  obtain ⟨u1, u2⟩ := Bool.and_eq_true_iff.mp u12
  obtain ⟨y1, y2, y3, y4⟩ := of_decide_eq_true u3
  obtain ⟨hci, hcl⟩ := of_decide_eq_true v4
  have hcode := inT_mem u1
  have hini := inT_mem u2
  obtain ⟨hd, hlink⟩ := lk_or hl
  intro D cy tb z p l e R s m args below meth c n0 w0 mc ms Qf E e1 e2 hR H locs A hP hS hL hn0 hw0
  obtain ⟨hx, hbc, hml, hown, hts, hCk, hsz, -, hfr, hlo, hmc, hms⟩ := id E
  refine W_sz fun hz => ?_
  have hHs := size_is hP hS hsz hn0 hz
  obtain ⟨pb, pp⟩ := pre_ok E hP hS hHs (.ref k :: as)
  obtain ⟨hk, hs⟩ := kO_iff.mp hO
  have hcel := wld_get (cy := cy) (z := z) hk
  rw [celA_o hs] at hcel
  have hrecv : ∃ cell : Cell, H[z + k]? = some cell ∧ cell.vm.isStatics = false ∧ s.vm.findClass (clF ci).1 = some cell.cls := va_recv (q := ((clF ci).1, (clF ci).2.1, nF ci)) hCk.1 hP (clF_get hci) hcel
  rw [← hcl] at hrecv
  have hroom : (rmA d' mc' ms').frames + 1 ≤ R.frames ∧ 8 + (M'.2.2.1 + 11) + (rmA d' mc' ms').locals ≤ R.locals := ⟨by show d' + 1 ≤ _; omega, by show 8 + (M'.2.2.1 + 11) + d' * 32 ≤ _; omega⟩
  have hstk : ((as.reverse ++ .ref k :: rest).map (rvA z tb)) = (as.map (rvA z tb)).reverse ++ .ref (z + k) :: rest.map (rvA z tb) := by simp [rvA]
  have hlen : (as.map (rvA z tb)).length = na := by rw [List.length_map]; exact hn
  have hkk : ∀ (rv : Option Value) (h' : Hp), post' rv h' → h'.1 = h.1 + mc' ∧ h'.2.1 = h.2.1 + ms' ∧ GoA M D cy tb z p l e R s m args below meth c n0 w0 mc ms Qf (pc + 3) ls (rv.toList ++ rest) h' := fun rv h' hp => ⟨(kk rv h' hp).1, (kk rv h' hp).2.1, (kk rv h' hp).2.2 D cy tb z p l e R s m args below meth c n0 w0 mc ms Qf E e1 e2 hR⟩
  rcases hlink with hlink | hlink
  · refine run_go (h := h) (a := (Value.ref (z + k) :: as.map (rvA z tb)).toArray) hS hL hn0 hw0 hsz (va_runV (As := as.map (rvA z tb)) (b := z + k) (rest := rest.map (rvA z tb)) ⟨hx, hbc, hml, hown, hts⟩ (hC l D cy tb z) (C := M'.1.cls) (cwV na hts (fun w hw => ?_) rfl rfl rfl ⟨rfl, y1, y2, y3⟩ hroom) ⟨pb, hrecv, pp⟩ rfl hlen hL.1 hstk (lv_room (by rw [sum_cat]; exact hrest)) hd ⟨by omega, by omega⟩) hkk
    unfold wsV at hw
    rcases List.mem_append.mp hw with hw | hw
    · have : w ∈ gwT := by
        simp only [List.mem_cons, List.not_mem_nil, or_false] at hw
        rcases hw with rfl | rfl | rfl | rfl
        · exact hlink
        · exact inT_mem v2
        · exact inT_mem v3
        · exact hini
      exact ⟨this, (gwT_good this).2⟩
    · exact good_ws M' hcode w hw
  · exact run_go (h := h) (a := (Value.ref (z + k) :: as.map (rvA z tb)).toArray) hS hL hn0 hw0 hsz (va_runVN (As := as.map (rvA z tb)) (b := z + k) (rest := rest.map (rvA z tb)) ⟨hx, hbc, hml, hown, hts⟩ (hC l D cy tb z) (C := M'.1.cls) ⟨va_cnB na hts (good_ws M' hcode) rfl rfl rfl (hCk.2.2.2.1 _ hlink) (hts _ hini) ⟨y1, y2, y3⟩ hroom, hts _ (inT_mem v2), hts _ (inT_mem v3)⟩ ⟨pb, hrecv, pp⟩ rfl hlen hL.1 hstk (lv_room (by rw [sum_cat]; exact hrest)) hd ⟨by omega, by omega⟩) hkk
/-- a call of a static method -/
theorem XA.callS {M' : MD} {na idx t tc ti tm : Nat} (hv : csB M' na tc ti tm = true) (hl : lkB M M' pc idx t (.invokestatic idx) = true) (hst : st = as.reverse ++ rest) (hn : as.length = na) (hrest : (rest.map fun v => v.category).sum ≤ 8) (hdd : d' + 1 ≤ d) (hb1 : h.1 + mc' ≤ N1) (hb2 : h.2.1 + ms' ≤ W1)
    (hC : CtA scr d' M' as h mc' ms' post') (kk : ∀ (rv : Option Value) (h' : Hp), post' rv h' → h'.1 = h.1 + mc' ∧ h'.2.1 = h.2.1 + ms' ∧ XA scr d M N1 W1 (pc + 3) ls (rv.toList ++ rest) h' post) : XA scr d M N1 W1 pc ls st h post := by
  subst hst
  obtain ⟨v1, v2⟩ := Bool.and_eq_true_iff.mp hv
  obtain ⟨u12, u3⟩ := Bool.and_eq_true_iff.mp v1
  obtain ⟨u1, u2⟩ := Bool.and_eq_true_iff.mp u12
  obtain ⟨y1, y2, y3, y4⟩ := of_decide_eq_true u3
  have hcode := inT_mem u1
  have hini := inT_mem u2
  obtain ⟨hd, hlink⟩ := lk_or hl
  intro D cy tb z p l e R s m args below meth c n0 w0 mc ms Qf E e1 e2 hR H locs A hP hS hL hn0 hw0
  obtain ⟨hx, hbc, hml, hown, hts, hCk, hsz, -, hfr, hlo, hmc, hms⟩ := id E
  refine W_sz fun hz => ?_
  have hHs := size_is hP hS hsz hn0 hz
  obtain ⟨pb, pp⟩ := pre_ok E hP hS hHs as
  have hroom : (rmA d' mc' ms').frames + 1 ≤ R.frames ∧ 8 + (M'.2.2.1 + 11) + (rmA d' mc' ms').locals ≤ R.locals := ⟨by show d' + 1 ≤ _; omega, by show 8 + (M'.2.2.1 + 11) + d' * 32 ≤ _; omega⟩
  have hstk : ((as.reverse ++ rest).map (rvA z tb)) = (as.map (rvA z tb)).reverse ++ rest.map (rvA z tb) := by simp
  have hlen : (as.map (rvA z tb)).length = na := by rw [List.length_map]; exact hn
  have hkk : ∀ (rv : Option Value) (h' : Hp), post' rv h' → h'.1 = h.1 + mc' ∧ h'.2.1 = h.2.1 + ms' ∧ GoA M D cy tb z p l e R s m args below meth c n0 w0 mc ms Qf (pc + 3) ls (rv.toList ++ rest) h' := fun rv h' hp => ⟨(kk rv h' hp).1, (kk rv h' hp).2.1, (kk rv h' hp).2.2 D cy tb z p l e R s m args below meth c n0 w0 mc ms Qf E e1 e2 hR⟩
  rcases hlink with hlink | hlink
  · refine run_go (h := h) (a := (as.map (rvA z tb)).toArray) hS hL hn0 hw0 hsz (va_runS (As := as.map (rvA z tb)) (rest := rest.map (rvA z tb)) ⟨hx, hbc, hml, hown, hts⟩ (hC l D cy tb z) (va_cwS na hts (fun w hw => ?_) rfl rfl rfl ⟨y1, y2, y3⟩ hroom) ⟨pb, pp⟩ rfl hlen hL.1 hstk (lv_room (by rw [sum_cat]; exact hrest)) hd ⟨by omega, by omega⟩) hkk
    unfold va_wsS at hw
    rcases List.mem_append.mp hw with hw | hw
    · have : w ∈ gwT := by
        simp only [List.mem_cons, List.not_mem_nil, or_false] at hw
        rcases hw with rfl | rfl | rfl
        · exact hlink
        · exact inT_mem v2
        · exact hini
      exact ⟨this, (gwT_good this).2⟩
    · exact good_ws M' hcode w hw
  · exact run_go (h := h) (a := (as.map (rvA z tb)).toArray) hS hL hn0 hw0 hsz (va_runSN (As := as.map (rvA z tb)) (rest := rest.map (rvA z tb)) ⟨hx, hbc, hml, hown, hts⟩ (hC l D cy tb z) ⟨va_cnB na hts (good_ws M' hcode) rfl rfl rfl (hCk.2.2.2.1 _ hlink) (hts _ hini) ⟨y1, y2, y3⟩ hroom, hts _ (inT_mem v2), trivial⟩ ⟨pb, pp⟩ rfl hlen hL.1 hstk (lv_room (by rw [sum_cat]; exact hrest)) hd ⟨by omega, by omega⟩) hkk
/-- a call of a constructor -/
theorem XA.callI {M' : MD} {na k idx t tc ti tm : Nat} (hv : ciB M' na tc ti tm = true) (hl : lkB M M' pc idx t (.invokespecial idx) = true) (hst : st = as.reverse ++ .ref k :: rest) (hn : as.length = na) (hrest : (rest.map fun v => v.category).sum ≤ 8) (hdd : d' + 1 ≤ d) (hb1 : h.1 + mc' ≤ N1) (hb2 : h.2.1 + ms' ≤ W1)
    (hC : CtA scr d' M' (.ref k :: as) h mc' ms' post') (kk : ∀ (rv : Option Value) (h' : Hp), post' rv h' → h'.1 = h.1 + mc' ∧ h'.2.1 = h.2.1 + ms' ∧ XA scr d M N1 W1 (pc + 3) ls (rv.toList ++ rest) h' post) : XA scr d M N1 W1 pc ls st h post := by
  subst hst
  obtain ⟨v12, v3⟩ := Bool.and_eq_true_iff.mp hv
  obtain ⟨v1, v2⟩ := Bool.and_eq_true_iff.mp v12
  obtain ⟨u12, u3⟩ := Bool.and_eq_true_iff.mp v1
  obtain ⟨u1, u2⟩ := Bool.and_eq_true_iff.mp u12
  obtain ⟨y1, y2, y3, y4⟩ := of_decide_eq_true u3
  obtain ⟨hnm, hret⟩ := of_decide_eq_true v3
  have hcode := inT_mem u1
  have hini := inT_mem u2
  obtain ⟨hd, hlink⟩ := lk_or hl
  intro D cy tb z p l e R s m args below meth c n0 w0 mc ms Qf E e1 e2 hR H locs A hP hS hL hn0 hw0
  obtain ⟨hx, hbc, hml, hown, hts, hCk, hsz, -, hfr, hlo, hmc, hms⟩ := id E
  refine W_sz fun hz => ?_
  have hHs := size_is hP hS hsz hn0 hz
  obtain ⟨pb, pp⟩ := pre_ok E hP hS hHs (.ref k :: as)
  have hroom : (rmA d' mc' ms').frames + 1 ≤ R.frames ∧ 8 + (M'.2.2.1 + 11) + (rmA d' mc' ms').locals ≤ R.locals := ⟨by show d' + 1 ≤ _; omega, by show 8 + (M'.2.2.1 + 11) + d' * 32 ≤ _; omega⟩
  have hstk : ((as.reverse ++ .ref k :: rest).map (rvA z tb)) = (as.map (rvA z tb)).reverse ++ .ref (z + k) :: rest.map (rvA z tb) := by simp [rvA]
  have hlen : (as.map (rvA z tb)).length = na := by rw [List.length_map]; exact hn
  have hwsM : wsM M' = Cond.code M'.1 M'.2.1 M'.2.2.1 none :: gwT := by unfold wsM; rw [hret]
  have hkk : ∀ (rv : Option Value) (h' : Hp), post' rv h' → h'.1 = h.1 + mc' ∧ h'.2.1 = h.2.1 + ms' ∧ GoA M D cy tb z p l e R s m args below meth c n0 w0 mc ms Qf (pc + 3) ls (rv.toList ++ rest) h' := fun rv h' hp => ⟨(kk rv h' hp).1, (kk rv h' hp).2.1, (kk rv h' hp).2.2 D cy tb z p l e R s m args below meth c n0 w0 mc ms Qf E e1 e2 hR⟩
  rcases hlink with hlink | hlink
  · exact run_go (h := h) (a := (Value.ref (z + k) :: as.map (rvA z tb)).toArray) hS hL hn0 hw0 hsz (va_runI (As := as.map (rvA z tb)) (b := z + k) (rest := rest.map (rvA z tb)) ⟨hx, hbc, hml, hown, hts⟩ (hC l D cy tb z) (cwI na hts (good_ws M' hcode) hwsM rfl rfl (hts _ hini) (hts _ hlink) (hts _ (inT_mem v2)) hnm ⟨y1, y2, y3⟩ hroom) ⟨pb, pp⟩ rfl hlen hL.1 hstk (lv_room (by rw [sum_cat]; exact hrest)) hd ⟨by omega, by omega⟩) hkk
  · exact run_go (h := h) (a := (Value.ref (z + k) :: as.map (rvA z tb)).toArray) hS hL hn0 hw0 hsz (va_runIN (As := as.map (rvA z tb)) (b := z + k) (rest := rest.map (rvA z tb)) ⟨hx, hbc, hml, hown, hts⟩ (hC l D cy tb z) ⟨va_cnB na hts (good_ws M' hcode) hwsM rfl rfl (hCk.2.2.2.1 _ hlink) (hts _ hini) ⟨y1, y2, y3⟩ hroom, hnm, hts _ (inT_mem v2)⟩ ⟨pb, pp⟩ rfl hlen hL.1 hstk (lv_room (by rw [sum_cat]; exact hrest)) hd ⟨by omega, by omega⟩) hkk
end CallsB
