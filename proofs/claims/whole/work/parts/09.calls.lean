/-! branches, switches, returns, contracts, calls -/
theorem TbA.same {tb : Nat → Nat} {z : Nat} {scr : ScA} {u U : State} {H : Heap} (h : TbA tb z scr u H) (hv : u.vm = U.vm) : TbA tb z scr U H := by
  obtain ⟨h1, h2, h3, h4, h5, h6, h7⟩ := h
  have hal : u.vm.Alike U.vm := by rw [hv]; exact Vm.Alike.refl _
  refine ⟨fun j hj => (h1 j hj).moved hal, fun j hj => (h2 j hj).moved hal, fun w hw => ?_, fun w hw => ?_, h5.moved hal, h6.moved hal, Jvm.Stand.arrayOver_alikeB hal h7⟩
  · obtain ⟨a, i, x, b, rfl⟩ := nestM_of hw
    exact va_Nw.same rfl hv (h3 _ hw)
  · obtain ⟨a, i, x, b, c, d, rfl⟩ := nestF_of hw
    exact va_Nw.same rfl hv (h4 _ hw)
theorem CkA.same {D : va_G} {cy : Nat → ClassId} {tb : Nat → Nat} {z : Nat} {scr : ScA} {u U : State} {H : Heap} (h : CkA D cy tb z scr u H) (hv : u.vm = U.vm) : CkA D cy tb z scr U H := ⟨va_K.moved (by rw [hv]; exact Vm.Alike.refl _) h.1, h.2.same hv⟩
def ckI (M : MD) (pc : Nat) (i : Instr) (off : Int) (tgt : Nat) : Bool := decide (decode M.2.1 pc = .ok (i, 3) ∧ (pc : Int) + off = (tgt : Int))
section BranchA
variable {scr : ScA} {d : Nat} {M : MD} {N1 W1 pc : Nat} {ls : LsA} {r : List Value} {h : Hp} {post : Option Value → Hp → Prop} {x y : Int32}
theorem XA.icmp_eq (off : Int) (tgt : Nat) (hc : ckI M pc (.if_icmp .eq off) off tgt = true) (kt : x = y → XA scr d M N1 W1 tgt ls r h post) (kf : ¬ x = y → XA scr d M N1 W1 (pc + 3) ls r h post) : XA scr d M N1 W1 pc ls (.int y :: .int x :: r) h post := by
  obtain ⟨hd, ht⟩ := of_decide_eq_true hc
  intro D cy tb z p l e R s m args below meth c n0 w0 mc ms Qf E e1 e2 hR H locs A hP hS hL hn hw
  exact lv_icmp_eq E.1 E.2.1 hd ht (fun q => kt q D cy tb z p l e R s m args below meth c n0 w0 mc ms Qf E e1 e2 hR H locs A hP hS hL hn hw) (fun q => kf q D cy tb z p l e R s m args below meth c n0 w0 mc ms Qf E e1 e2 hR H locs A hP hS hL hn hw)
theorem XA.icmp_ne (off : Int) (tgt : Nat) (hc : ckI M pc (.if_icmp .ne off) off tgt = true) (kt : ¬ x = y → XA scr d M N1 W1 tgt ls r h post) (kf : x = y → XA scr d M N1 W1 (pc + 3) ls r h post) : XA scr d M N1 W1 pc ls (.int y :: .int x :: r) h post := by
  obtain ⟨hd, ht⟩ := of_decide_eq_true hc
  intro D cy tb z p l e R s m args below meth c n0 w0 mc ms Qf E e1 e2 hR H locs A hP hS hL hn hw
  exact lv_icmp_ne E.1 E.2.1 hd ht (fun q => kt q D cy tb z p l e R s m args below meth c n0 w0 mc ms Qf E e1 e2 hR H locs A hP hS hL hn hw) (fun q => kf q D cy tb z p l e R s m args below meth c n0 w0 mc ms Qf E e1 e2 hR H locs A hP hS hL hn hw)
theorem XA.icmp_lt (off : Int) (tgt : Nat) (hc : ckI M pc (.if_icmp .lt off) off tgt = true) (kt : x < y → XA scr d M N1 W1 tgt ls r h post) (kf : ¬ x < y → XA scr d M N1 W1 (pc + 3) ls r h post) : XA scr d M N1 W1 pc ls (.int y :: .int x :: r) h post := by
  obtain ⟨hd, ht⟩ := of_decide_eq_true hc
  intro D cy tb z p l e R s m args below meth c n0 w0 mc ms Qf E e1 e2 hR H locs A hP hS hL hn hw
  exact lv_icmp_lt E.1 E.2.1 hd ht (fun q => kt q D cy tb z p l e R s m args below meth c n0 w0 mc ms Qf E e1 e2 hR H locs A hP hS hL hn hw) (fun q => kf q D cy tb z p l e R s m args below meth c n0 w0 mc ms Qf E e1 e2 hR H locs A hP hS hL hn hw)
theorem XA.icmp_ge (off : Int) (tgt : Nat) (hc : ckI M pc (.if_icmp .ge off) off tgt = true) (kt : y ≤ x → XA scr d M N1 W1 tgt ls r h post) (kf : ¬ y ≤ x → XA scr d M N1 W1 (pc + 3) ls r h post) : XA scr d M N1 W1 pc ls (.int y :: .int x :: r) h post := by
  obtain ⟨hd, ht⟩ := of_decide_eq_true hc
  intro D cy tb z p l e R s m args below meth c n0 w0 mc ms Qf E e1 e2 hR H locs A hP hS hL hn hw
  exact lv_icmp_ge E.1 E.2.1 hd ht (fun q => kt q D cy tb z p l e R s m args below meth c n0 w0 mc ms Qf E e1 e2 hR H locs A hP hS hL hn hw) (fun q => kf q D cy tb z p l e R s m args below meth c n0 w0 mc ms Qf E e1 e2 hR H locs A hP hS hL hn hw)
theorem XA.icmp_gt (off : Int) (tgt : Nat) (hc : ckI M pc (.if_icmp .gt off) off tgt = true) (kt : y < x → XA scr d M N1 W1 tgt ls r h post) (kf : ¬ y < x → XA scr d M N1 W1 (pc + 3) ls r h post) : XA scr d M N1 W1 pc ls (.int y :: .int x :: r) h post := by
  obtain ⟨hd, ht⟩ := of_decide_eq_true hc
  intro D cy tb z p l e R s m args below meth c n0 w0 mc ms Qf E e1 e2 hR H locs A hP hS hL hn hw
  exact lv_icmp_gt E.1 E.2.1 hd ht (fun q => kt q D cy tb z p l e R s m args below meth c n0 w0 mc ms Qf E e1 e2 hR H locs A hP hS hL hn hw) (fun q => kf q D cy tb z p l e R s m args below meth c n0 w0 mc ms Qf E e1 e2 hR H locs A hP hS hL hn hw)
theorem XA.icmp_le (off : Int) (tgt : Nat) (hc : ckI M pc (.if_icmp .le off) off tgt = true) (kt : x ≤ y → XA scr d M N1 W1 tgt ls r h post) (kf : ¬ x ≤ y → XA scr d M N1 W1 (pc + 3) ls r h post) : XA scr d M N1 W1 pc ls (.int y :: .int x :: r) h post := by
  obtain ⟨hd, ht⟩ := of_decide_eq_true hc
  intro D cy tb z p l e R s m args below meth c n0 w0 mc ms Qf E e1 e2 hR H locs A hP hS hL hn hw
  exact lv_icmp_le E.1 E.2.1 hd ht (fun q => kt q D cy tb z p l e R s m args below meth c n0 w0 mc ms Qf E e1 e2 hR H locs A hP hS hL hn hw) (fun q => kf q D cy tb z p l e R s m args below meth c n0 w0 mc ms Qf E e1 e2 hR H locs A hP hS hL hn hw)
theorem XA.if_eq (off : Int) (tgt : Nat) (hc : ckI M pc (.ifCond .eq off) off tgt = true) (kt : x = 0 → XA scr d M N1 W1 tgt ls r h post) (kf : ¬ x = 0 → XA scr d M N1 W1 (pc + 3) ls r h post) : XA scr d M N1 W1 pc ls (.int x :: r) h post := by
  obtain ⟨hd, ht⟩ := of_decide_eq_true hc
  intro D cy tb z p l e R s m args below meth c n0 w0 mc ms Qf E e1 e2 hR H locs A hP hS hL hn hw
  exact lv_if_eq E.1 E.2.1 hd ht (fun q => kt q D cy tb z p l e R s m args below meth c n0 w0 mc ms Qf E e1 e2 hR H locs A hP hS hL hn hw) (fun q => kf q D cy tb z p l e R s m args below meth c n0 w0 mc ms Qf E e1 e2 hR H locs A hP hS hL hn hw)
theorem XA.if_ne (off : Int) (tgt : Nat) (hc : ckI M pc (.ifCond .ne off) off tgt = true) (kt : ¬ x = 0 → XA scr d M N1 W1 tgt ls r h post) (kf : x = 0 → XA scr d M N1 W1 (pc + 3) ls r h post) : XA scr d M N1 W1 pc ls (.int x :: r) h post := by
  obtain ⟨hd, ht⟩ := of_decide_eq_true hc
  intro D cy tb z p l e R s m args below meth c n0 w0 mc ms Qf E e1 e2 hR H locs A hP hS hL hn hw
  exact lv_if_ne E.1 E.2.1 hd ht (fun q => kt q D cy tb z p l e R s m args below meth c n0 w0 mc ms Qf E e1 e2 hR H locs A hP hS hL hn hw) (fun q => kf q D cy tb z p l e R s m args below meth c n0 w0 mc ms Qf E e1 e2 hR H locs A hP hS hL hn hw)
theorem XA.if_lt (off : Int) (tgt : Nat) (hc : ckI M pc (.ifCond .lt off) off tgt = true) (kt : x < 0 → XA scr d M N1 W1 tgt ls r h post) (kf : ¬ x < 0 → XA scr d M N1 W1 (pc + 3) ls r h post) : XA scr d M N1 W1 pc ls (.int x :: r) h post := by
  obtain ⟨hd, ht⟩ := of_decide_eq_true hc
  intro D cy tb z p l e R s m args below meth c n0 w0 mc ms Qf E e1 e2 hR H locs A hP hS hL hn hw
  exact lv_if_lt E.1 E.2.1 hd ht (fun q => kt q D cy tb z p l e R s m args below meth c n0 w0 mc ms Qf E e1 e2 hR H locs A hP hS hL hn hw) (fun q => kf q D cy tb z p l e R s m args below meth c n0 w0 mc ms Qf E e1 e2 hR H locs A hP hS hL hn hw)
theorem XA.if_ge (off : Int) (tgt : Nat) (hc : ckI M pc (.ifCond .ge off) off tgt = true) (kt : 0 ≤ x → XA scr d M N1 W1 tgt ls r h post) (kf : ¬ 0 ≤ x → XA scr d M N1 W1 (pc + 3) ls r h post) : XA scr d M N1 W1 pc ls (.int x :: r) h post := by
  obtain ⟨hd, ht⟩ := of_decide_eq_true hc
  intro D cy tb z p l e R s m args below meth c n0 w0 mc ms Qf E e1 e2 hR H locs A hP hS hL hn hw
  exact lv_if_ge E.1 E.2.1 hd ht (fun q => kt q D cy tb z p l e R s m args below meth c n0 w0 mc ms Qf E e1 e2 hR H locs A hP hS hL hn hw) (fun q => kf q D cy tb z p l e R s m args below meth c n0 w0 mc ms Qf E e1 e2 hR H locs A hP hS hL hn hw)
theorem XA.if_gt (off : Int) (tgt : Nat) (hc : ckI M pc (.ifCond .gt off) off tgt = true) (kt : 0 < x → XA scr d M N1 W1 tgt ls r h post) (kf : ¬ 0 < x → XA scr d M N1 W1 (pc + 3) ls r h post) : XA scr d M N1 W1 pc ls (.int x :: r) h post := by
  obtain ⟨hd, ht⟩ := of_decide_eq_true hc
  intro D cy tb z p l e R s m args below meth c n0 w0 mc ms Qf E e1 e2 hR H locs A hP hS hL hn hw
  exact lv_if_gt E.1 E.2.1 hd ht (fun q => kt q D cy tb z p l e R s m args below meth c n0 w0 mc ms Qf E e1 e2 hR H locs A hP hS hL hn hw) (fun q => kf q D cy tb z p l e R s m args below meth c n0 w0 mc ms Qf E e1 e2 hR H locs A hP hS hL hn hw)
theorem XA.if_le (off : Int) (tgt : Nat) (hc : ckI M pc (.ifCond .le off) off tgt = true) (kt : x ≤ 0 → XA scr d M N1 W1 tgt ls r h post) (kf : ¬ x ≤ 0 → XA scr d M N1 W1 (pc + 3) ls r h post) : XA scr d M N1 W1 pc ls (.int x :: r) h post := by
  obtain ⟨hd, ht⟩ := of_decide_eq_true hc
  intro D cy tb z p l e R s m args below meth c n0 w0 mc ms Qf E e1 e2 hR H locs A hP hS hL hn hw
  exact lv_if_le E.1 E.2.1 hd ht (fun q => kt q D cy tb z p l e R s m args below meth c n0 w0 mc ms Qf E e1 e2 hR H locs A hP hS hL hn hw) (fun q => kf q D cy tb z p l e R s m args below meth c n0 w0 mc ms Qf E e1 e2 hR H locs A hP hS hL hn hw)
/-- a table switch: the cases in their order, then the default -/
def ckT (M : MD) (pc : Nat) (dflt lo hi : Int) (offs : List Int) (len : Nat) (cs : List (Int32 × Nat)) (td : Nat) : Bool :=
  decide (decode M.2.1 pc = .ok (.tableswitch dflt lo hi offs.toArray, len)) && decide ((pc : Int) + dflt = (td : Int) ∧ cs.length = offs.length ∧ hi = lo + (offs.length : Int) - 1) && (List.range offs.length).all (fun j => match cs[j]?, offs[j]? with
    | some q, some o => decide (q.1.toInt = lo + (j : Int) ∧ (pc : Int) + o = (q.2 : Int))
    | _, _ => false)
theorem XA.tsw (dflt lo hi : Int) (offs : List Int) (len : Nat) (cs : List (Int32 × Nat)) (td : Nat) (hc : ckT M pc dflt lo hi offs len cs td = true) (kc : ∀ q ∈ cs, x = q.1 → XA scr d M N1 W1 q.2 ls r h post) (kd : (∀ q ∈ cs, ¬ x = q.1) → XA scr d M N1 W1 td ls r h post) : XA scr d M N1 W1 pc ls (.int x :: r) h post := by
  obtain ⟨h12, h3⟩ := Bool.and_eq_true_iff.mp hc
  obtain ⟨h1, h2⟩ := Bool.and_eq_true_iff.mp h12
  have hd := of_decide_eq_true h1
  obtain ⟨htd, hlen, hhi⟩ := of_decide_eq_true h2
  have hall : ∀ j, j < offs.length → ∃ q o, cs[j]? = some q ∧ offs[j]? = some o ∧ q.1.toInt = lo + (j : Int) ∧ (pc : Int) + o = (q.2 : Int) := by
    intro j hj
    have := List.all_eq_true.mp h3 j (List.mem_range.mpr hj)
    have e1 : cs[j]? = some cs[j] := List.getElem?_eq_getElem (by omega)
    have e2 : offs[j]? = some offs[j] := List.getElem?_eq_getElem hj
    rw [e1, e2] at this
    have := of_decide_eq_true this
    exact ⟨_, _, e1, e2, this.1, this.2⟩
  intro D cy tb z p l e R s m args below meth c n0 w0 mc ms Qf E e1 e2 hR H locs A hP hS hL hn hw
  by_cases hr : x.toInt < lo ∨ hi < x.toInt
  · refine lv_tableOut E.1 E.2.1 hd hr htd (kd (fun q hq hx => ?_) D cy tb z p l e R s m args below meth c n0 w0 mc ms Qf E e1 e2 hR H locs A hP hS hL hn hw)
    obtain ⟨j, hj⟩ := List.getElem?_of_mem hq
    have hjl : j < cs.length := (List.getElem?_eq_some_iff.mp hj).1
    obtain ⟨q', o, g1, g2, g3, g4⟩ := hall j (by omega)
    rw [hj] at g1
    cases g1
    rw [hx, g3] at hr
    omega
  · have hj : (x.toInt - lo).toNat < offs.length := by omega
    obtain ⟨q, o, g1, g2, g3, g4⟩ := hall _ hj
    have hx : x = q.1 := Int32.toInt_inj.mp (by rw [g3]; omega)
    exact lv_tableIn E.1 E.2.1 hd (by omega) (by omega) (off := o) (by rw [List.getElem?_toArray]; exact g2) g4 (kc q (List.mem_of_getElem? g1) hx D cy tb z p l e R s m args below meth c n0 w0 mc ms Qf E e1 e2 hR H locs A hP hS hL hn hw)
def ckL (M : MD) (pc : Nat) (dflt : Int) (ps : List (Int × Int)) (len : Nat) (cs : List (Int32 × Nat)) (td : Nat) : Bool :=
  decide (decode M.2.1 pc = .ok (.lookupswitch dflt ps.toArray, len)) && decide ((pc : Int) + dflt = (td : Int) ∧ (ps.zip (ps.drop 1)).all (fun (a, next) => a.1 < next.1) = true) && decide (ps = cs.map (fun q => (q.1.toInt, (q.2 : Int) - (pc : Int))))
theorem lk_off (pc : Nat) (dflt : Int) (x : Int32) : ∀ (cs : List (Int32 × Nat)), (∃ q ∈ cs, x = q.1 ∧ (pc : Int) + Op.lookupswitch.offset (cs.map (fun q => (q.1.toInt, (q.2 : Int) - (pc : Int)))) dflt x.toInt = (q.2 : Int)) ∨ ((∀ q ∈ cs, ¬ x = q.1) ∧ Op.lookupswitch.offset (cs.map (fun q => (q.1.toInt, (q.2 : Int) - (pc : Int)))) dflt x.toInt = dflt)
  | [] => Or.inr ⟨fun q h => absurd h List.not_mem_nil, rfl⟩
  | q :: cs => by
    rw [List.map_cons, Op.lookupswitch.offset_cons]
    by_cases hq : q.1.toInt = x.toInt
    · rw [if_pos hq]
      exact Or.inl ⟨q, List.mem_cons_self, (Int32.toInt_inj.mp hq).symm, by omega⟩
    · rw [if_neg hq]
      rcases lk_off pc dflt x cs with ⟨q', g1, g2, g3⟩ | ⟨g1, g2⟩
      · exact Or.inl ⟨q', List.mem_cons_of_mem _ g1, g2, g3⟩
      · refine Or.inr ⟨fun q' h' => ?_, g2⟩
        rcases List.mem_cons.mp h' with rfl | h'
        · exact fun e => hq (by rw [e])
        · exact g1 q' h'
theorem XA.lsw (dflt : Int) (ps : List (Int × Int)) (len : Nat) (cs : List (Int32 × Nat)) (td : Nat) (hc : ckL M pc dflt ps len cs td = true) (kc : ∀ q ∈ cs, x = q.1 → XA scr d M N1 W1 q.2 ls r h post) (kd : (∀ q ∈ cs, ¬ x = q.1) → XA scr d M N1 W1 td ls r h post) : XA scr d M N1 W1 pc ls (.int x :: r) h post := by
  obtain ⟨h12, h3⟩ := Bool.and_eq_true_iff.mp hc
  obtain ⟨h1, h2⟩ := Bool.and_eq_true_iff.mp h12
  have hd := of_decide_eq_true h1
  obtain ⟨htd, hsort⟩ := of_decide_eq_true h2
  have hps := of_decide_eq_true h3
  intro D cy tb z p l e R s m args below meth c n0 w0 mc ms Qf E e1 e2 hR H locs A hP hS hL hn hw
  rcases lk_off pc dflt x cs with ⟨q, g1, g2, g3⟩ | ⟨g1, g2⟩
  · rw [← hps] at g3
    exact lv_lookup E.1 E.2.1 hd hsort rfl g3 (kc q g1 g2 D cy tb z p l e R s m args below meth c n0 w0 mc ms Qf E e1 e2 hR H locs A hP hS hL hn hw)
  · rw [← hps] at g2
    exact lv_lookup E.1 E.2.1 hd hsort g2 htd (kd g1 D cy tb z p l e R s m args below meth c n0 w0 mc ms Qf E e1 e2 hR H locs A hP hS hL hn hw)
def ckRt (M : MD) (pc : Nat) (i : Instr) : Bool := decide (decode M.2.1 pc = .ok (i, 1))
theorem XA.ret (rv : Option Value) {st : List Value} (hst : st = rv.toList) (hc : ckRt M pc (rtI rv) = true) (hok : okR M.2.2.2 rv) (hN : h.1 ≤ N1) (hW : h.2.1 ≤ W1) (hp : post rv h) : XA scr d M N1 W1 pc ls st h post := by
  subst hst
  have hd := of_decide_eq_true hc
  intro D cy tb z p l e R s m args below meth c n0 w0 mc ms Qf E e1 e2 hR H locs A hP hS hL hn hw
  exact hR rv h H locs _ _ pc A hp hP hS (by omega) (by omega) hok hd
theorem XA.weak {post' : Option Value → Hp → Prop} {pc : Nat} {st : List Value} (hX : XA scr d M N1 W1 pc ls st h post) (hpp : ∀ r h, post r h → post' r h) : XA scr d M N1 W1 pc ls st h post' := by
  intro D cy tb z p l e R s m args below meth c n0 w0 mc ms Qf E e1 e2 hR
  exact hX D cy tb z p l e R s m args below meth c n0 w0 mc ms Qf E e1 e2 (fun rv h H locs cells slots pc A hp => hR rv h H locs cells slots pc A (hpp rv h hp))
end BranchA
set_option maxHeartbeats 1000000 in
/-- a contract out of a walk -/
theorem CtA.of {scr : ScA} {d : Nat} {M : MD} {as : List Value} {h : Hp} {mc ms : Nat} {post : Option Value → Hp → Prop} (hpl : plainName M.1.cls = true) (hlen : (enL as).length ≤ M.2.2.1) (hX : XA scr d M (h.1 + mc) (h.2.1 + ms) 0 (enL as) [] h post) : CtA scr d M as h mc ms post := by
  intro l D cy tb z
  refine Met.ofW (cc := M.2.1) (maxL := M.2.2.1) (ret := M.2.2.2) (ws' := gwT) hpl rfl ?_
  intro p e s m args below meth c s₁ B hml hv
  obtain ⟨rfl, hsz, hP, hCk⟩ := hv
  have hx := B.exec
  have hb := B.bytes
  have hr := B.returns
  have hts := atoms_spec (ws := wsM M) B.pre
  have hown : s.vm.findClass M.1.cls = some m.cls := findClass_of_methodNamed B.named
  have hlocks := B.notSynchronized
  have hin : meth.name = M.1.name := (name_of_methodNamed B.named B.method).1
  have E : EnA scr d M D cy tb z p (rmA d mc ms) s m ((as.map (rvA z tb)).toArray) meth c h.1 mc ms := ⟨hx, hb, hml, hown, fun w hw => hts w (List.mem_cons_of_mem _ hw), hCk, hsz, fun q => hin.trans q, Nat.le_refl _, Nat.le_refl _, Nat.le_refl _, Nat.le_refl _⟩
  have hRt : RtA M D cy tb z p l e (rmA d mc ms) s m ((as.map (rvA z tb)).toArray) below meth c mc ms post (MQ below (QxA D cy tb z post) ((as.map (rvA z tb)).toArray) s mc ms (fun q => z ≤ q)) := by
    intro rv h H locs cells slots pc A hp hP hS hc1 hc2 hok hd
    refine W.widen (k := mc) (n := ms) hc1 hc2 ?_
    have hq : ∀ t : State, t.heap = H → s.WarmedH t.vm → QxA D cy tb z post ((as.map (rvA z tb)).toArray) s (.returned (rv.map (rvA z tb))) t := fun t ht _ => ⟨⟨rv, h, hp, rfl, by rw [ht]; exact hP⟩, hS.F ht⟩
    generalize hM2 : M.2.2.2 = rt at hok hr
    cases rv with
    | none =>
      cases rt with
      | none => exact W.vret hx hb hr hq hS.2.2 hd
      | some t => cases t <;> exact hok.elim
    | some v =>
      cases rt with
      | none => exact hok.elim
      | some t =>
        cases v with
        | int v =>
          cases t with
          | int => exact W.iret hx hb hr hq hS.2.2 hd
          | boolean =>
            have hok : v = 0 ∨ v = 1 := hok
            exact W.zret hx hb hr (by rcases hok with rfl | rfl <;> rfl) hq hS.2.2 hd
          | _ => exact hok.elim
        | long v =>
          cases t with
          | long => exact W.lret hx hb hr hq hS.2.2 hd
          | _ => exact hok.elim
        | ref v =>
          cases t with
          | object n => exact W.aret hx hb hr (Or.inl ⟨_, rfl⟩) (Or.inr ⟨_, rfl⟩) hq hS.2.2 hd
          | _ => exact hok.elim
        | _ => cases t <;> exact hok.elim
  rw [lg_entry_eq]
  have hl := lv_entry (as.map (rvA z tb)) (n := M.2.2.1) (by rw [enL_len]; exact hlen)
  generalize (lg_sl (as.map (rvA z tb)) ++ List.replicate (M.2.2.1 - (lg_sl (as.map (rvA z tb))).length) Slot.unset).toArray = A at hl ⊢
  have hgo := hX D cy tb z p l e (rmA d mc ms) s m ((as.map (rvA z tb)).toArray) below meth c h.1 h.2.1 mc ms _ E rfl rfl hRt s.heap [] A hP va_S.rf ⟨hl.1, hl.2.1, fun i v hi => hl.2.2 (i, rvA z tb v) (by have := enL_get (z := z) (tb := tb) as 0 i v hi; rwa [Nat.zero_add] at this)⟩ (Nat.le_refl _) (Nat.le_refl _)
  rw [Nat.sub_self, Nat.sub_self] at hgo
  exact hgo
