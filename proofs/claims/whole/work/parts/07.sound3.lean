/-! new int[n][k] -/
section RulesC
variable {scr : ScA} {d : Nat} {M : MD} {D : va_G} {cy : Nat → ClassId} {tb : Nat → Nat} {z : Nat} {p : Program} {l : Launch} {e : Env} {R : Room} {s : State} {m : MethodId} {args : Array Value} {below : List Frame} {meth : Method} {c : Code} {n0 w0 mc ms : Nat} {Qf : State → Prop} {pc : Nat} {ls : LsA} {st : List Value} {h : Hp}
theorem size_is {H : Heap} {locs : List Loc} (hP : WdA D cy z h H) (hS : va_S (fun q => z ≤ q) s.heap H locs) (hsz : s.heap.size = z + n0) (hn : n0 ≤ h.1) (hz : H.size ≤ s.heap.size + (h.1 - n0)) : H.size = z + h.1 := by
  have h1 := hS.1
  rcases Nat.lt_or_ge n0 h.1 with hl | hl
  · have := (hP (h.1 - 1) _ (wld_get (by omega))).lt
    have h2 : z + (h.1 - 1) < H.size := this
    omega
  · omega
theorem vr_outer (c : ClassId) (N h0 : Nat) : ∀ i : Nat, Jvm.Free.Multi.outerC c N h0 i = arrV c N (fun j => va_rf (if j < i then some (h0 + 1 + j) else none))
  | 0 => by
    show ({ cls := c, slots := Array.replicate N .null, vm := .none } : Cell) = _
    rw [arrV_new]
    refine congrArg (arrV c N) (funext fun j => ?_)
    simp [va_rf]
  | i + 1 => by
    show (Jvm.Free.Multi.outerC c N h0 i).setSlot i (.ref (h0 + 1 + i)) = _
    rw [vr_outer c N h0 i, arrV_store]
    refine congrArg (arrV c N) (funext fun j => ?_)
    by_cases e : j = i
    · subst e
      simp [updV, va_rf]
    · by_cases h : j < i
      · simp [updV, e, h, Nat.lt_succ_of_lt h]
      · simp [updV, e, h, show ¬ j < i + 1 by omega]
theorem r_mna (E : EnA scr d M D cy tb z p R s m args meth c n0 mc ms) {idx : Nat} {n k : Int32} {r : List Value} (h1 : Cond.classLink M.1.cls idx "[[I" ∈ gwT) (hnn : ¬ n < 0) (hkn : ¬ k < 0) (hl1 : n.toNatClampNeg ≤ 1000) (hl2 : k.toNatClampNeg ≤ 1000) (hb1 : h.1 + (1 + n.toNatClampNeg) ≤ n0 + mc) (hb2 : h.2.1 + (n.toNatClampNeg + n.toNatClampNeg * k.toNatClampNeg) ≤ w0 + ms) (hd : decode M.2.1 pc = .ok (.multianewarray idx 2, 4))
    (kk : GoA M D cy tb z p l e R s m args below meth c n0 w0 mc ms Qf (pc + 4) ls (.ref h.1 :: r) (h.1 + (1 + n.toNatClampNeg), h.2.1 + (n.toNatClampNeg + n.toNatClampNeg * k.toNatClampNeg), mnS h.2.2.1 h.1 n.toNatClampNeg k.toNatClampNeg, mnR h.2.2.2.1 h.1 n.toNatClampNeg, mnV h.2.2.2.2 h.1 n.toNatClampNeg)) : GoA M D cy tb z p l e R s m args below meth c n0 w0 mc ms Qf pc ls (.int k :: .int n :: r) h := by
  intro H locs A hP hS hL hn hw
  obtain ⟨hx, hbc, hml, hown, hts, ⟨hK, hTb⟩, hsz, -, -, -, hmc, hms⟩ := E
  intro T hT X
  have hcl : (Cond.classLink M.1.cls idx ("[" ++ (FieldType.array .int).toString)).before args s = true := hts _ h1
  have hov : (Cond.arrayOver (.array .int)).before args s = true := hTb.2.2.2.2.2.2
  have hHs : H.size = z + h.1 := size_is hP hS hsz hn (by rw [← hT]; exact X.same.2.2.1)
  obtain ⟨vm₁, cA, comp, -, fA, fC, hO, -, X', step⟩ := X.multianewarray2F hx hown hcl hov (hts _ w_ai) (g := F0 m pc A ((.int k :: .int n :: r).map (rvA z tb))) rfl (by rw [hbc]; exact hd) (n := n) (k := k) (rest := r.map (rvA z tb)) rfl hnn hkn (by omega) (by show k.toNatClampNeg * 4 ≤ _; omega) (by omega) rfl rfl (by omega) (by omega)
  have eA : cA = cy 4 := by
    have h4 : s.vm.findClass ("[" ++ (FieldType.array .int).toString) = some (cy 4) := (hK.2 4 _ rfl).2
    exact Option.some.inj (fA.symm.trans h4)
  have eC : comp = cy 0 := by
    have h4 : s.vm.findClass ("[" ++ FieldType.int.toString) = some (cy 0) := (hK.2 0 _ rfl).2
    exact Option.some.inj (fC.symm.trans h4)
  subst eA
  subst eC
  generalize hF : Jvm.Free.Multi.fill (T.setVm vm₁) (cy 4) (cy 0) n.toNatClampNeg k.toNatClampNeg (defaultValue .int) n.toNatClampNeg = F at X' step
  have hTh : (T.setVm vm₁).heap = H := hT
  obtain ⟨f1, f2, -, -⟩ := Jvm.Free.Multi.fill_facts (T.setVm vm₁) (cy 4) (cy 0) n.toNatClampNeg k.toNatClampNeg (defaultValue .int) n.toNatClampNeg
  rw [hF, hTh] at f1 f2
  have hold : ∀ x : Nat, x < H.size → F.heap[x]? = H[x]? := fun x hx => by
    have := Jvm.Free.Multi.fill_old (T.setVm vm₁) (cy 4) (cy 0) n.toNatClampNeg k.toNatClampNeg (defaultValue .int) (a := x) (by rw [hTh]; exact hx) n.toNatClampNeg
    rw [hF, hTh] at this
    exact this
  have hrow : ∀ j : Nat, j < n.toNatClampNeg → F.heap[H.size + 1 + j]? = some (arrV (cy 0) k.toNatClampNeg (fun _ => .int 0)) := fun j hj => by
    have := Jvm.Free.Multi.fill_inner (T.setVm vm₁) (cy 4) (cy 0) n.toNatClampNeg k.toNatClampNeg (defaultValue .int) n.toNatClampNeg j hj
    rw [hF, hTh] at this
    rw [this]
    exact congrArg some (arrV_new (cy 0) k.toNatClampNeg (.int 0))
  rw [vr_outer] at f2
  have hcel : ∀ i, i < h.1 → celA cy z (h.1 + (1 + n.toNatClampNeg), h.2.1 + (n.toNatClampNeg + n.toNatClampNeg * k.toNatClampNeg), mnS h.2.2.1 h.1 n.toNatClampNeg k.toNatClampNeg, mnR h.2.2.2.1 h.1 n.toNatClampNeg, mnV h.2.2.2.2 h.1 n.toNatClampNeg) i = celA cy z h i := fun i hi => by
    refine celA_off ?_ ?_ ?_
    · simp [mnS, show i ≠ h.1 by omega, show ¬ h.1 < i by omega]
    · funext j; simp [mnR, show i ≠ h.1 by omega, show ¬ h.1 < i by omega]
    · funext j; simp [mnV, show ¬ h.1 ≤ i by omega]
  have hWd : WdA D cy z (h.1 + (1 + n.toNatClampNeg), h.2.1 + (n.toNatClampNeg + n.toNatClampNeg * k.toNatClampNeg), mnS h.2.2.1 h.1 n.toNatClampNeg k.toNatClampNeg, mnR h.2.2.2.1 h.1 n.toNatClampNeg, mnV h.2.2.2.2 h.1 n.toNatClampNeg) F.heap := by
    intro i q hq
    obtain ⟨hi, rfl⟩ := wld_lt hq
    have hi : i < h.1 + (1 + n.toNatClampNeg) := hi
    rcases Nat.lt_trichotomy i h.1 with hlt | heq | hgt
    · rw [hcel i hlt]
      exact (hP i _ (wld_get hlt)).kept (hold _ (by show z + i < _; omega))
    · subst heq
      rw [celA_r (t := 2) (n := n.toNatClampNeg) (by simp [mnS])]
      show F.heap[z + h.1]? = some (vp_cell _ _)
      rw [← hHs, f2, vp_cell_q]
      refine congrArg some (congrArg (arrV (cy 4) n.toNatClampNeg) (funext fun j => ?_))
      by_cases hj : j < n.toNatClampNeg
      · have e9 : mnR h.2.2.2.1 h.1 n.toNatClampNeg h.1 j = some (h.1 + 1 + j) := by simp [mnR, hj]
        show va_rf (if j < n.toNatClampNeg then some (H.size + 1 + j) else none) = va_rf ((mnR h.2.2.2.1 h.1 n.toNatClampNeg h.1 j).map (fun a => z + a))
        rw [if_pos hj, e9, show H.size + 1 + j = z + (h.1 + 1 + j) by omega]
        rfl
      · simp [mnR, hj]
    · obtain ⟨j, rfl⟩ : ∃ j, i = h.1 + 1 + j := ⟨i - h.1 - 1, by omega⟩
      have hj : j < n.toNatClampNeg := by omega
      rw [celA_i (n := k.toNatClampNeg) (by simp [mnS, show h.1 + 1 + j ≠ h.1 by omega, show h.1 < h.1 + 1 + j by omega, show h.1 + 1 + j ≤ h.1 + n.toNatClampNeg by omega])]
      show F.heap[z + (h.1 + 1 + j)]? = some (vp_cell _ _)
      rw [show z + (h.1 + 1 + j) = H.size + 1 + j by omega, hrow j hj, vp_cell_i]
      refine congrArg some (congrArg (arrV (cy 0) k.toNatClampNeg) (funext fun i => ?_))
      simp [mnV, show h.1 ≤ h.1 + 1 + j by omega, show h.1 + 1 + j ≤ h.1 + n.toNatClampNeg by omega]
  have hS2 : va_S (fun q => z ≤ q) s.heap F.heap locs := ⟨by rw [f1]; have := hS.1; omega, fun x g1 g2 => (hold x (Nat.lt_of_lt_of_le g1 hS.1)).trans (hS.2.1 x g1 g2), hS.2.2⟩
  have hk9 := kk F.heap locs A hWd hS2 hL (by show n0 ≤ h.1 + (1 + n.toNatClampNeg); omega) (by show w0 ≤ h.2.1 + _; omega)
  have e1 : h.1 - n0 + 1 + n.toNatClampNeg = h.1 + (1 + n.toNatClampNeg) - n0 := by omega
  have e2 : h.2.1 - w0 + n.toNatClampNeg + n.toNatClampNeg * k.toNatClampNeg = h.2.1 + (n.toNatClampNeg + n.toNatClampNeg * k.toNatClampNeg) - w0 := by omega
  rw [e1, e2] at X'
  obtain ⟨t, a1, b1⟩ := hk9 F rfl X'
  refine ⟨t, step t ?_, b1⟩
  have e3 : T.heap.size = z + h.1 := by rw [hT]; exact hHs
  rw [e3]
  exact a1
end RulesC
