/-! makings, natives, branches, returns, calls -/
section RulesB
variable {scr : ScA} {d : Nat} {M : MD} {D : va_G} {cy : Nat → ClassId} {tb : Nat → Nat} {z : Nat} {p : Program} {l : Launch} {e : Env} {R : Room} {s : State} {m : MethodId} {args : Array Value} {below : List Frame} {meth : Method} {c : Code} {n0 w0 mc ms : Nat} {Qf : State → Prop} {pc : Nat} {ls : LsA} {st : List Value} {h : Hp}
theorem W_sz {H : Heap} {locs : List Loc} {cells slots : Nat} {g : JFrame} (k : H.size ≤ s.heap.size + cells → W p l e R s m args below meth c H locs cells slots Qf g) : W p l e R s m args below meth c H locs cells slots Qf g := by
  intro T hT X
  have h1 : T.heap.size ≤ s.heap.size + cells := X.same.2.2.1
  exact k (by rw [← hT]; exact h1) T hT X
/-- the new cell's address: the next one -/
theorem new_at {cy : Nat → ClassId} {h : Hp} {q : Nat} {x : va_E} {H1 : Heap} (hP : va_P D vwCl (wldA cy z h ++ [(q, x)]) H1) (hD : va_D (fun q => z ≤ q) (wldA cy z h ++ [(q, x)])) (hsz : H1.size ≤ z + h.1 + 1) : q = z + h.1 := by
  have hl : (wldA cy z h).length = h.1 := by simp [wldA]
  have hg : (wldA cy z h ++ [(q, x)])[h.1]? = some (q, x) := by
    rw [List.getElem?_append_right (by omega), hl, Nat.sub_self]
    rfl
  have h1 : q < H1.size := (hP _ _ hg).lt
  have h2 : z ≤ q := hD.2 _ _ hg
  rcases Nat.lt_or_ge q (z + h.1) with hlt | hge
  · have hk : q - z < h.1 := by omega
    have hg2 : (wldA cy z h ++ [(q, x)])[q - z]? = some (z + (q - z), celA cy z h (q - z)) := by
      rw [List.getElem?_append_left (by omega)]
      exact wld_get hk
    have := hD.1 _ _ _ _ hg2 hg (by show z + (q - z) = q; omega)
    omega
  · omega
theorem wd_new {cy : Nat → ClassId} {h h' : Hp} {q : Nat} {x : va_E} {H1 : Heap} (hq : q = z + h.1) (hn : h'.1 = h.1 + 1) (ho : ∀ i, i < h.1 → celA cy z h' i = celA cy z h i) (hx : celA cy z h' h.1 = x) (hP : va_P D vwCl (wldA cy z h ++ [(q, x)]) H1) : WdA D cy z h' H1 := by
  subst hq
  rw [wld_push hn ho hx] at hP
  exact hP
theorem r_grow {h h' : Hp} {cells slots : Nat} {H1 : Heap} {locs : List Loc} {g : JFrame} {k n : Nat} (hn : n0 ≤ h.1) (hw : w0 ≤ h.2.1) (e1 : h'.1 = h.1 + k) (e2 : h'.2.1 = h.2.1 + n) (kk : W p l e R s m args below meth c H1 locs (h'.1 - n0) (h'.2.1 - w0) Qf g) (hc : cells = h.1 - n0 + k) (hs : slots = h.2.1 - w0 + n) : W p l e R s m args below meth c H1 locs cells slots Qf g := by
  refine W.cs (cells' := h'.1 - n0) (slots' := h'.2.1 - w0) (by omega) (by omega) kk
theorem celA_new {h : Hp} {x : Nat × Nat} {k2 w2 : Nat} {i : Nat} (hi : i < h.1) : celA cy z (k2, w2, va_up h.2.2.1 h.1 x, rr h.2.2.2.1 h.1 (fun _ => none), sr h.2.2.2.2 h.1 (fun _ => 0)) i = celA cy z h i := by
  have e : i ≠ h.1 := by omega
  exact celA_off (va_up_ne _ _ e) (rr_off _ _ _ e) (sr_off _ _ _ e)
theorem r_new (E : EnA scr d M D cy tb z p R s m args meth c n0 mc ms) {a idx : Nat} (ha : a < 12) (hin : ∀ w ∈ u_ws (clF a).1 (clF a).2.1 (nF a), w ∈ gwT) (h1 : Cond.classLink M.1.cls idx (clF a).1 ∈ gwT) (h2 : Cond.instantiable (clF a).1 (nF a) ∈ gwT) (h3 : Cond.initialized (clF a).1 ∈ gwT) (hb1 : h.1 + 1 ≤ n0 + mc) (hb2 : h.2.1 + nF a ≤ w0 + ms) (hd : decode M.2.1 pc = .ok (.new idx, 3))
    (kk : GoA M D cy tb z p l e R s m args below meth c n0 w0 mc ms Qf (pc + 3) ls (.ref h.1 :: st) (h.1 + 1, h.2.1 + nF a, va_up h.2.2.1 h.1 (0, a), rr h.2.2.2.1 h.1 (fun _ => none), sr h.2.2.2.2 h.1 (fun _ => 0))) : GoA M D cy tb z p l e R s m args below meth c n0 w0 mc ms Qf pc ls st h := by
  intro H locs A hP hS hL hn hw
  obtain ⟨hx, hbc, hml, hown, hts, ⟨hK, -⟩, hsz, -, -, -, hmc, hms⟩ := E
  have hsl : (va_up h.2.2.1 h.1 (0, a)) h.1 = (0, a) := va_up_self _ _ _
  refine va_new (ci := a) (fs := (List.range (nF a)).map (flV z (h.1 + 1, h.2.1 + nF a, va_up h.2.2.1 h.1 (0, a), rr h.2.2.2.1 h.1 (fun _ => none), sr h.2.2.2.2 h.1 (fun _ => 0)) h.1 a)) hx hbc hts hin (tyF a) (tyF_ok ha) hown (hts _ h1) (hts _ h2) (hts _ h3) hK hP wld_D hS (fun q hq => by show z ≤ q; omega) (clF_get ha) ?_ (by omega) (by omega) hd (fun q H1 g1 g2 g3 => W_sz fun hz => ?_)
  · intro j hj
    have e1 : vp_V ((List.range (nF a)).map (flV z (h.1 + 1, h.2.1 + nF a, va_up h.2.2.1 h.1 (0, a), rr h.2.2.2.1 h.1 (fun _ => none), sr h.2.2.2.2 h.1 (fun _ => 0)) h.1 a)) j = flV z (h.1 + 1, h.2.1 + nF a, va_up h.2.2.1 h.1 (0, a), rr h.2.2.2.1 h.1 (fun _ => none), sr h.2.2.2.2 h.1 (fun _ => 0)) h.1 a j := by
      unfold vp_V
      rw [List.getD_eq_getElem?_getD, List.getElem?_map, List.getElem?_range hj]
      rfl
    rw [e1]
    unfold flV
    simp only [rr_row, sr_row]
    have hall : ∀ (x : FieldType), x = .int ∨ x = .boolean ∨ x.isReference = true → defaultValue x = if x.isReference = true then va_rf (Option.map (fun a => z + a) none) else Value.int 0 := by
      intro x hx
      rcases hx with rfl | rfl | hx
      · rfl
      · rfl
      · rw [if_pos hx]
        cases x <;> first | rfl | cases hx
    refine hall (tyF a j) ?_
    have hdec : ∀ a, a < 12 → ∀ j, j < nF a → (tyF a j = .int ∨ tyF a j = .boolean ∨ (tyF a j).isReference = true) := by decide +kernel
    exact hdec a ha j hj
  · have hq := new_at g1 g2 (by omega)
    subst hq
    have hW := wd_new (h' := (h.1 + 1, h.2.1 + nF a, va_up h.2.2.1 h.1 (0, a), rr h.2.2.2.1 h.1 (fun _ => none), sr h.2.2.2.2 h.1 (fun _ => 0))) rfl rfl (fun i hi => celA_new hi) (celA_o hsl) g1
    exact r_grow (h' := (h.1 + 1, h.2.1 + nF a, va_up h.2.2.1 h.1 (0, a), rr h.2.2.2.1 h.1 (fun _ => none), sr h.2.2.2.2 h.1 (fun _ => 0))) hn hw rfl rfl (kk H1 locs A hW g3 hL (by show n0 ≤ h.1 + 1; omega) (by show w0 ≤ h.2.1 + nF a; omega)) rfl rfl
theorem cy_eq {cA : ClassId} {t : Nat} {ty : FieldType} (hK : va_K D vwCl (tyA cy) s) (ht : (tyA cy)[t]? = some (cy t, ty)) (hprim : ∀ C, ty ≠ .object C) (hK2 : va_K D vwCl (tyA cy ++ [(cA, ty)]) s) : cA = cy t := by
  have h1 := (hK.2 t _ ht).2
  have h2 := (hK2.2 5 (cA, ty) rfl).2
  cases ty <;> first | exact absurd rfl (hprim _) | (unfold va_RA at h1 h2; exact Option.some.inj (h2.symm.trans h1))
theorem cy_eqO {cA : ClassId} {t : Nat} {C : String} (hK : va_K D vwCl (tyA cy) s) (ht : (tyA cy)[t]? = some (cy t, .object C)) (hK2 : va_K D vwCl (tyA cy ++ [(cA, .object C)]) s) : cA = cy t := by
  obtain ⟨_, _, _, _, _, h1⟩ := (hK.2 t _ ht).2
  obtain ⟨_, _, _, _, _, h2⟩ := (hK2.2 5 (cA, .object C) rfl).2
  exact Option.some.inj (h2.symm.trans h1)
theorem r_newa (E : EnA scr d M D cy tb z p R s m args meth c n0 mc ms) {a : Nat} {at' : ArrayType} {n : Int32} {r : List Value} (hat : (a = 0 ∧ newarray.typeOf at' = .int) ∨ (a = 1 ∧ newarray.typeOf at' = .boolean)) (hw1 : Cond.arrayClass (newarray.typeOf at') ∈ gwT) (hn0 : ¬ n < 0) (hlim : n.toNatClampNeg ≤ 1000) (hb1 : h.1 + 1 ≤ n0 + mc) (hb2 : h.2.1 + n.toNatClampNeg ≤ w0 + ms) (hd : decode M.2.1 pc = .ok (.newarray at', 2))
    (kk : GoA M D cy tb z p l e R s m args below meth c n0 w0 mc ms Qf (pc + 2) ls (.ref h.1 :: r) (h.1 + 1, h.2.1 + n.toNatClampNeg, va_up h.2.2.1 h.1 (a + 1, n.toNatClampNeg), rr h.2.2.2.1 h.1 (fun _ => none), sr h.2.2.2.2 h.1 (fun _ => 0))) : GoA M D cy tb z p l e R s m args below meth c n0 w0 mc ms Qf pc ls (.int n :: r) h := by
  intro H locs A hP hS hL hn hw
  obtain ⟨hx, hbc, hml, hown, hts, ⟨hK, -⟩, hsz, -, -, -, hmc, hms⟩ := E
  have hz0 : (sr h.2.2.2.2 h.1 (fun _ => 0)) h.1 = fun _ => (0 : Int32) := sr_row _ _ _
  have fin : ∀ (q : Nat) (cA : ClassId) (H1 : Heap) (t : Nat), cA = cy t → celA cy z (h.1 + 1, h.2.1 + n.toNatClampNeg, va_up h.2.2.1 h.1 (a + 1, n.toNatClampNeg), rr h.2.2.2.1 h.1 (fun _ => none), sr h.2.2.2.2 h.1 (fun _ => 0)) h.1 = .inl (cy t, n.toNatClampNeg, .inl (fun _ => 0)) → va_P D vwCl (wldA cy z h ++ [(q, .inl (cA, n.toNatClampNeg, .inl (fun _ => 0)))]) H1 → va_D (fun q => z ≤ q) (wldA cy z h ++ [(q, .inl (cA, n.toNatClampNeg, .inl (fun _ => 0)))]) → va_S (fun q => z ≤ q) s.heap H1 locs → W p l e R s m args below meth c H1 locs (h.1 - n0 + 1) (h.2.1 - w0 + n.toNatClampNeg) Qf (F0 m (pc + 2) A (.ref q :: r.map (rvA z tb))) := by
    intro q cA H1 t hcA hcel g1 g2 g3
    refine W_sz fun hz => ?_
    have hq := new_at g1 g2 (by omega)
    subst hq
    rw [hcA] at g1
    have hW := wd_new (h' := (h.1 + 1, h.2.1 + n.toNatClampNeg, va_up h.2.2.1 h.1 (a + 1, n.toNatClampNeg), rr h.2.2.2.1 h.1 (fun _ => none), sr h.2.2.2.2 h.1 (fun _ => 0))) rfl rfl (fun i hi => celA_new hi) hcel g1
    exact r_grow (h' := (h.1 + 1, h.2.1 + n.toNatClampNeg, va_up h.2.2.1 h.1 (a + 1, n.toNatClampNeg), rr h.2.2.2.1 h.1 (fun _ => none), sr h.2.2.2.2 h.1 (fun _ => 0))) hn hw rfl rfl (kk H1 locs A hW g3 hL (by show n0 ≤ h.1 + 1; omega) (by show w0 ≤ h.2.1 + n.toNatClampNeg; omega)) rfl rfl
  rcases hat with ⟨rfl, hty⟩ | ⟨rfl, hty⟩
  · refine va_newa (atype := at') (ty := .int) (a0 := (n.toNatClampNeg, .inl (fun _ => 0))) hx hbc (hts _ hw1) hty hK hP wld_D hS (fun q hq => by show z ≤ q; omega) (fun cA => rfl) hn0 rfl (by show n.toNatClampNeg * 4 ≤ _; omega) (by omega) (by omega) hd (fun q cA H1 gK g1 g2 g3 => ?_)
    refine fin q cA H1 0 (cy_eq (ty := .int) hK rfl (fun _ q => by cases q) gK) ?_ g1 g2 g3
    rw [celA_i (n := n.toNatClampNeg) (va_up_self _ _ _)]
    exact congrArg (fun f => Sum.inl (cy 0, n.toNatClampNeg, Sum.inl f)) hz0
  · refine va_newa (atype := at') (ty := .boolean) (a0 := (n.toNatClampNeg, .inl (fun _ => 0))) hx hbc (hts _ hw1) hty hK hP wld_D hS (fun q hq => by show z ≤ q; omega) (fun cA => rfl) hn0 rfl (by show n.toNatClampNeg * 1 ≤ _; omega) (by omega) (by omega) hd (fun q cA H1 gK g1 g2 g3 => ?_)
    refine fin q cA H1 1 (cy_eq (ty := .boolean) hK rfl (fun _ q => by cases q) gK) ?_ g1 g2 g3
    rw [celA_b (n := n.toNatClampNeg) (va_up_self _ _ _)]
    exact congrArg (fun f => Sum.inl (cy 1, n.toNatClampNeg, Sum.inl f)) hz0
theorem r_newq (E : EnA scr d M D cy tb z p R s m args meth c n0 mc ms) {a idx : Nat} {C : String} {n : Int32} {r : List Value} (hty : (tyA cy)[a]? = some (cy a, .object C)) (ha : ∃ t, a = t + 2) (hAO : va_AO C s) (hw1 : Cond.classLink M.1.cls idx C ∈ gwT) (hn0 : ¬ n < 0) (hlim : n.toNatClampNeg ≤ 1000) (hb1 : h.1 + 1 ≤ n0 + mc) (hb2 : h.2.1 + n.toNatClampNeg ≤ w0 + ms) (hd : decode M.2.1 pc = .ok (.anewarray idx, 3))
    (kk : GoA M D cy tb z p l e R s m args below meth c n0 w0 mc ms Qf (pc + 3) ls (.ref h.1 :: r) (h.1 + 1, h.2.1 + n.toNatClampNeg, va_up h.2.2.1 h.1 (a + 1, n.toNatClampNeg), rr h.2.2.2.1 h.1 (fun _ => none), sr h.2.2.2.2 h.1 (fun _ => 0))) : GoA M D cy tb z p l e R s m args below meth c n0 w0 mc ms Qf pc ls (.int n :: r) h := by
  intro H locs A hP hS hL hn hw
  obtain ⟨hx, hbc, hml, hown, hts, ⟨hK, -⟩, hsz, -, -, -, hmc, hms⟩ := E
  refine va_newq hx hbc hown (hts _ hw1) hAO hK hP wld_D hS (fun q hq => by show z ≤ q; omega) hn0 rfl (by omega) (by omega) (by omega) hd (fun q cA H1 gK g1 g2 g3 => W_sz fun hz => ?_)
  have hq := new_at g1 g2 (by omega)
  subst hq
  rw [cy_eqO hK hty gK] at g1
  have hcel : celA cy z (h.1 + 1, h.2.1 + n.toNatClampNeg, va_up h.2.2.1 h.1 (a + 1, n.toNatClampNeg), rr h.2.2.2.1 h.1 (fun _ => none), sr h.2.2.2.2 h.1 (fun _ => 0)) h.1 = .inl (cy a, n.toNatClampNeg, .inr (.inr (.inr (.inr (fun _ => none))))) := by
    obtain ⟨t, rfl⟩ := ha
    rw [celA_r (t := t) (n := n.toNatClampNeg) (va_up_self _ _ _)]
    refine congrArg (fun f => Sum.inl (cy (t + 2), n.toNatClampNeg, Sum.inr (Sum.inr (Sum.inr (Sum.inr f))))) ?_
    funext j
    simp [rr_row]
  have hW := wd_new (h' := (h.1 + 1, h.2.1 + n.toNatClampNeg, va_up h.2.2.1 h.1 (a + 1, n.toNatClampNeg), rr h.2.2.2.1 h.1 (fun _ => none), sr h.2.2.2.2 h.1 (fun _ => 0))) rfl rfl (fun i hi => celA_new hi) hcel g1
  exact r_grow (h' := (h.1 + 1, h.2.1 + n.toNatClampNeg, va_up h.2.2.1 h.1 (a + 1, n.toNatClampNeg), rr h.2.2.2.1 h.1 (fun _ => none), sr h.2.2.2.2 h.1 (fun _ => 0))) hn hw rfl rfl (kk H1 locs A hW g3 hL (by show n0 ≤ h.1 + 1; omega) (by show w0 ≤ h.2.1 + n.toNatClampNeg; omega)) rfl rfl
theorem r_aast (E : EnA scr d M D cy tb z p R s m args meth c n0 mc ms) {k t o ci : Nat} {i : Int32} {r : List Value} (hO : kA h.1 h.2.2.1 k (o + 3) i = true) (hT : kO h.1 h.2.2.1 t ci = true) (hci : ci < 12) (hty : (tyA cy)[o + 2]? = some (cy (o + 2), .object (clF ci).1)) (hd : decode M.2.1 pc = .ok (.aastore, 1))
    (kk : GoA M D cy tb z p l e R s m args below meth c n0 w0 mc ms Qf (pc + 1) ls r (h.1, h.2.1, h.2.2.1, ru h.2.2.2.1 k i.toNatClampNeg (some t), h.2.2.2.2)) : GoA M D cy tb z p l e R s m args below meth c n0 w0 mc ms Qf pc ls (.ref t :: .int i :: .ref k :: r) h := by
  intro H locs A hP hS hL hn hw
  obtain ⟨⟨hk, hs⟩, hi⟩ := kA_iff.mp hO
  obtain ⟨ht, hs2⟩ := kO_iff.mp hT
  obtain ⟨hx, hbc, hml, hown, hts, ⟨hK, -⟩, -⟩ := E
  have hcel := wld_get (cy := cy) (z := z) hk
  rw [celA_r (pair_eta hs)] at hcel
  have hcel2 := wld_get (cy := cy) (z := z) ht
  rw [celA_o hs2] at hcel2
  refine va_astq (r := ((clF ci).1, (clF ci).2.1, nF ci)) hx hbc hK hP wld_D hS k (o + 2) t ci hcel hty hcel2 (clF_get hci) hi hd (fun H1 locs1 h1 _ h3 => ?_)
  refine kk H1 locs1 A (wd_upd (h := h) rfl hk (fun i2 hi2 => celA_off rfl (ru_off _ _ _ _ hi2) rfl) ?_ h1) h3 hL hn hw
  rw [celA_r (h := (h.1, h.2.1, h.2.2.1, ru h.2.2.2.1 k i.toNatClampNeg (some t), h.2.2.2.2)) (pair_eta hs)]
  refine congrArg (fun f => Sum.inl (cy (o + 2), (h.2.2.1 k).2, Sum.inr (Sum.inr (Sum.inr (Sum.inr f))))) ?_
  funext j
  by_cases hj : j = i.toNatClampNeg
  · subst hj
    simp [ru_row, va_up]
  · simp [ru_row, va_up, hj]
theorem r_objInit (E : EnA scr d M D cy tb z p R s m args meth c n0 mc ms) {k idx : Nat} {r : List Value} (h1 : Cond.methodLink M.1.cls idx Lib.objectInit ∈ gwT) (h2 : Cond.instanceMethod Lib.objectInit ∈ gwT) (h3 : Cond.code Lib.objectInit ⟨#[0xb1]⟩ 1 none ∈ gwT) (hd1 : 1 ≤ d) (hr : (r.map fun v => v.category).sum ≤ 8) (hd : decode M.2.1 pc = .ok (.invokespecial idx, 3))
    (kk : GoA M D cy tb z p l e R s m args below meth c n0 w0 mc ms Qf (pc + 3) ls r h) : GoA M D cy tb z p l e R s m args below meth c n0 w0 mc ms Qf pc ls (.ref k :: r) h := by
  intro H locs A hP hS hL hn hw
  obtain ⟨hx, hbc, hml, hown, hts, ⟨hK, -⟩, hsz, -, hfr, hlo, -⟩ := E
  have hsum : ((r.map (rvA z tb)).map fun v => v.category).sum = (r.map fun v => v.category).sum := by
    rw [List.map_map]
    exact congrArg List.sum (List.map_congr_left (fun v _ => rvA_cat z tb v))
  refine W.objInit hx hbc hown (hts _ h1) (hts _ h2) (hts _ h3) rfl (by rw [hml]; exact hL.1) (a := z + k) (rest := r.map (rvA z tb)) rfl hd (by omega) (by show 2 * 0 + _ + 12 ≤ _; rw [hsum]; omega) ?_
  exact kk H locs A hP hS hL hn hw
theorem sum_cat (r : List Value) : ((r.map (rvA z tb)).map fun v => v.category).sum = (r.map fun v => v.category).sum := by
  rw [List.map_map]
  exact congrArg List.sum (List.map_congr_left (fun v _ => rvA_cat z tb v))
theorem r_mmax (E : EnA scr d M D cy tb z p R s m args meth c n0 mc ms) {x y : Int32} {idx : Nat} {r : List Value} (h1 : Cond.methodLink M.1.cls idx Lib.Math.max.name ∈ gwT) (h2 : Cond.static Lib.Math.max.name ∈ gwT) (h3 : Cond.initialized "java/lang/Math" ∈ gwT) (h4 : Cond.code Lib.Math.max.name Lib.Math.max.code 2 (some .int) ∈ gwT) (hd1 : 1 ≤ d) (hr : (r.map fun v => v.category).sum ≤ 8) (hc1 : h.1 - n0 ≤ mc) (hc2 : h.2.1 - w0 ≤ ms) (hd : decode M.2.1 pc = .ok (.invokestatic idx, 3))
    (kk : GoA M D cy tb z p l e R s m args below meth c n0 w0 mc ms Qf (pc + 3) ls (.int (if x < y then y else x) :: r) h) : GoA M D cy tb z p l e R s m args below meth c n0 w0 mc ms Qf pc ls (.int y :: .int x :: r) h := by
  intro H locs A hP hS hL hn hw
  obtain ⟨hx, hbc, hml, hown, hts, ⟨hK, -⟩, hsz, -, hfr, hlo, hmc, hms⟩ := E
  exact va_mmax hx hbc (by rw [hml]; exact hL.1.symm) hown (hts _ h1) (hts _ h2) (hts _ h3) (hts _ h4) (by omega) (by rw [sum_cat]; omega) (by omega) (by omega) hd (kk H locs A hP hS hL hn hw)
theorem r_mmin (E : EnA scr d M D cy tb z p R s m args meth c n0 mc ms) {x y : Int32} {idx : Nat} {r : List Value} (h1 : Cond.methodLink M.1.cls idx Lib.Math.min.name ∈ gwT) (h2 : Cond.static Lib.Math.min.name ∈ gwT) (h3 : Cond.initialized "java/lang/Math" ∈ gwT) (h4 : Cond.code Lib.Math.min.name Lib.Math.min.code 2 (some .int) ∈ gwT) (hd1 : 1 ≤ d) (hr : (r.map fun v => v.category).sum ≤ 8) (hc1 : h.1 - n0 ≤ mc) (hc2 : h.2.1 - w0 ≤ ms) (hd : decode M.2.1 pc = .ok (.invokestatic idx, 3))
    (kk : GoA M D cy tb z p l e R s m args below meth c n0 w0 mc ms Qf (pc + 3) ls (.int (if y < x then y else x) :: r) h) : GoA M D cy tb z p l e R s m args below meth c n0 w0 mc ms Qf pc ls (.int y :: .int x :: r) h := by
  intro H locs A hP hS hL hn hw
  obtain ⟨hx, hbc, hml, hown, hts, ⟨hK, -⟩, hsz, -, hfr, hlo, hmc, hms⟩ := E
  exact va_mmin hx hbc (by rw [hml]; exact hL.1.symm) hown (hts _ h1) (hts _ h2) (hts _ h3) (hts _ h4) (by omega) (by rw [sum_cat]; omega) (by omega) (by omega) hd (kk H locs A hP hS hL hn hw)
theorem r_copy (E : EnA scr d M D cy tb z p R s m args meth c n0 mc ms) {n dp sp : Int32} {kd ks idx : Nat} {r : List Value} (h1 : Cond.methodLink M.1.cls idx arraycopyName ∈ gwT) (h2 : Cond.native arraycopyName ∈ gwT) (h3 : Cond.static arraycopyName ∈ gwT) (h4 : Cond.initialized "java/lang/System" ∈ gwT) (hd1 : 1 ≤ d) (hr : (r.map fun v => v.category).sum ≤ 8) (hk : kd < h.1 ∧ (h.2.2.1 kd).1 = 1 ∧ ks < h.1 ∧ (h.2.2.1 ks).1 = 1) (hb : ¬ sp < 0 ∧ ¬ dp < 0 ∧ ¬ n < 0 ∧ sp.toNatClampNeg + n.toNatClampNeg ≤ (h.2.2.1 ks).2 ∧ dp.toNatClampNeg + n.toNatClampNeg ≤ (h.2.2.1 kd).2) (hd : decode M.2.1 pc = .ok (.invokestatic idx, 3))
    (kk : GoA M D cy tb z p l e R s m args below meth c n0 w0 mc ms Qf (pc + 3) ls r (h.1, h.2.1, h.2.2.1, h.2.2.2.1, sr h.2.2.2.2 kd (va_cpy (h.2.2.2.2 ks) (h.2.2.2.2 kd) sp.toNatClampNeg dp.toNatClampNeg n.toNatClampNeg))) : GoA M D cy tb z p l e R s m args below meth c n0 w0 mc ms Qf pc ls (.int n :: .int dp :: .ref kd :: .int sp :: .ref ks :: r) h := by
  intro H locs A hP hS hL hn hw
  obtain ⟨hx, hbc, hml, hown, hts, ⟨hK, -⟩, hsz, -, hfr, hlo, hmc, hms⟩ := E
  obtain ⟨k1, k2, k3, k4⟩ := hk
  obtain ⟨b1, b2, b3, b4, b5⟩ := hb
  have hcd := wld_get (cy := cy) (z := z) k1
  rw [celA_i (pair_eta k2)] at hcd
  have hcs := wld_get (cy := cy) (z := z) k3
  rw [celA_i (pair_eta k4)] at hcs
  have hnw : nativeFrameWords "java/lang/System" "arraycopy" 5 + 11 ≤ 24 := by decide +kernel
  refine va_copyi hx hbc (by rw [hml]; exact hL.1.symm) hown (hts _ h1) (hts _ h2) (hts _ h3) (hts _ h4) hK hP wld_D hS ks kd 0 0 hcs hcd (ty := .int) rfl rfl rfl b1 b2 b3 b4 b5 (fun _ _ => rfl) (by omega) (by rw [sum_cat]; omega) hd (fun H1 locs1 g1 _ g3 => ?_)
  refine kk H1 locs1 A (wd_upd (h := h) rfl k1 (fun i2 hi2 => celA_off rfl rfl (sr_off _ _ _ hi2)) ?_ g1) g3 hL hn hw
  rw [celA_i (h := (h.1, h.2.1, h.2.2.1, h.2.2.2.1, sr h.2.2.2.2 kd (va_cpy (h.2.2.2.2 ks) (h.2.2.2.2 kd) sp.toNatClampNeg dp.toNatClampNeg n.toNatClampNeg))) (pair_eta k2)]
  exact congrArg (fun f => Sum.inl (cy 0, (h.2.2.1 kd).2, Sum.inl f)) (sr_row _ _ _)
end RulesB
