/-! each instruction tied to the machine -/
section RulesA
variable {scr : ScA} {d : Nat} {M : MD} {D : va_G} {cy : Nat → ClassId} {tb : Nat → Nat} {z : Nat} {p : Program} {l : Launch} {e : Env} {R : Room} {s : State} {m : MethodId} {args : Array Value} {below : List Frame} {meth : Method} {c : Code} {n0 w0 mc ms : Nat} {Qf : State → Prop} {pc : Nat} {ls : LsA} {st : List Value} {h : Hp}
theorem clF_get {a : Nat} (ha : a < 12) : vwCl[a]? = some ((clF a).1, (clF a).2.1, nF a) := by
  match a, ha with
  | 0, _ => rfl
  | 1, _ => rfl
  | 2, _ => rfl
  | 3, _ => rfl
  | 4, _ => rfl
  | 5, _ => rfl
  | 6, _ => rfl
  | 7, _ => rfl
  | 8, _ => rfl
  | 9, _ => rfl
  | 10, _ => rfl
  | 11, _ => rfl
theorem tyF_ok {a : Nat} (ha : a < 12) : ∀ k, k < nF a → parseFieldDescriptor ((clF a).2.1 k).2.2.1 = some (tyF a k) := by
  match a, ha with
  | 0, _ => exact tyX0_ok
  | 1, _ => exact tyX1_ok
  | 2, _ => exact tyX2_ok
  | 3, _ => exact tyX3_ok
  | 4, _ => exact tyX4_ok
  | 5, _ => exact tyX5_ok
  | 6, _ => exact tyX6_ok
  | 7, _ => exact tyX7_ok
  | 8, _ => exact tyX8_ok
  | 9, _ => exact tyX9_ok
  | 10, _ => exact tyX10_ok
  | 11, _ => exact tyX11_ok
theorem nmF_ok {a : Nat} (ha : a < 12) : ∀ i, i < nF a → ∀ j, j < nF a → i ≠ j → ((clF a).2.1 i).2.1 ≠ ((clF a).2.1 j).2.1 := by
  match a, ha with
  | 0, _ => exact nmX0
  | 1, _ => exact nmX1
  | 2, _ => exact nmX2
  | 3, _ => exact nmX3
  | 4, _ => exact nmX4
  | 5, _ => exact nmX5
  | 6, _ => exact nmX6
  | 7, _ => exact nmX7
  | 8, _ => exact nmX8
  | 9, _ => exact nmX9
  | 10, _ => exact nmX10
  | 11, _ => exact nmX11
theorem kO_iff {n k a : Nat} {sh : Nat → Nat × Nat} : kO n sh k a = true ↔ k < n ∧ sh k = (0, a) := decide_eq_true_iff
theorem kR_iff {k b t : Nat} {r : Nat → Nat → Option Nat} : kR r k b t = true ↔ r k b = some t := decide_eq_true_iff
theorem kA_iff {n k t : Nat} {sh : Nat → Nat × Nat} {i : Int32} : kA n sh k t i = true ↔ (k < n ∧ (sh k).1 = t) ∧ vp_in i (sh k).2 := by
  unfold kA
  rw [Bool.and_eq_true, decide_eq_true_eq, inB_iff]
theorem celA_o {cy : Nat → ClassId} {k a : Nat} {h : Hp} (hs : h.2.2.1 k = (0, a)) : celA cy z h k = .inr (a, (List.range (nF a)).map (flV z h k a)) := by
  unfold celA; rw [hs]
theorem celA_i {k n : Nat} (hs : h.2.2.1 k = (1, n)) : celA cy z h k = .inl (cy 0, n, .inl (h.2.2.2.2 k)) := by
  unfold celA; rw [hs]
theorem celA_b {k n : Nat} (hs : h.2.2.1 k = (2, n)) : celA cy z h k = .inl (cy 1, n, .inl (h.2.2.2.2 k)) := by
  unfold celA; rw [hs]
theorem celA_r {k t n : Nat} (hs : h.2.2.1 k = (t + 3, n)) : celA cy z h k = .inl (cy (t + 2), n, .inr (.inr (.inr (.inr (fun j => (h.2.2.2.1 k j).map (fun a => z + a)))))) := by
  unfold celA; rw [hs]
theorem pair_eta {x : Nat × Nat} {t : Nat} (h : x.1 = t) : x = (t, x.2) := by rw [← h]
/-- what is stored in one cell leaves the others as they were -/
theorem celA_off {h h' : Hp} {i : Nat} (e1 : h'.2.2.1 i = h.2.2.1 i) (e2 : h'.2.2.2.1 i = h.2.2.2.1 i) (e3 : h'.2.2.2.2 i = h.2.2.2.2 i) : celA cy z h' i = celA cy z h i := by
  unfold celA
  rw [e1, e2, e3]
  have e4 : ∀ ci, flV z h' i ci = flV z h i ci := fun ci => by
    funext j
    unfold flV
    rw [e2, e3]
  simp only [e4]
theorem r_const {v : Value} {n : Nat} (hv : rvA z tb v = v) (rule : ∀ (H : Heap) (locs : List Loc) (cells slots : Nat) (A : Array Slot) (rest : List Value), W p l e R s m args below meth c H locs cells slots Qf (F0 m (pc + n) A (v :: rest)) → W p l e R s m args below meth c H locs cells slots Qf (F0 m pc A rest))
    (kk : GoA M D cy tb z p l e R s m args below meth c n0 w0 mc ms Qf (pc + n) ls (v :: st) h) : GoA M D cy tb z p l e R s m args below meth c n0 w0 mc ms Qf pc ls st h := by
  intro H locs A hP hS hL hn hw
  have := kk H locs A hP hS hL hn hw
  rw [List.map_cons, hv] at this
  exact rule H locs _ _ A _ this
theorem r_pure {st1 st2 : List Value} {n : Nat} (kk : GoA M D cy tb z p l e R s m args below meth c n0 w0 mc ms Qf (pc + n) ls st2 h) (rule : ∀ (H : Heap) (locs : List Loc) (cells slots : Nat) (A : Array Slot), W p l e R s m args below meth c H locs cells slots Qf (F0 m (pc + n) A (st2.map (rvA z tb))) → W p l e R s m args below meth c H locs cells slots Qf (F0 m pc A (st1.map (rvA z tb)))) : GoA M D cy tb z p l e R s m args below meth c n0 w0 mc ms Qf pc ls st1 h := by
  intro H locs A hP hS hL hn hw
  exact rule H locs _ _ A (kk H locs A hP hS hL hn hw)
theorem r_load {v : Value} {a n : Nat} (hg : gL ls a = some v) (rule : ∀ (H : Heap) (locs : List Loc) (cells slots : Nat) (A : Array Slot) (rest : List Value), A[a]? = some (.val (rvA z tb v)) → W p l e R s m args below meth c H locs cells slots Qf (F0 m (pc + n) A (rvA z tb v :: rest)) → W p l e R s m args below meth c H locs cells slots Qf (F0 m pc A rest))
    (kk : GoA M D cy tb z p l e R s m args below meth c n0 w0 mc ms Qf (pc + n) ls (v :: st) h) : GoA M D cy tb z p l e R s m args below meth c n0 w0 mc ms Qf pc ls st h := by
  intro H locs A hP hS hL hn hw
  exact rule H locs _ _ A _ (hL.2.2 a v hg) (kk H locs A hP hS hL hn hw)
theorem r_store {v : Value} {n : Nat} {ls' : LsA} (rule : ∀ (H : Heap) (locs : List Loc) (cells slots : Nat) (A : Array Slot) (rest : List Value), lsOK M.2.2.1 z tb ls A → (∀ A' : Array Slot, lsOK M.2.2.1 z tb ls' A' → W p l e R s m args below meth c H locs cells slots Qf (F0 m (pc + n) A' rest)) → W p l e R s m args below meth c H locs cells slots Qf (F0 m pc A (rvA z tb v :: rest)))
    (kk : GoA M D cy tb z p l e R s m args below meth c n0 w0 mc ms Qf (pc + n) ls' st h) : GoA M D cy tb z p l e R s m args below meth c n0 w0 mc ms Qf pc ls (v :: st) h := by
  intro H locs A hP hS hL hn hw
  exact rule H locs _ _ A _ hL (fun A' hA' => kk H locs A' hP hS hA' hn hw)
theorem r_getI (E : EnA scr d M D cy tb z p R s m args meth c n0 mc ms) {k a b idx : Nat} {r : List Value} (hO : kO h.1 h.2.2.1 k a = true) (ha : a < 12) (hb : b < nF a) (hin : ∀ w ∈ u_ws (clF a).1 (clF a).2.1 (nF a), w ∈ gwT) (hlk : Cond.fieldLink M.1.cls idx (clF a).1 ((clF a).2.1 b).2.1 ((clF a).2.1 b).2.2.1 ∈ gwT) (hsame : ((clF a).2.1 b).1 = (clF a).1) (hd : decode M.2.1 pc = .ok (.getfield idx, 3))
    {v : Value} (hv : flV z h k a b = rvA z tb v) (kk : GoA M D cy tb z p l e R s m args below meth c n0 w0 mc ms Qf (pc + 3) ls (v :: r) h) : GoA M D cy tb z p l e R s m args below meth c n0 w0 mc ms Qf pc ls (.ref k :: r) h := by
  intro H locs A hP hS hL hn hw
  obtain ⟨hk, hs⟩ := kO_iff.mp hO
  obtain ⟨hx, hbc, hml, hown, hts, ⟨hK, -⟩, -⟩ := E
  have hcel := wld_get (cy := cy) (z := z) hk
  rw [celA_o hs] at hcel
  refine va_get (cl := vwCl) (T := (clF a).2.1) (N := nF a) (C := (clF a).1) hx hbc hts hin hown hK hP k hcel (clF_get ha) b hb (hts _ hlk) (fun x hx => by rw [hsame] at hx; exact hx) (v := rvA z tb v) ?_ hd ?_
  · rw [List.getElem?_map, List.getElem?_range hb, ← hv]; rfl
  · exact kk H locs A hP hS hL hn hw
theorem wd_upd {h h' : Hp} {k : Nat} {H : Heap} {x : va_E} (hn : h'.1 = h.1) (hk : k < h.1) (ho : ∀ i, i ≠ k → celA cy z h' i = celA cy z h i) (hx : celA cy z h' k = x) (hP : va_P D vwCl ((wldA cy z h).set k (z + k, x)) H) : WdA D cy z h' H := by
  rw [wld_set hn hk ho hx] at hP
  exact hP
theorem map_set_range {F G : Nat → Value} {N b : Nat} {v : Value} (hb : b < N) (h1 : G b = v) (h2 : ∀ j, j ≠ b → G j = F j) : ((List.range N).map F).set b v = (List.range N).map G := by
  apply List.ext_getElem?
  intro j
  by_cases hj : j < N
  · rw [List.getElem?_map, List.getElem?_range hj]
    by_cases e : j = b
    · subst e
      rw [List.getElem?_set_self (by simpa using hj)]
      simp [h1]
    · rw [List.getElem?_set_ne (Ne.symm e), List.getElem?_map, List.getElem?_range hj]
      simp [h2 j e]
  · rw [List.getElem?_eq_none (by simp; omega), List.getElem?_eq_none (by simp; omega)]
theorem r_put (E : EnA scr d M D cy tb z p R s m args meth c n0 mc ms) {k a b idx : Nat} {r : List Value} {v : Value} {h' : Hp} (hO : kO h.1 h.2.2.1 k a = true) (ha : a < 12) (hb : b < nF a) (hin : ∀ w ∈ u_ws (clF a).1 (clF a).2.1 (nF a), w ∈ gwT) (hlk : Cond.fieldLink M.1.cls idx (clF a).1 ((clF a).2.1 b).2.1 ((clF a).2.1 b).2.2.1 ∈ gwT) (hsame : ((clF a).2.1 b).1 = (clF a).1) (hd : decode M.2.1 pc = .ok (.putfield idx, 3))
    (hfin : ((clF a).2.1 b).2.2.2 = false ∨ (M.1.name = "<init>" ∧ (clF a).1 = M.1.cls ∧ ((clF a).2.1 b).2.2.2 = true)) (hnar : narrow (tyF a b) (rvA z tb v) = rvA z tb v) (hfit : fits (tyF a b) (rvA z tb v) = true)
    (e0 : h'.1 = h.1) (e1 : h'.2.1 = h.2.1) (e2 : h'.2.2.1 = h.2.2.1) (e3 : ∀ i, i ≠ k → h'.2.2.2.1 i = h.2.2.2.1 i ∧ h'.2.2.2.2 i = h.2.2.2.2 i) (e4 : flV z h' k a b = rvA z tb v) (e5 : ∀ j, j ≠ b → flV z h' k a j = flV z h k a j)
    (kk : GoA M D cy tb z p l e R s m args below meth c n0 w0 mc ms Qf (pc + 3) ls r h') : GoA M D cy tb z p l e R s m args below meth c n0 w0 mc ms Qf pc ls (v :: .ref k :: r) h := by
  intro H locs A hP hS hL hn hw
  obtain ⟨hk, hs⟩ := kO_iff.mp hO
  obtain ⟨hx, hbc, hml, hown, hts, ⟨hK, -⟩, -, hini, -⟩ := E
  have hcel := wld_get (cy := cy) (z := z) hk
  rw [celA_o hs] at hcel
  have fin : ∀ (H1 : Heap) (locs1 : List Loc), va_P D vwCl ((wldA cy z h).set k (z + k, .inr (a, ((List.range (nF a)).map (flV z h k a)).set b (rvA z tb v)))) H1 → va_S (fun q => z ≤ q) s.heap H1 locs1 → W p l e R s m args below meth c H1 locs1 (h.1 - n0) (h.2.1 - w0) Qf (F0 m (pc + 3) A (r.map (rvA z tb))) := by
    intro H1 locs1 hP1 hS1
    have := kk H1 locs1 A (wd_upd e0 hk (fun i hi => celA_off (by rw [e2]) (e3 i hi).1 (e3 i hi).2) (by rw [celA_o (by rw [e2]; exact hs), map_set_range hb e4 e5]) hP1) hS1 hL (by rw [e0]; exact hn) (by rw [e1]; exact hw)
    rw [e0, e1] at this
    exact this
  rcases hfin with hf | ⟨f1, f2, f3⟩
  · exact va_put (cl := vwCl) (T := (clF a).2.1) (N := nF a) (C := (clF a).1) hx hbc hts hin (tyF a) (tyF_ok ha) (nmF_ok ha) hown hK hP wld_D hS k hcel (clF_get ha) b hb (hts _ hlk) (fun x hx => by rw [hsame] at hx; exact hx) hf (tyF_ok ha b hb) hnar hfit (by simpa using hb) hd (fun H1 locs1 h1 _ h3 => fin H1 locs1 h1 h3)
  · exact va_putF (cl := vwCl) (T := (clF a).2.1) (N := nF a) (C := (clF a).1) hx hbc hts hin (tyF a) (tyF_ok ha) (nmF_ok ha) hown hK hP wld_D hS k hcel (clF_get ha) b hb (hts _ hlk) (fun x hx => by rw [hsame] at hx; exact hx) f3 (hini f1) (by rw [hsame, f2]) (tyF_ok ha b hb) hnar hfit (by simpa using hb) hd (fun H1 locs1 h1 _ h3 => fin H1 locs1 h1 h3)
theorem r_iald (E : EnA scr d M D cy tb z p R s m args meth c n0 mc ms) {k : Nat} {i : Int32} {r : List Value} (hO : kA h.1 h.2.2.1 k 1 i = true) (hd : decode M.2.1 pc = .ok (.iaload, 1)) (kk : GoA M D cy tb z p l e R s m args below meth c n0 w0 mc ms Qf (pc + 1) ls (.int (h.2.2.2.2 k i.toNatClampNeg) :: r) h) : GoA M D cy tb z p l e R s m args below meth c n0 w0 mc ms Qf pc ls (.int i :: .ref k :: r) h := by
  intro H locs A hP hS hL hn hw
  obtain ⟨⟨hk, hs⟩, hi⟩ := kA_iff.mp hO
  obtain ⟨hx, hbc, hml, hown, hts, ⟨hK, -⟩, -⟩ := E
  have hcel := wld_get (cy := cy) (z := z) hk
  rw [celA_i (pair_eta hs)] at hcel
  exact va_iald hx hbc hK hP k 0 hcel rfl hi hd (kk H locs A hP hS hL hn hw)
theorem r_zald (E : EnA scr d M D cy tb z p R s m args meth c n0 mc ms) {k : Nat} {i : Int32} {r : List Value} (hO : kA h.1 h.2.2.1 k 2 i = true) (hd : decode M.2.1 pc = .ok (.baload, 1)) (kk : GoA M D cy tb z p l e R s m args below meth c n0 w0 mc ms Qf (pc + 1) ls (.int (h.2.2.2.2 k i.toNatClampNeg) :: r) h) : GoA M D cy tb z p l e R s m args below meth c n0 w0 mc ms Qf pc ls (.int i :: .ref k :: r) h := by
  intro H locs A hP hS hL hn hw
  obtain ⟨⟨hk, hs⟩, hi⟩ := kA_iff.mp hO
  obtain ⟨hx, hbc, hml, hown, hts, ⟨hK, -⟩, -⟩ := E
  have hcel := wld_get (cy := cy) (z := z) hk
  rw [celA_b (pair_eta hs)] at hcel
  exact va_zald hx hbc hK hP k 1 hcel rfl hi hd (kk H locs A hP hS hL hn hw)
theorem r_tbl (E : EnA scr d M D cy tb z p R s m args meth c n0 mc ms) {j : Nat} {i : Int32} {r : List Value} (hj : j < 5) (hi : inB i (tbS scr j) = true) (hd : decode M.2.1 pc = .ok (.iaload, 1)) (kk : GoA M D cy tb z p l e R s m args below meth c n0 w0 mc ms Qf (pc + 1) ls (.int (tbV scr j i.toNatClampNeg) :: r) h) : GoA M D cy tb z p l e R s m args below meth c n0 w0 mc ms Qf pc ls (.int i :: .retAddr j :: r) h := by
  intro H locs A hP hS hL hn hw
  obtain ⟨hx, hbc, hml, hown, hts, ⟨hK, hT⟩, -⟩ := E
  exact va_ti hx hbc (hT.2.1 j hj) hS (inB_iff.mp hi) rfl hd (kk H locs A hP hS hL hn hw)
theorem r_iast (E : EnA scr d M D cy tb z p R s m args meth c n0 mc ms) {k : Nat} {i x : Int32} {r : List Value} (hO : kA h.1 h.2.2.1 k 1 i = true) (hd : decode M.2.1 pc = .ok (.iastore, 1)) (kk : GoA M D cy tb z p l e R s m args below meth c n0 w0 mc ms Qf (pc + 1) ls r (h.1, h.2.1, h.2.2.1, h.2.2.2.1, su h.2.2.2.2 k i.toNatClampNeg x)) : GoA M D cy tb z p l e R s m args below meth c n0 w0 mc ms Qf pc ls (.int x :: .int i :: .ref k :: r) h := by
  intro H locs A hP hS hL hn hw
  obtain ⟨⟨hk, hs⟩, hi⟩ := kA_iff.mp hO
  obtain ⟨hx, hbc, hml, hown, hts, ⟨hK, -⟩, -⟩ := E
  have hcel := wld_get (cy := cy) (z := z) hk
  rw [celA_i (pair_eta hs)] at hcel
  refine va_iast hx hbc hK hP wld_D hS k 0 hcel rfl hi hd (fun H1 locs1 h1 _ h3 => ?_)
  exact kk H1 locs1 A (wd_upd (h := h) rfl hk (fun i2 hi2 => celA_off rfl rfl (su_off _ _ _ _ hi2)) (by rw [celA_i (h := (h.1, h.2.1, h.2.2.1, h.2.2.2.1, su h.2.2.2.2 k i.toNatClampNeg x)) (pair_eta hs)]; exact congrArg (fun f => Sum.inl (cy 0, (h.2.2.1 k).2, Sum.inl f)) (su_row _ _ _ _)) h1) h3 hL hn hw
theorem r_zast (E : EnA scr d M D cy tb z p R s m args meth c n0 mc ms) {k : Nat} {i x : Int32} {r : List Value} (hO : kA h.1 h.2.2.1 k 2 i = true) (h01 : x = 0 ∨ x = 1) (hd : decode M.2.1 pc = .ok (.bastore, 1)) (kk : GoA M D cy tb z p l e R s m args below meth c n0 w0 mc ms Qf (pc + 1) ls r (h.1, h.2.1, h.2.2.1, h.2.2.2.1, su h.2.2.2.2 k i.toNatClampNeg x)) : GoA M D cy tb z p l e R s m args below meth c n0 w0 mc ms Qf pc ls (.int x :: .int i :: .ref k :: r) h := by
  intro H locs A hP hS hL hn hw
  obtain ⟨⟨hk, hs⟩, hi⟩ := kA_iff.mp hO
  obtain ⟨hx, hbc, hml, hown, hts, ⟨hK, -⟩, -⟩ := E
  have hcel := wld_get (cy := cy) (z := z) hk
  rw [celA_b (pair_eta hs)] at hcel
  have hnar : vp_nar .boolean x = x := by rcases h01 with rfl | rfl <;> rfl
  refine va_zast hx hbc hK hP wld_D hS k 1 hcel rfl hi hd (fun H1 locs1 h1 _ h3 => ?_)
  rw [hnar] at h1
  exact kk H1 locs1 A (wd_upd (h := h) rfl hk (fun i2 hi2 => celA_off rfl rfl (su_off _ _ _ _ hi2)) (by rw [celA_b (h := (h.1, h.2.1, h.2.2.1, h.2.2.2.1, su h.2.2.2.2 k i.toNatClampNeg x)) (pair_eta hs)]; exact congrArg (fun f => Sum.inl (cy 1, (h.2.2.1 k).2, Sum.inl f)) (su_row _ _ _ _)) h1) h3 hL hn hw
theorem va_rf_ref {o : Option Nat} {t : Nat} (h : o = some t) : va_rf (o.map (fun a => z + a)) = .ref (z + t) := by rw [h]; rfl
theorem r_aald (E : EnA scr d M D cy tb z p R s m args meth c n0 mc ms) {k o t : Nat} {i : Int32} {r : List Value} (hO : kA h.1 h.2.2.1 k (o + 3) i = true) (ho : o < 3) (hR : kR h.2.2.2.1 k i.toNatClampNeg t = true) (hd : decode M.2.1 pc = .ok (.aaload, 1)) (kk : GoA M D cy tb z p l e R s m args below meth c n0 w0 mc ms Qf (pc + 1) ls (.ref t :: r) h) : GoA M D cy tb z p l e R s m args below meth c n0 w0 mc ms Qf pc ls (.int i :: .ref k :: r) h := by
  intro H locs A hP hS hL hn hw
  obtain ⟨⟨hk, hs⟩, hi⟩ := kA_iff.mp hO
  obtain ⟨hx, hbc, hml, hown, hts, ⟨hK, -⟩, -⟩ := E
  have hcel := wld_get (cy := cy) (z := z) hk
  rw [celA_r (pair_eta hs)] at hcel
  have hlt : i.toNatClampNeg < (h.2.2.1 k).2 := Nat.not_le.mp fun q => hi (Or.inr q)
  have hv : va_rf ((h.2.2.2.1 k i.toNatClampNeg).map (fun a => z + a)) = .ref (z + t) := va_rf_ref (kR_iff.mp hR)
  obtain ⟨ty, hty, href⟩ : ∃ ty, (tyA cy)[o + 2]? = some (cy (o + 2), ty) ∧ ty.isReference = true := by
    match o, ho with
    | 0, _ => exact ⟨_, rfl, rfl⟩
    | 1, _ => exact ⟨_, rfl, rfl⟩
    | 2, _ => exact ⟨_, rfl, rfl⟩
  exact W.aald (v := .ref (z + t)) (ty := ty) hx hbc (hP k _ hcel) ((hK.2 (o + 2) _ hty).1 _ (fun j => va_rf ((h.2.2.2.1 k j).map (fun a => z + a)))) href (fun q => by cases q) (by show ¬ (i < 0 ∨ (arrV _ _ _).slots.size ≤ _); rw [arrV_size]; exact hi) (by show (arrV _ _ _).slots[_]? = _; rw [arrV_read _ _ hlt, hv]) rfl rfl hd (kk H locs A hP hS hL hn hw)
theorem r_alen (E : EnA scr d M D cy tb z p R s m args meth c n0 mc ms) {k : Nat} {r : List Value} (hk : k < h.1) (h1 : 1 ≤ (h.2.2.1 k).1) (h5 : (h.2.2.1 k).1 ≤ 5) (hd : decode M.2.1 pc = .ok (.arraylength, 1)) (kk : GoA M D cy tb z p l e R s m args below meth c n0 w0 mc ms Qf (pc + 1) ls (.int (Int32.ofNat (h.2.2.1 k).2) :: r) h) : GoA M D cy tb z p l e R s m args below meth c n0 w0 mc ms Qf pc ls (.ref k :: r) h := by
  intro H locs A hP hS hL hn hw
  obtain ⟨hx, hbc, hml, hown, hts, ⟨hK, -⟩, -⟩ := E
  have hcel := wld_get (cy := cy) (z := z) hk
  have hk9 := kk H locs A hP hS hL hn hw
  rcases hs : h.2.2.1 k with ⟨t, n⟩
  rw [hs] at h1 h5 hk9
  match t, h1, h5 with
  | 1, _, _ => rw [celA_i hs] at hcel; exact va_alen hx hbc hK hP k 0 hcel (tys := tyA cy) rfl rfl hd hk9
  | 2, _, _ => rw [celA_b hs] at hcel; exact va_alen hx hbc hK hP k 1 hcel (tys := tyA cy) rfl rfl hd hk9
  | 3, _, _ => rw [celA_r (t := 0) hs] at hcel; exact va_alen hx hbc hK hP k 2 hcel (tys := tyA cy) rfl rfl hd hk9
  | 4, _, _ => rw [celA_r (t := 1) hs] at hcel; exact va_alen hx hbc hK hP k 3 hcel (tys := tyA cy) rfl rfl hd hk9
  | 5, _, _ => rw [celA_r (t := 2) hs] at hcel; exact va_alen hx hbc hK hP k 4 hcel (tys := tyA cy) rfl rfl hd hk9
theorem r_tlen (E : EnA scr d M D cy tb z p R s m args meth c n0 mc ms) {j : Nat} {r : List Value} (hj : j < 5) (hd : decode M.2.1 pc = .ok (.arraylength, 1)) (kk : GoA M D cy tb z p l e R s m args below meth c n0 w0 mc ms Qf (pc + 1) ls (.int (Int32.ofNat (tbS scr j)) :: r) h) : GoA M D cy tb z p l e R s m args below meth c n0 w0 mc ms Qf pc ls (.retAddr j :: r) h := by
  intro H locs A hP hS hL hn hw
  obtain ⟨hx, hbc, hml, hown, hts, ⟨hK, hT⟩, -⟩ := E
  exact va_tlen hx hbc (hT.2.1 j hj) hS rfl hd (kk H locs A hP hS hL hn hw)
theorem r_gets (E : EnA scr d M D cy tb z p R s m args meth c n0 mc ms) {j idx : Nat} (hj : j < 4) (hl : Cond.fieldLink M.1.cls idx "HumanPyramid" (tbN j) "[I" ∈ gwT ∨ Cond.fieldLinkNest M.1.cls idx "HumanPyramid" (tbN j) "[I" "HumanPyramid" ∈ nestF) (hd : decode M.2.1 pc = .ok (.getstatic idx, 3)) (kk : GoA M D cy tb z p l e R s m args below meth c n0 w0 mc ms Qf (pc + 3) ls (.retAddr j :: st) h) : GoA M D cy tb z p l e R s m args below meth c n0 w0 mc ms Qf pc ls st h := by
  intro H locs A hP hS hL hn hw
  obtain ⟨hx, hbc, hml, hown, hts, ⟨hK, hT⟩, -⟩ := E
  rcases hl with hl | hl
  · exact va_gets hx hbc (hT.1 j hj) hS hown (hts _ hl) (fun _ h9 => h9) hd (kk H locs A hP hS hL hn hw)
  · exact va_getsN hx hbc (hT.1 j hj) hS hown (va_Nw.use rfl (hT.2.2.2.1 _ hl)) (fun _ h9 => h9) hd (kk H locs A hP hS hL hn hw)
end RulesA
