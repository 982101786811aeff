/-! the function of instructions is sound -/
section BlocksA
variable {scr : ScA} {d : Nat} {M : MD} {D : va_G} {cy : Nat → ClassId} {tb : Nat → Nat} {z : Nat} {p : Program} {l : Launch} {e : Env} {R : Room} {s : State} {m : MethodId} {args : Array Value} {below : List Frame} {meth : Method} {c : Code} {n0 w0 mc ms : Nat} {Qf : State → Prop} {pc : Nat} {ls : LsA} {st : List Value} {h : Hp}
variable {ls' : LsA} {st' : List Value} {h' : Hp}
theorem op2_inv {f : Int32 → Int32 → Int32} (hs : op2 f ls st h = (true, ls', st', h')) : ∃ y x r, st = .int y :: .int x :: r ∧ ls' = ls ∧ st' = .int (f x y) :: r ∧ h' = h := by
  unfold op2 at hs
  split at hs
  · cases hs; exact ⟨_, _, _, rfl, rfl, rfl, rfl⟩
  · cases hs
theorem opJ_inv {f : Int64 → Int64 → Int64} (hs : opJ f ls st h = (true, ls', st', h')) : ∃ y x r, st = .long y :: .long x :: r ∧ ls' = ls ∧ st' = .long (f x y) :: r ∧ h' = h := by
  unfold opJ at hs
  split at hs
  · cases hs; exact ⟨_, _, _, rfl, rfl, rfl, rfl⟩
  · cases hs
theorem op2z_inv {f : Int32 → Int32 → Int32} (hs : op2z f ls st h = (true, ls', st', h')) : ∃ y x r, ¬ y = 0 ∧ st = .int y :: .int x :: r ∧ ls' = ls ∧ st' = .int (f x y) :: r ∧ h' = h := by
  unfold op2z at hs
  split at hs
  · rename_i y x r
    obtain ⟨h1, h2⟩ := Prod.mk.inj hs
    cases h2
    exact ⟨y, x, r, of_decide_eq_true h1, rfl, rfl, rfl, rfl⟩
  · cases hs
theorem opJz_inv {f : Int64 → Int64 → Int64} (hs : opJz f ls st h = (true, ls', st', h')) : ∃ y x r, ¬ y = 0 ∧ st = .long y :: .long x :: r ∧ ls' = ls ∧ st' = .long (f x y) :: r ∧ h' = h := by
  unfold opJz at hs
  split at hs
  · rename_i y x r
    obtain ⟨h1, h2⟩ := Prod.mk.inj hs
    cases h2
    exact ⟨y, x, r, of_decide_eq_true h1, rfl, rfl, rfl, rfl⟩
  · cases hs
theorem op1_inv {f : Int32 → Int32} (hs : op1 f ls st h = (true, ls', st', h')) : ∃ x r, st = .int x :: r ∧ ls' = ls ∧ st' = .int (f x) :: r ∧ h' = h := by
  unfold op1 at hs
  split at hs
  · cases hs; exact ⟨_, _, rfl, rfl, rfl, rfl⟩
  · cases hs
theorem ldI_inv {a : Nat} (hs : ldI a ls st h = (true, ls', st', h')) : ∃ x, gL ls a = some (.int x) ∧ ls' = ls ∧ st' = .int x :: st ∧ h' = h := by
  unfold ldI at hs
  split at hs
  · rename_i x hg
    cases hs; exact ⟨x, hg, rfl, rfl, rfl⟩
  · cases hs
theorem ldJ_inv {a : Nat} (hs : ldJ a ls st h = (true, ls', st', h')) : ∃ x, gL ls a = some (.long x) ∧ ls' = ls ∧ st' = .long x :: st ∧ h' = h := by
  unfold ldJ at hs
  split at hs
  · rename_i x hg
    cases hs; exact ⟨x, hg, rfl, rfl, rfl⟩
  · cases hs
theorem ldA_inv {a : Nat} (hs : ldA a ls st h = (true, ls', st', h')) : ∃ v, (∃ x, rvA z tb v = .ref x) ∧ gL ls a = some v ∧ ls' = ls ∧ st' = v :: st ∧ h' = h := by
  unfold ldA at hs
  split at hs
  · rename_i x hg
    cases hs; exact ⟨_, ⟨_, rfl⟩, hg, rfl, rfl, rfl⟩
  · rename_i x hg
    cases hs; exact ⟨_, ⟨_, rfl⟩, hg, rfl, rfl, rfl⟩
  · cases hs
theorem sdI_inv {a : Nat} (hs : sdI a ls st h = (true, ls', st', h')) : ∃ x r, st = .int x :: r ∧ ls' = stL ls a (.int x) ∧ st' = r ∧ h' = h := by
  unfold sdI at hs
  split at hs
  · cases hs; exact ⟨_, _, rfl, rfl, rfl, rfl⟩
  · cases hs
theorem sdJ_inv {a : Nat} (hs : sdJ a ls st h = (true, ls', st', h')) : ∃ x r, st = .long x :: r ∧ ls' = stL2 ls a (.long x) ∧ st' = r ∧ h' = h := by
  unfold sdJ at hs
  split at hs
  · cases hs; exact ⟨_, _, rfl, rfl, rfl, rfl⟩
  · cases hs
theorem sdA_inv {a : Nat} (hs : sdA a ls st h = (true, ls', st', h')) : ∃ v r, (∃ x, rvA z tb v = .ref x) ∧ st = v :: r ∧ ls' = stL ls a v ∧ st' = r ∧ h' = h := by
  unfold sdA at hs
  split at hs
  · cases hs; exact ⟨_, _, ⟨_, rfl⟩, rfl, rfl, rfl, rfl⟩
  · cases hs; exact ⟨_, _, ⟨_, rfl⟩, rfl, rfl, rfl, rfl⟩
  · cases hs
theorem incA_inv {a : Nat} {cv : Int32} (hs : incA a cv ls st h = (true, ls', st', h')) : ∃ x, gL ls a = some (.int x) ∧ ls' = stL ls a (.int (x + cv)) ∧ st' = st ∧ h' = h := by
  unfold incA at hs
  split at hs
  · rename_i x hg
    cases hs; exact ⟨x, hg, rfl, rfl, rfl⟩
  · cases hs
theorem dpA_inv  (hs : dpA ls st h = (true, ls', st', h')) : ∃ v r, v.category = 1 ∧ st = v :: r ∧ ls' = ls ∧ st' = v :: v :: r ∧ h' = h := by
  unfold dpA at hs
  split at hs
  · cases hs; exact ⟨_, _, rfl, rfl, rfl, rfl, rfl⟩
  · cases hs; exact ⟨_, _, rfl, rfl, rfl, rfl, rfl⟩
  · cases hs
theorem d2A_inv  (hs : d2A ls st h = (true, ls', st', h')) : ∃ v k r, st = .int v :: .ref k :: r ∧ ls' = ls ∧ st' = .int v :: .ref k :: .int v :: .ref k :: r ∧ h' = h := by
  unfold d2A at hs
  split at hs
  · cases hs; exact ⟨_, _, _, rfl, rfl, rfl, rfl⟩
  · cases hs
theorem i2lA_inv  (hs : i2lA ls st h = (true, ls', st', h')) : ∃ x r, st = .int x :: r ∧ ls' = ls ∧ st' = .long x.toInt64 :: r ∧ h' = h := by
  unfold i2lA at hs
  split at hs
  · cases hs; exact ⟨_, _, rfl, rfl, rfl, rfl⟩
  · cases hs
theorem lshA_inv  (hs : lshA ls st h = (true, ls', st', h')) : ∃ y x r, st = .int y :: .long x :: r ∧ ls' = ls ∧ st' = .long (x <<< (y.toInt64 &&& 63)) :: r ∧ h' = h := by
  unfold lshA at hs
  split at hs
  · cases hs; exact ⟨_, _, _, rfl, rfl, rfl, rfl⟩
  · cases hs
theorem lcA_inv  (hs : lcA ls st h = (true, ls', st', h')) : ∃ y x r, st = .long y :: .long x :: r ∧ ls' = ls ∧ st' = .int (lg_cmp x y) :: r ∧ h' = h := by
  unfold lcA at hs
  split at hs
  · cases hs; exact ⟨_, _, _, rfl, rfl, rfl, rfl⟩
  · cases hs
theorem getA_inv {a b o : Nat} (hs : getA a b o ls st h = (true, ls', st', h')) : ∃ k r, st = .ref k :: r ∧ kO h.1 h.2.2.1 k a = true ∧ ls' = ls ∧ h' = h ∧ ((o = 0 ∧ st' = .int (h.2.2.2.2 k b) :: r) ∨ (∃ t, o = t + 1 ∧ kR h.2.2.2.1 k b (k + t) = true ∧ st' = .ref (k + t) :: r)) := by
  unfold getA at hs
  rcases st with _ | ⟨v, r⟩
  · cases hs
  · cases v with
    | ref k =>
      cases o with
      | zero =>
        obtain ⟨e1, e2⟩ := Prod.mk.inj hs
        cases e2
        exact ⟨k, r, rfl, e1, rfl, rfl, Or.inl ⟨rfl, rfl⟩⟩
      | succ t =>
        obtain ⟨e1, e2⟩ := Prod.mk.inj hs
        cases e2
        obtain ⟨e3, e4⟩ := Bool.and_eq_true_iff.mp e1
        exact ⟨k, r, rfl, e3, rfl, rfl, Or.inr ⟨t, rfl, e4, rfl⟩⟩
    | _ => cases hs
theorem putA_inv {a b o : Nat} (hs : putA a b o ls st h = (true, ls', st', h')) : (∃ v k r, st = .int v :: .ref k :: r ∧ kO h.1 h.2.2.1 k a = true ∧ (o = 0 ∨ (o = 2 ∧ (v = 0 ∨ v = 1))) ∧ ls' = ls ∧ st' = r ∧ h' = (h.1, h.2.1, h.2.2.1, h.2.2.2.1, su h.2.2.2.2 k b v)) ∨ (∃ t k r, st = .ref t :: .ref k :: r ∧ kO h.1 h.2.2.1 k a = true ∧ o = 1 ∧ ls' = ls ∧ st' = r ∧ h' = (h.1, h.2.1, h.2.2.1, ru h.2.2.2.1 k b (some t), h.2.2.2.2)) := by
  unfold putA at hs
  rcases st with _ | ⟨v, r⟩
  · cases hs
  · rcases r with _ | ⟨u, r⟩
    · cases v <;> cases hs
    · cases v with
      | int v =>
        cases u with
        | ref k =>
          match o, hs with
          | 0, hs =>
            obtain ⟨e1, e2⟩ := Prod.mk.inj hs
            cases e2
            exact Or.inl ⟨v, k, _, rfl, e1, Or.inl rfl, rfl, rfl, rfl⟩
          | 1, hs => cases hs
          | 2, hs =>
            obtain ⟨e1, e2⟩ := Prod.mk.inj hs
            cases e2
            obtain ⟨e3, e4⟩ := Bool.and_eq_true_iff.mp e1
            exact Or.inl ⟨v, k, _, rfl, e3, Or.inr ⟨rfl, of_decide_eq_true e4⟩, rfl, rfl, rfl⟩
          | o + 3, hs => cases hs
        | _ => cases hs
      | ref t =>
        cases u with
        | ref k =>
          match o, hs with
          | 0, hs => cases hs
          | 1, hs =>
            obtain ⟨e1, e2⟩ := Prod.mk.inj hs
            cases e2
            exact Or.inr ⟨t, k, _, rfl, e1, rfl, rfl, rfl, rfl⟩
          | o + 2, hs => cases hs
        | _ => cases hs
      | _ => cases hs
theorem iaA_inv (hs : iaA scr ls st h = (true, ls', st', h')) : (∃ i k r, st = .int i :: .ref k :: r ∧ kA h.1 h.2.2.1 k 1 i = true ∧ ls' = ls ∧ st' = .int (h.2.2.2.2 k i.toNatClampNeg) :: r ∧ h' = h) ∨ (∃ i j r, st = .int i :: .retAddr j :: r ∧ j < 5 ∧ inB i (tbS scr j) = true ∧ ls' = ls ∧ st' = .int (tbV scr j i.toNatClampNeg) :: r ∧ h' = h) := by
  unfold iaA at hs
  rcases st with _ | ⟨v, _ | ⟨u, r⟩⟩
  · cases hs
  · cases v <;> cases hs
  · cases v with
    | int i =>
      cases u with
      | ref k =>
        obtain ⟨e1, e2⟩ := Prod.mk.inj hs
        cases e2
        exact Or.inl ⟨i, k, r, rfl, e1, rfl, rfl, rfl⟩
      | retAddr j =>
        obtain ⟨e1, e2⟩ := Prod.mk.inj hs
        cases e2
        obtain ⟨e3, e4⟩ := Bool.and_eq_true_iff.mp e1
        exact Or.inr ⟨i, j, r, rfl, of_decide_eq_true e3, e4, rfl, rfl, rfl⟩
      | _ => cases hs
    | _ => cases hs
theorem baA_inv (hs : baA ls st h = (true, ls', st', h')) : ∃ i k r, st = .int i :: .ref k :: r ∧ kA h.1 h.2.2.1 k 2 i = true ∧ ls' = ls ∧ st' = .int (h.2.2.2.2 k i.toNatClampNeg) :: r ∧ h' = h := by
  unfold baA at hs
  split at hs
  · obtain ⟨e1, e2⟩ := Prod.mk.inj hs
    cases e2
    exact ⟨_, _, _, rfl, e1, rfl, rfl, rfl⟩
  · cases hs
theorem isA_inv (hs : isA ls st h = (true, ls', st', h')) : ∃ x i k r, st = .int x :: .int i :: .ref k :: r ∧ kA h.1 h.2.2.1 k 1 i = true ∧ ls' = ls ∧ st' = r ∧ h' = (h.1, h.2.1, h.2.2.1, h.2.2.2.1, su h.2.2.2.2 k i.toNatClampNeg x) := by
  unfold isA at hs
  split at hs
  · obtain ⟨e1, e2⟩ := Prod.mk.inj hs
    cases e2
    exact ⟨_, _, _, _, rfl, e1, rfl, rfl, rfl⟩
  · cases hs
theorem bsA_inv (hs : bsA ls st h = (true, ls', st', h')) : ∃ x i k r, st = .int x :: .int i :: .ref k :: r ∧ kA h.1 h.2.2.1 k 2 i = true ∧ (x = 0 ∨ x = 1) ∧ ls' = ls ∧ st' = r ∧ h' = (h.1, h.2.1, h.2.2.1, h.2.2.2.1, su h.2.2.2.2 k i.toNatClampNeg x) := by
  unfold bsA at hs
  split at hs
  · obtain ⟨e1, e2⟩ := Prod.mk.inj hs
    cases e2
    obtain ⟨e3, e4⟩ := Bool.and_eq_true_iff.mp e1
    exact ⟨_, _, _, _, rfl, e3, of_decide_eq_true e4, rfl, rfl, rfl⟩
  · cases hs
theorem aaA_inv {a b o : Nat} (hs : aaA a b o ls st h = (true, ls', st', h')) : ∃ i k r, st = .int i :: .ref k :: r ∧ kA h.1 h.2.2.1 k (o + 3) i = true ∧ o < 3 ∧ kR h.2.2.2.1 k i.toNatClampNeg (k + a + b * i.toNatClampNeg) = true ∧ ls' = ls ∧ st' = .ref (k + a + b * i.toNatClampNeg) :: r ∧ h' = h := by
  unfold aaA at hs
  split at hs
  · obtain ⟨e1, e2⟩ := Prod.mk.inj hs
    cases e2
    obtain ⟨e3, e4⟩ := Bool.and_eq_true_iff.mp e1
    obtain ⟨e5, e6⟩ := Bool.and_eq_true_iff.mp e4
    exact ⟨_, _, _, rfl, e3, of_decide_eq_true e5, e6, rfl, rfl, rfl⟩
  · cases hs
theorem asA_inv (hs : asA ls st h = (true, ls', st', h')) : ∃ t i k r, st = .ref t :: .int i :: .ref k :: r ∧ ((kA h.1 h.2.2.1 k 3 i = true ∧ kO h.1 h.2.2.1 t 0 = true) ∨ (kA h.1 h.2.2.1 k 4 i = true ∧ kO h.1 h.2.2.1 t 4 = true)) ∧ ls' = ls ∧ st' = r ∧ h' = (h.1, h.2.1, h.2.2.1, ru h.2.2.2.1 k i.toNatClampNeg (some t), h.2.2.2.2) := by
  unfold asA at hs
  split at hs
  · obtain ⟨e1, e2⟩ := Prod.mk.inj hs
    cases e2
    rw [Bool.or_eq_true, Bool.and_eq_true, Bool.and_eq_true] at e1
    exact ⟨_, _, _, _, rfl, e1, rfl, rfl, rfl⟩
  · cases hs
theorem alA_inv (hs : alA scr ls st h = (true, ls', st', h')) : (∃ k r, st = .ref k :: r ∧ (k < h.1 ∧ 1 ≤ (h.2.2.1 k).1 ∧ (h.2.2.1 k).1 ≤ 5) ∧ ls' = ls ∧ st' = .int (Int32.ofNat (h.2.2.1 k).2) :: r ∧ h' = h) ∨ (∃ j r, st = .retAddr j :: r ∧ j < 5 ∧ ls' = ls ∧ st' = .int (Int32.ofNat (tbS scr j)) :: r ∧ h' = h) := by
  unfold alA at hs
  rcases st with _ | ⟨v, r⟩
  · cases hs
  · cases v with
    | ref k =>
      obtain ⟨e1, e2⟩ := Prod.mk.inj hs
      cases e2
      exact Or.inl ⟨k, r, rfl, of_decide_eq_true e1, rfl, rfl, rfl⟩
    | retAddr j =>
      obtain ⟨e1, e2⟩ := Prod.mk.inj hs
      cases e2
      exact Or.inr ⟨j, r, rfl, of_decide_eq_true e1, rfl, rfl, rfl⟩
    | _ => cases hs
theorem naA_inv {N1 W1 a : Nat} (hs : naA N1 W1 a ls st h = (true, ls', st', h')) : ∃ n r, st = .int n :: r ∧ (¬ n < 0 ∧ n.toNatClampNeg ≤ 1000 ∧ h.1 + 1 ≤ N1 ∧ h.2.1 + n.toNatClampNeg ≤ W1) ∧ ls' = ls ∧ st' = .ref h.1 :: r ∧ h' = (h.1 + 1, h.2.1 + n.toNatClampNeg, va_up h.2.2.1 h.1 (a + 1, n.toNatClampNeg), rr h.2.2.2.1 h.1 (fun _ => none), sr h.2.2.2.2 h.1 (fun _ => 0)) := by
  unfold naA at hs
  split at hs
  · obtain ⟨e1, e2⟩ := Prod.mk.inj hs
    cases e2
    exact ⟨_, _, rfl, of_decide_eq_true e1, rfl, rfl, rfl⟩
  · cases hs
theorem mnA_inv {N1 W1 : Nat} (hs : mnA N1 W1 ls st h = (true, ls', st', h')) : ∃ k n r, st = .int k :: .int n :: r ∧ (¬ n < 0 ∧ ¬ k < 0 ∧ n.toNatClampNeg ≤ 1000 ∧ k.toNatClampNeg ≤ 1000 ∧ h.1 + (1 + n.toNatClampNeg) ≤ N1 ∧ h.2.1 + (n.toNatClampNeg + n.toNatClampNeg * k.toNatClampNeg) ≤ W1) ∧ ls' = ls ∧ st' = .ref h.1 :: r ∧ h' = (h.1 + (1 + n.toNatClampNeg), h.2.1 + (n.toNatClampNeg + n.toNatClampNeg * k.toNatClampNeg), mnS h.2.2.1 h.1 n.toNatClampNeg k.toNatClampNeg, mnR h.2.2.2.1 h.1 n.toNatClampNeg, mnV h.2.2.2.2 h.1 n.toNatClampNeg) := by
  unfold mnA at hs
  split at hs
  · obtain ⟨e1, e2⟩ := Prod.mk.inj hs
    cases e2
    exact ⟨_, _, _, rfl, of_decide_eq_true e1, rfl, rfl, rfl⟩
  · cases hs
theorem oiA_inv (hs : oiA ls st h = (true, ls', st', h')) : ∃ k r, st = .ref k :: r ∧ (r.map fun v => v.category).sum ≤ 8 ∧ ls' = ls ∧ st' = r ∧ h' = h := by
  unfold oiA at hs
  split at hs
  · obtain ⟨e1, e2⟩ := Prod.mk.inj hs
    cases e2
    exact ⟨_, _, rfl, of_decide_eq_true e1, rfl, rfl, rfl⟩
  · cases hs
set_option maxHeartbeats 4000000 in
theorem stp_ok (E : EnA scr d M D cy tb z p R s m args meth c n0 mc ms) {q : AI} (hc : ck1 d M pc q = true) (hs : stp scr (n0 + mc) (w0 + ms) q ls st h = (true, ls', st', h')) (kk : GoA M D cy tb z p l e R s m args below meth c n0 w0 mc ms Qf (nxP pc q) ls' st' h') : GoA M D cy tb z p l e R s m args below meth c n0 w0 mc ms Qf pc ls st h := by
  obtain ⟨i, n, a, b, o, t, cv, dv⟩ := q
  unfold ck1 at hc
  rw [Bool.and_eq_true, decide_eq_true_eq] at hc
  obtain ⟨hd, hx⟩ := hc
  have hE := E
  obtain ⟨hex, hbc, hml, hown, hts, -⟩ := hE
  cases i with
  | iconst k =>
    obtain ⟨rfl, rfl⟩ := of_decide_eq_true hx
    cases hs
    exact r_const rfl (fun H locs cells slots A rest k9 => lv_iconst hex hbc hd rfl k9) kk
  | bipush k =>
    obtain ⟨rfl, rfl⟩ := of_decide_eq_true hx
    cases hs
    exact r_const rfl (fun H locs cells slots A rest k9 => lv_bipush hex hbc hd rfl k9) kk
  | sipush k =>
    obtain ⟨rfl, rfl⟩ := of_decide_eq_true hx
    cases hs
    exact r_const rfl (fun H locs cells slots A rest k9 => lv_sipush hex hbc hd rfl k9) kk
  | lconst k =>
    obtain ⟨rfl, rfl⟩ := of_decide_eq_true hx
    cases hs
    exact r_const rfl (fun H locs cells slots A rest k9 => lv_lconst hex hbc hd rfl k9) kk
  | ldc k =>
    obtain ⟨h1, h2⟩ := Bool.and_eq_true_iff.mp hx
    obtain rfl := of_decide_eq_true h1
    cases hs
    exact r_const rfl (fun H locs cells slots A rest k9 => lv_ldc hex hbc hown (hts _ (inT_mem h2)) hd k9) kk
  | ldc_w k =>
    obtain ⟨h1, h2⟩ := Bool.and_eq_true_iff.mp hx
    obtain rfl := of_decide_eq_true h1
    cases hs
    exact r_const rfl (fun H locs cells slots A rest k9 => lv_ldcw hex hbc hown (hts _ (inT_mem h2)) hd k9) kk
  | ldc2_w k =>
    obtain ⟨h1, h2⟩ := Bool.and_eq_true_iff.mp hx
    obtain rfl := of_decide_eq_true h1
    cases hs
    exact r_const rfl (fun H locs cells slots A rest k9 => lv_ldc2 hex hbc hown (hts _ (inT_mem h2)) hd k9) kk
  | iload_n k =>
    obtain ⟨rfl, rfl⟩ := of_decide_eq_true hx
    obtain ⟨x, hg, rfl, rfl, rfl⟩ := ldI_inv hs
    exact r_load hg (fun H locs cells slots A rest g9 k9 => lv_iload_n hex hbc hd rfl g9 k9) kk
  | iload k =>
    obtain ⟨rfl, rfl⟩ := of_decide_eq_true hx
    obtain ⟨x, hg, rfl, rfl, rfl⟩ := ldI_inv hs
    exact r_load hg (fun H locs cells slots A rest g9 k9 => lv_iload hex hbc hd g9 k9) kk
  | lload_n k =>
    obtain ⟨rfl, rfl⟩ := of_decide_eq_true hx
    obtain ⟨x, hg, rfl, rfl, rfl⟩ := ldJ_inv hs
    exact r_load hg (fun H locs cells slots A rest g9 k9 => lv_lload_n hex hbc hd rfl g9 k9) kk
  | lload k =>
    obtain ⟨rfl, rfl⟩ := of_decide_eq_true hx
    obtain ⟨x, hg, rfl, rfl, rfl⟩ := ldJ_inv hs
    exact r_load hg (fun H locs cells slots A rest g9 k9 => lv_lload hex hbc hd g9 k9) kk
  | aload_n k =>
    obtain ⟨rfl, rfl⟩ := of_decide_eq_true hx
    obtain ⟨v, ⟨y, hv⟩, hg, rfl, rfl, rfl⟩ := ldA_inv (z := z) (tb := tb) hs
    exact r_load hg (fun H locs cells slots A rest g9 k9 => by rw [hv] at g9 k9; exact lv_aload_n hex hbc hd rfl g9 k9) kk
  | aload k =>
    obtain ⟨rfl, rfl⟩ := of_decide_eq_true hx
    obtain ⟨v, ⟨y, hv⟩, hg, rfl, rfl, rfl⟩ := ldA_inv (z := z) (tb := tb) hs
    exact r_load hg (fun H locs cells slots A rest g9 k9 => by rw [hv] at g9 k9; exact lv_aload hex hbc hd g9 k9) kk
  | istore_n k =>
    obtain ⟨rfl, rfl, hlt⟩ := of_decide_eq_true hx
    obtain ⟨x, r, rfl, rfl, rfl, rfl⟩ := sdI_inv hs
    exact r_store (v := .int x) (fun H locs cells slots A rest hL k9 => lv_istore_n hex hbc hd rfl (lsOK_has hL) hlt rfl (fun A' hA' => k9 A' (lsOK_st (v := .int x) hA'))) kk
  | istore k =>
    obtain ⟨rfl, rfl, hlt⟩ := of_decide_eq_true hx
    obtain ⟨x, r, rfl, rfl, rfl, rfl⟩ := sdI_inv hs
    exact r_store (v := .int x) (fun H locs cells slots A rest hL k9 => lv_istore hex hbc hd (lsOK_has hL) hlt rfl (fun A' hA' => k9 A' (lsOK_st (v := .int x) hA'))) kk
  | lstore_n k =>
    obtain ⟨rfl, rfl, hlt⟩ := of_decide_eq_true hx
    obtain ⟨x, r, rfl, rfl, rfl, rfl⟩ := sdJ_inv hs
    exact r_store (v := .long x) (fun H locs cells slots A rest hL k9 => lv_lstore_n hex hbc hd rfl (lsOK_has hL) hlt rfl (fun A' hA' => k9 A' (lsOK_st2 (v := .long x) hA'))) kk
  | lstore k =>
    obtain ⟨rfl, rfl, hlt⟩ := of_decide_eq_true hx
    obtain ⟨x, r, rfl, rfl, rfl, rfl⟩ := sdJ_inv hs
    exact r_store (v := .long x) (fun H locs cells slots A rest hL k9 => lv_lstore hex hbc hd (lsOK_has hL) hlt rfl (fun A' hA' => k9 A' (lsOK_st2 (v := .long x) hA'))) kk
  | astore_n k =>
    obtain ⟨rfl, rfl, hlt⟩ := of_decide_eq_true hx
    obtain ⟨v, r, ⟨y, hv⟩, rfl, rfl, rfl, rfl⟩ := sdA_inv (z := z) (tb := tb) hs
    exact r_store (v := v) (fun H locs cells slots A rest hL k9 => by rw [hv]; exact lv_astore_n hex hbc hd rfl (lsOK_has hL) hlt rfl (fun A' hA' => k9 A' (lsOK_st (v := v) (by rw [hv]; exact hA')))) kk
  | astore k =>
    obtain ⟨rfl, rfl, hlt⟩ := of_decide_eq_true hx
    obtain ⟨v, r, ⟨y, hv⟩, rfl, rfl, rfl, rfl⟩ := sdA_inv (z := z) (tb := tb) hs
    exact r_store (v := v) (fun H locs cells slots A rest hL k9 => by rw [hv]; exact lv_astore hex hbc hd (lsOK_has hL) hlt rfl (fun A' hA' => k9 A' (lsOK_st (v := v) (by rw [hv]; exact hA')))) kk
  | iinc k x =>
    obtain ⟨rfl, rfl, rfl, hlt⟩ := of_decide_eq_true hx
    obtain ⟨y, hg, rfl, rfl, rfl⟩ := incA_inv hs
    intro H locs A hP hS hL hn hw
    obtain ⟨k9, hk9⟩ := List.getElem?_of_mem (lsP_mem (z := z) (tb := tb) (ls := ls) (q := (k, .int y)) |>.mpr ⟨.int y, hg, rfl⟩)
    exact lv_iinc hex hbc hd (lsOK_has hL) hk9 rfl hlt rfl (fun A' hA' => kk H locs A' hP hS (lsOK_st (v := .int (y + Int32.ofInt x)) hA') hn hw)
  | iadd =>
    obtain rfl := of_decide_eq_true hx
    obtain ⟨y, x, r, rfl, rfl, rfl, rfl⟩ := op2_inv hs
    exact r_pure (n := 1) kk (fun H locs cells slots A k9 => lv_iadd hex hbc hd k9)
  | isub =>
    obtain rfl := of_decide_eq_true hx
    obtain ⟨y, x, r, rfl, rfl, rfl, rfl⟩ := op2_inv hs
    exact r_pure (n := 1) kk (fun H locs cells slots A k9 => lv_isub hex hbc hd k9)
  | imul =>
    obtain rfl := of_decide_eq_true hx
    obtain ⟨y, x, r, rfl, rfl, rfl, rfl⟩ := op2_inv hs
    exact r_pure (n := 1) kk (fun H locs cells slots A k9 => lv_imul hex hbc hd k9)
  | iand =>
    obtain rfl := of_decide_eq_true hx
    obtain ⟨y, x, r, rfl, rfl, rfl, rfl⟩ := op2_inv hs
    exact r_pure (n := 1) kk (fun H locs cells slots A k9 => lv_iand hex hbc hd k9)
  | ior =>
    obtain rfl := of_decide_eq_true hx
    obtain ⟨y, x, r, rfl, rfl, rfl, rfl⟩ := op2_inv hs
    exact r_pure (n := 1) kk (fun H locs cells slots A k9 => lv_ior hex hbc hd k9)
  | ixor =>
    obtain rfl := of_decide_eq_true hx
    obtain ⟨y, x, r, rfl, rfl, rfl, rfl⟩ := op2_inv hs
    exact r_pure (n := 1) kk (fun H locs cells slots A k9 => lv_ixor hex hbc hd k9)
  | ishl =>
    obtain rfl := of_decide_eq_true hx
    obtain ⟨y, x, r, rfl, rfl, rfl, rfl⟩ := op2_inv hs
    exact r_pure (n := 1) kk (fun H locs cells slots A k9 => lv_ishl hex hbc hd k9)
  | ishr =>
    obtain rfl := of_decide_eq_true hx
    obtain ⟨y, x, r, rfl, rfl, rfl, rfl⟩ := op2_inv hs
    exact r_pure (n := 1) kk (fun H locs cells slots A k9 => lv_ishr hex hbc hd k9)
  | iushr =>
    obtain rfl := of_decide_eq_true hx
    obtain ⟨y, x, r, rfl, rfl, rfl, rfl⟩ := op2_inv hs
    exact r_pure (n := 1) kk (fun H locs cells slots A k9 => lv_iushr hex hbc hd rfl k9)
  | idiv =>
    obtain rfl := of_decide_eq_true hx
    obtain ⟨y, x, r, hz, rfl, rfl, rfl, rfl⟩ := op2z_inv hs
    exact r_pure (n := 1) kk (fun H locs cells slots A k9 => lv_idiv hex hbc hd hz k9)
  | irem =>
    obtain rfl := of_decide_eq_true hx
    obtain ⟨y, x, r, hz, rfl, rfl, rfl, rfl⟩ := op2z_inv hs
    exact r_pure (n := 1) kk (fun H locs cells slots A k9 => lv_irem hex hbc hd hz k9)
  | ladd =>
    obtain rfl := of_decide_eq_true hx
    obtain ⟨y, x, r, rfl, rfl, rfl, rfl⟩ := opJ_inv hs
    exact r_pure (n := 1) kk (fun H locs cells slots A k9 => lv_ladd hex hbc hd k9)
  | lsub =>
    obtain rfl := of_decide_eq_true hx
    obtain ⟨y, x, r, rfl, rfl, rfl, rfl⟩ := opJ_inv hs
    exact r_pure (n := 1) kk (fun H locs cells slots A k9 => lv_lsub hex hbc hd k9)
  | lmul =>
    obtain rfl := of_decide_eq_true hx
    obtain ⟨y, x, r, rfl, rfl, rfl, rfl⟩ := opJ_inv hs
    exact r_pure (n := 1) kk (fun H locs cells slots A k9 => lv_lmul hex hbc hd k9)
  | ldiv =>
    obtain rfl := of_decide_eq_true hx
    obtain ⟨y, x, r, hz, rfl, rfl, rfl, rfl⟩ := opJz_inv hs
    exact r_pure (n := 1) kk (fun H locs cells slots A k9 => lv_ldiv hex hbc hd hz k9)
  | lrem =>
    obtain rfl := of_decide_eq_true hx
    obtain ⟨y, x, r, hz, rfl, rfl, rfl, rfl⟩ := opJz_inv hs
    exact r_pure (n := 1) kk (fun H locs cells slots A k9 => lv_lrem hex hbc hd hz k9)
  | i2b =>
    obtain rfl := of_decide_eq_true hx
    obtain ⟨x, r, rfl, rfl, rfl, rfl⟩ := op1_inv hs
    exact r_pure (n := 1) kk (fun H locs cells slots A k9 => lv_i2b hex hbc hd rfl k9)
  | i2s =>
    obtain rfl := of_decide_eq_true hx
    obtain ⟨x, r, rfl, rfl, rfl, rfl⟩ := op1_inv hs
    exact r_pure (n := 1) kk (fun H locs cells slots A k9 => lv_i2s hex hbc hd rfl k9)
  | i2l =>
    obtain rfl := of_decide_eq_true hx
    obtain ⟨x, r, rfl, rfl, rfl, rfl⟩ := i2lA_inv hs
    exact r_pure (n := 1) kk (fun H locs cells slots A k9 => lv_i2l hex hbc hd rfl k9)
  | lshl =>
    obtain rfl := of_decide_eq_true hx
    obtain ⟨y, x, r, rfl, rfl, rfl, rfl⟩ := lshA_inv hs
    exact r_pure (n := 1) kk (fun H locs cells slots A k9 => lv_lshl hex hbc hd rfl k9)
  | lcmp =>
    obtain rfl := of_decide_eq_true hx
    obtain ⟨y, x, r, rfl, rfl, rfl, rfl⟩ := lcA_inv hs
    exact r_pure (n := 1) kk (fun H locs cells slots A k9 => W.lcmp hex hbc hd k9)
  | dup =>
    obtain rfl := of_decide_eq_true hx
    obtain ⟨v, r, hv, rfl, rfl, rfl, rfl⟩ := dpA_inv hs
    exact r_pure (n := 1) kk (fun H locs cells slots A k9 => lv_dup hex hbc hd (by rw [rvA_cat]; exact hv) k9)
  | dup2 =>
    obtain rfl := of_decide_eq_true hx
    obtain ⟨v, k, r, rfl, rfl, rfl, rfl⟩ := d2A_inv hs
    exact r_pure (n := 1) kk (fun H locs cells slots A k9 => lv_dup2_11 hex hbc hd rfl rfl k9)
  | goto x =>
    obtain ⟨rfl, ht⟩ := of_decide_eq_true hx
    cases hs
    intro H locs A hP hS hL hn hw
    exact lv_goto hex hbc hd ht (kk H locs A hP hS hL hn hw)
  | getfield k =>
    obtain ⟨h12, h3⟩ := Bool.and_eq_true_iff.mp hx
    obtain ⟨h1, h2⟩ := Bool.and_eq_true_iff.mp h12
    obtain ⟨rfl, ha, hb, hrf⟩ := of_decide_eq_true h1
    obtain ⟨k9, r, rfl, hO, rfl, rfl, ⟨rfl, rfl⟩ | ⟨t9, rfl, hR, rfl⟩⟩ := getA_inv hs
    · have hnr : ¬ isRf a b = true := fun q => (hrf.mp q) rfl
      exact r_getI E hO ha hb (inL ha) (inT_mem h2) (of_decide_eq_true h3) hd (by unfold flV; rw [if_neg hnr]; rfl) kk
    · have hr : isRf a b = true := hrf.mpr (Nat.succ_ne_zero _)
      exact r_getI E hO ha hb (inL ha) (inT_mem h2) (of_decide_eq_true h3) hd (v := .ref (k9 + t9)) (by unfold flV; rw [if_pos hr]; exact va_rf_ref (kR_iff.mp hR)) kk
  | putfield k =>
    obtain ⟨h12, h3⟩ := Bool.and_eq_true_iff.mp hx
    obtain ⟨h1, h2⟩ := Bool.and_eq_true_iff.mp h12
    obtain ⟨rfl, ha, hb, hty, hfin⟩ := of_decide_eq_true h1
    have hnrI : tyF a b = .int → ¬ isRf a b = true := fun q => by unfold isRf; rw [q]; exact fun z => by cases z
    have hnrB : tyF a b = .boolean → ¬ isRf a b = true := fun q => by unfold isRf; rw [q]; exact fun z => by cases z
    have flI : ∀ (v : Int32) (k9 : Nat), ¬ isRf a b = true → flV z (h.1, h.2.1, h.2.2.1, h.2.2.2.1, su h.2.2.2.2 k9 b v) k9 a b = rvA z tb (.int v) := fun v k9 hn => by
      unfold flV
      rw [if_neg hn]
      exact congrArg Value.int (su_eq _ _ _ _)
    have flJ : ∀ (v : Int32) (k9 j : Nat), j ≠ b → flV z (h.1, h.2.1, h.2.2.1, h.2.2.2.1, su h.2.2.2.2 k9 b v) k9 a j = flV z h k9 a j := fun v k9 j hj => by
      have e9 : su h.2.2.2.2 k9 b v k9 j = h.2.2.2.2 k9 j := su_ne _ _ _ _ (Or.inr hj)
      show (if isRf a j = true then va_rf ((h.2.2.2.1 k9 j).map (fun a => z + a)) else .int (su h.2.2.2.2 k9 b v k9 j)) = _
      rw [e9]
      rfl
    rcases putA_inv hs with ⟨v, k9, r, rfl, hO, ho, rfl, rfl, rfl⟩ | ⟨t9, k9, r, rfl, hO, rfl, rfl, rfl, rfl⟩
    · have hcase : tyF a b = .int ∨ (tyF a b = .boolean ∧ (v = 0 ∨ v = 1)) := by
        rcases hty with ⟨q, q2⟩ | ⟨q, q2⟩ | ⟨q, q2⟩
        · exact Or.inl q
        · rcases ho with ho | ⟨ho, h01⟩
          · omega
          · exact Or.inr ⟨q, h01⟩
        · rcases ho with ho | ⟨ho, h01⟩ <;> omega
      rcases hcase with ht | ⟨ht, h01⟩
      · exact r_put (h' := (h.1, h.2.1, h.2.2.1, h.2.2.2.1, su h.2.2.2.2 k9 b v)) E hO ha hb (inL ha) (inT_mem h2) (of_decide_eq_true h3) hd hfin (v := .int v) (by rw [ht]; rfl) (by rw [ht]; rfl) rfl rfl rfl (fun i hi => ⟨rfl, su_off _ _ _ _ hi⟩) (flI v k9 (hnrI ht)) (flJ v k9) kk
      · exact r_put (h' := (h.1, h.2.1, h.2.2.1, h.2.2.2.1, su h.2.2.2.2 k9 b v)) E hO ha hb (inL ha) (inT_mem h2) (of_decide_eq_true h3) hd hfin (v := .int v) (by rw [ht]; rcases h01 with rfl | rfl <;> rfl) (by rw [ht]; rcases h01 with rfl | rfl <;> rfl) rfl rfl rfl (fun i hi => ⟨rfl, su_off _ _ _ _ hi⟩) (flI v k9 (hnrB ht)) (flJ v k9) kk
    · have hr : isRf a b = true := by
        rcases hty with ⟨q, q2⟩ | ⟨q, q2⟩ | ⟨q, q2⟩
        · omega
        · omega
        · exact q
      have hgen : ∀ (ty : FieldType) (x : Nat), ty.isReference = true → narrow ty (.ref x) = .ref x ∧ fits ty (.ref x) = true := fun ty x q => by cases ty <;> first | exact ⟨rfl, rfl⟩ | cases q
      refine r_put (h' := (h.1, h.2.1, h.2.2.1, ru h.2.2.2.1 k9 b (some t9), h.2.2.2.2)) E hO ha hb (inL ha) (inT_mem h2) (of_decide_eq_true h3) hd hfin (v := .ref t9) (hgen _ _ hr).1 (hgen _ _ hr).2 rfl rfl rfl (fun i hi => ⟨ru_off _ _ _ _ hi, rfl⟩) ?_ (fun j hj => ?_) kk
      · unfold flV
        rw [if_pos hr]
        exact va_rf_ref (by simp [ru])
      · have e9 : ru h.2.2.2.1 k9 b (some t9) k9 j = h.2.2.2.1 k9 j := by simp [ru, hj]
        show (if isRf a j = true then va_rf ((ru h.2.2.2.1 k9 b (some t9) k9 j).map (fun a => z + a)) else .int (h.2.2.2.2 k9 j)) = _
        rw [e9]
        rfl
  | getstatic k =>
    obtain ⟨h1, h2⟩ := Bool.and_eq_true_iff.mp hx
    obtain ⟨rfl, ha⟩ := of_decide_eq_true h1
    obtain ⟨e1, e2⟩ := Prod.mk.inj hs
    cases e2
    refine r_gets E ha ?_ hd kk
    rw [Bool.or_eq_true] at h2
    rcases h2 with h2 | h2
    · exact Or.inl (inT_mem h2)
    · exact Or.inr (List.mem_filter.mpr ⟨List.mem_of_getElem? (of_decide_eq_true h2), rfl⟩)
  | iaload =>
    obtain rfl := of_decide_eq_true hx
    rcases iaA_inv hs with ⟨i, k, r, rfl, hO, rfl, rfl, rfl⟩ | ⟨i, j, r, rfl, hj, hi, rfl, rfl, rfl⟩
    · exact r_iald E hO hd kk
    · exact r_tbl E hj hi hd kk
  | baload =>
    obtain rfl := of_decide_eq_true hx
    obtain ⟨i, k, r, rfl, hO, rfl, rfl, rfl⟩ := baA_inv hs
    exact r_zald E hO hd kk
  | iastore =>
    obtain rfl := of_decide_eq_true hx
    obtain ⟨x, i, k, r, rfl, hO, rfl, rfl, rfl⟩ := isA_inv hs
    exact r_iast E hO hd kk
  | bastore =>
    obtain rfl := of_decide_eq_true hx
    obtain ⟨x, i, k, r, rfl, hO, h01, rfl, rfl, rfl⟩ := bsA_inv hs
    exact r_zast E hO h01 hd kk
  | aaload =>
    obtain rfl := of_decide_eq_true hx
    obtain ⟨i, k, r, rfl, hO, ho, hR, rfl, rfl, rfl⟩ := aaA_inv hs
    exact r_aald E hO ho hR hd kk
  | aastore =>
    obtain rfl := of_decide_eq_true hx
    obtain ⟨t, i, k, r, rfl, ⟨hO, hT⟩ | ⟨hO, hT⟩, rfl, rfl, rfl⟩ := asA_inv hs
    · exact r_aast (o := 0) E hO hT (by decide) rfl hd kk
    · exact r_aast (o := 1) E hO hT (by decide) rfl hd kk
  | arraylength =>
    obtain rfl := of_decide_eq_true hx
    rcases alA_inv hs with ⟨k, r, rfl, ⟨g1, g2, g3⟩, rfl, rfl, rfl⟩ | ⟨j, r, rfl, hj, rfl, rfl, rfl⟩
    · exact r_alen E g1 g2 g3 hd kk
    · exact r_tlen E hj hd kk
  | new k =>
    obtain ⟨h123, h4⟩ := Bool.and_eq_true_iff.mp hx
    obtain ⟨h12, h3⟩ := Bool.and_eq_true_iff.mp h123
    obtain ⟨h1, h2⟩ := Bool.and_eq_true_iff.mp h12
    obtain ⟨rfl, ha⟩ := of_decide_eq_true h1
    have hs : nwA (n0 + mc) (w0 + ms) a ls st h = (true, ls', st', h') := hs
    unfold nwA at hs
    obtain ⟨e1, e2⟩ := Prod.mk.inj hs
    cases e2
    obtain ⟨b1, b2⟩ := of_decide_eq_true e1
    exact r_new E ha (inL ha) (inT_mem h2) (inT_mem h3) (inT_mem h4) b1 b2 hd kk
  | newarray ty =>
    obtain ⟨h1, h2⟩ := Bool.and_eq_true_iff.mp hx
    obtain ⟨rfl, hat⟩ := of_decide_eq_true h1
    obtain ⟨n, r, rfl, ⟨g1, g2, g3, g4⟩, rfl, rfl, rfl⟩ := naA_inv hs
    exact r_newa E hat (inT_mem h2) g1 g2 g3 g4 hd kk
  | anewarray k =>
    obtain ⟨h1, h2⟩ := Bool.and_eq_true_iff.mp hx
    obtain rfl := of_decide_eq_true h1
    obtain ⟨n, r, rfl, ⟨g1, g2, g3, g4⟩, rfl, rfl, rfl⟩ := naA_inv hs
    rw [Bool.or_eq_true, Bool.and_eq_true, Bool.and_eq_true] at h2
    rcases h2 with ⟨h2, h3⟩ | ⟨h2, h3⟩
    · obtain rfl := of_decide_eq_true h2
      exact r_newq (C := "HumanPyramid$Best") E rfl ⟨0, rfl⟩ E.2.2.2.2.2.1.2.2.2.2.2.1 (inT_mem h3) g1 g2 g3 g4 hd kk
    · obtain rfl := of_decide_eq_true h2
      exact r_newq (C := "HumanPyramid$Sheet") E rfl ⟨1, rfl⟩ E.2.2.2.2.2.1.2.2.2.2.2.2.1 (inT_mem h3) g1 g2 g3 g4 hd kk
  | multianewarray k x =>
    obtain ⟨h12, h3⟩ := Bool.and_eq_true_iff.mp hx
    obtain ⟨h1, h2⟩ := Bool.and_eq_true_iff.mp h12
    obtain ⟨rfl, rfl⟩ := of_decide_eq_true h1
    obtain ⟨k9, n, r, rfl, ⟨g1, g2, g3, g4, g5, g6⟩, rfl, rfl, rfl⟩ := mnA_inv hs
    exact r_mna E (inT_mem h2) g1 g2 g3 g4 g5 g6 hd kk
  | invokespecial k =>
    obtain ⟨h1, h2⟩ := Bool.and_eq_true_iff.mp hx
    obtain ⟨rfl, hd1⟩ := of_decide_eq_true h1
    obtain ⟨k9, r, rfl, hr, rfl, rfl, rfl⟩ := oiA_inv hs
    exact r_objInit E (inT_mem h2) w_oi w_oc hd1 hr hd kk
  | invokestatic k =>
    obtain ⟨h1, h2⟩ := Bool.and_eq_true_iff.mp hx
    obtain ⟨rfl, hd1⟩ := of_decide_eq_true h1
    rw [Bool.or_eq_true, Bool.or_eq_true, Bool.and_eq_true, Bool.and_eq_true, Bool.and_eq_true] at h2
    rcases h2 with (⟨h2, h3⟩ | ⟨h2, h3⟩) | ⟨h2, h3⟩
    · obtain rfl := of_decide_eq_true h2
      have hs : isS (n0 + mc) (w0 + ms) 0 ls st h = (true, ls', st', h') := hs
      simp only [isS] at hs
      split at hs
      · obtain ⟨e1, e2⟩ := Prod.mk.inj hs
        cases e2
        obtain ⟨b1, b2, b3⟩ := of_decide_eq_true e1
        exact r_mmax E (inT_mem h3) w_xs w_xi w_xc hd1 b1 (by omega) (by omega) hd kk
      · cases hs
    · obtain rfl := of_decide_eq_true h2
      have hs : isS (n0 + mc) (w0 + ms) 1 ls st h = (true, ls', st', h') := hs
      simp only [isS] at hs
      split at hs
      · obtain ⟨e1, e2⟩ := Prod.mk.inj hs
        cases e2
        obtain ⟨b1, b2, b3⟩ := of_decide_eq_true e1
        exact r_mmin E (inT_mem h3) w_ns w_xi w_nc hd1 b1 (by omega) (by omega) hd kk
      · cases hs
    · obtain rfl := of_decide_eq_true h2
      have hs : isS (n0 + mc) (w0 + ms) 2 ls st h = (true, ls', st', h') := hs
      simp only [isS] at hs
      split at hs
      · obtain ⟨e1, e2⟩ := Prod.mk.inj hs
        cases e2
        obtain ⟨e3, e4⟩ := Bool.and_eq_true_iff.mp e1
        obtain ⟨e5, e6⟩ := Bool.and_eq_true_iff.mp e3
        exact r_copy E (inT_mem h3) w_yn w_ys w_yi hd1 (of_decide_eq_true e5) (of_decide_eq_true e6) (of_decide_eq_true e4) hd kk
      · cases hs
  | _ => cases hs
theorem exA_ok (E : EnA scr d M D cy tb z p R s m args meth c n0 mc ms) : ∀ (qs : List AI) (pc e9 : Nat) (ls : LsA) (st : List Value) (h : Hp), ckA d M pc qs e9 = true → exA scr (n0 + mc) (w0 + ms) qs ls st h = (true, ls', st', h') → GoA M D cy tb z p l e R s m args below meth c n0 w0 mc ms Qf e9 ls' st' h' → GoA M D cy tb z p l e R s m args below meth c n0 w0 mc ms Qf pc ls st h
  | [], pc, e9, ls, st, h, hc, hs, kk => by
    obtain rfl := of_decide_eq_true hc
    cases hs
    exact kk
  | q :: qs, pc, e9, ls, st, h, hc, hs, kk => by
    obtain ⟨h1, h2⟩ := Bool.and_eq_true_iff.mp hc
    unfold exA at hs
    rcases hq : stp scr (n0 + mc) (w0 + ms) q ls st h with ⟨b, ls1, st1, h1'⟩
    rw [hq] at hs
    simp only at hs
    rcases hr : exA scr (n0 + mc) (w0 + ms) qs ls1 st1 h1' with ⟨b2, r⟩
    rw [hr] at hs
    simp only [Prod.mk.injEq, Bool.and_eq_true] at hs
    obtain ⟨⟨rfl, rfl⟩, rfl⟩ := hs
    exact stp_ok E h1 hq (exA_ok E qs _ e9 ls1 st1 h1' h2 hr kk)
end BlocksA
/-- a block of instructions -/
theorem XA.blk {scr : ScA} {d : Nat} {M : MD} {N1 W1 pc e9 : Nat} {ls ls' : LsA} {st st' : List Value} {h h' : Hp} {post : Option Value → Hp → Prop} {ok : Bool} (qs : List AI) (hc : ckA d M pc qs e9 = true) (hs : exA scr N1 W1 qs ls st h = (ok, ls', st', h')) (hok : ok = true) (kk : XA scr d M N1 W1 e9 ls' st' h' post) : XA scr d M N1 W1 pc ls st h post := by
  subst hok
  intro D cy tb z p l e R s m args below meth c n0 w0 mc ms Qf E e1 e2 hR
  subst e1
  subst e2
  exact exA_ok E qs pc e9 ls st h hc hs (kk D cy tb z p l e R s m args below meth c n0 w0 mc ms Qf E rfl rfl hR)
