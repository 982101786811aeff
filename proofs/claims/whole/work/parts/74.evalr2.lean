/-! the evaluator -/
abbrev EO : Type := AI × Nat × Nat × Nat × Nat × Nat × Nat
abbrev MeT : Type := MD × Nat × (Nat × Nat × Nat × Nat × Nat) × List (Nat × EO)
def lkO : List (Nat × EO) → Nat → Option EO
  | [], _ => none
  | x :: l, pc => if x.1 = pc then some x.2 else lkO l pc
theorem lkO_mem : ∀ (l : List (Nat × EO)) (pc : Nat) (e : EO), lkO l pc = some e → (pc, e) ∈ l
  | [], _, _, h => by cases h
  | x :: l, pc, e, h => by
    have es : lkO (x :: l) pc = if x.1 = pc then some x.2 else lkO l pc := rfl
    rw [es] at h
    split at h
    · rename_i z
      cases h
      rw [← z]
      exact List.mem_cons_self
    · exact List.mem_cons_of_mem _ (lkO_mem l pc e h)
def sp3 (st : List Value) : Option (List Value × List Value) := match st with
  | .ref k :: rest => some ([.ref k], rest)
  | _ => none
def sp4 (st : List Value) : Option (List Value × List Value) := match st with
  | v :: .ref k :: rest => some ([.ref k, v], rest)
  | _ => none
def sp6 (st : List Value) : Option (List Value × List Value) := match st with
  | y :: x :: rest => some ([x, y], rest)
  | _ => none
def spK (kd : Nat) (st : List Value) : Option (List Value × List Value) := match kd with
  | 3 => sp3 st
  | 4 => sp4 st
  | 5 => sp3 st
  | 6 => sp6 st
  | _ => none
theorem spK_3 {st as rest : List Value} (h : spK 3 st = some (as, rest)) : ∃ k, st = .ref k :: rest ∧ as = [.ref k] := by
  have h2 : sp3 st = some (as, rest) := h
  unfold sp3 at h2
  split at h2
  · cases h2; exact ⟨_, rfl, rfl⟩
  · cases h2
theorem spK_4 {st as rest : List Value} (h : spK 4 st = some (as, rest)) : ∃ k v, st = v :: .ref k :: rest ∧ as = [.ref k, v] := by
  have h2 : sp4 st = some (as, rest) := h
  unfold sp4 at h2
  split at h2
  · cases h2; exact ⟨_, _, rfl, rfl⟩
  · cases h2
theorem spK_5 {st as rest : List Value} (h : spK 5 st = some (as, rest)) : ∃ k, st = .ref k :: rest ∧ as = [.ref k] := by
  have h2 : sp3 st = some (as, rest) := h
  unfold sp3 at h2
  split at h2
  · cases h2; exact ⟨_, rfl, rfl⟩
  · cases h2
theorem spK_6 {st as rest : List Value} (h : spK 6 st = some (as, rest)) : ∃ x y, st = y :: x :: rest ∧ as = [x, y] := by
  have h2 : sp6 st = some (as, rest) := h
  unfold sp6 at h2
  split at h2
  · cases h2; exact ⟨_, _, rfl, rfl⟩
  · cases h2
def pdL : LsA → Nat → LsA
  | [], 0 => []
  | [], n + 1 => none :: pdL [] n
  | x :: l, 0 => x :: l
  | x :: l, n + 1 => x :: pdL l n
theorem pdL_le : ∀ (l : LsA) (n : Nat), leL (pdL l n) l
  | [], 0 => trivial
  | [], n + 1 => pdL_le [] n
  | none :: l, 0 => pdL_le l 0 |> fun h => by
    have e : ∀ l : LsA, pdL l 0 = l := fun l => by cases l <;> rfl
    rw [e] at h
    exact h
  | some v :: l, 0 => pdL_le l 0 |> fun h => by
    have e : ∀ l : LsA, pdL l 0 = l := fun l => by cases l <;> rfl
    rw [e] at h
    exact ⟨rfl, h⟩
  | none :: l, n + 1 => pdL_le l n
  | some v :: l, n + 1 => ⟨rfl, pdL_le l n⟩
def rcv (as : List Value) (n ci : Nat) : Bool := match as with
  | .ref k :: _ => kO n S0 k ci
  | _ => false
def evR (P : List MeT) : Nat → Nat → Nat → Nat → Nat → LsA → List Value → Ch → Option Ch
  | 0, _, _, _, _, _, _, _ => none
  | f + 1, N1, W1, mi, pc, ls, st, h => match P[mi]? with
    | none => none
    | some me => match lkO me.2.2.2 pc with
      | none => none
      | some e => match e.2.1 with
        | 0 => match es N1 W1 e.1 ls st h with
          | none => none
          | some x => evR P f N1 W1 mi (nxP pc e.1) x.1 x.2.1 x.2.2
        | 1 => match st with
          | .int y :: .int x :: r => if y ≤ x then evR P f N1 W1 mi e.2.2.1 ls r h else evR P f N1 W1 mi (pc + 3) ls r h
          | _ => none
        | 2 => match st with
          | .int x :: r => if x = 0 then evR P f N1 W1 mi e.2.2.1 ls r h else evR P f N1 W1 mi (pc + 3) ls r h
          | _ => none
        | 7 => match st with
          | [] => if h.1 ≤ N1 ∧ h.2.1 ≤ W1 then some h else none
          | _ => none
        | kd => match spK kd st with
          | none => none
          | some x => match P[e.2.2.1]? with
            | none => none
            | some me' => if (x.2.map fun v => v.category).sum ≤ 8 ∧ (enL x.1).length ≤ me'.1.2.2.1 ∧ h.1 + e.2.2.2.2.2.1 ≤ N1 ∧ h.2.1 + e.2.2.2.2.2.2 ≤ W1 ∧ (kd = 5 → rcv x.1 h.1 me'.2.2.1.2.2.2.2 = true) then match evR P f (h.1 + e.2.2.2.2.2.1) (h.2.1 + e.2.2.2.2.2.2) e.2.2.1 0 (pdL (enL x.1) me'.1.2.2.1) [] h with
              | none => none
              | some h1 => if h1.1 = h.1 + e.2.2.2.2.2.1 ∧ h1.2.1 = h.2.1 + e.2.2.2.2.2.2 then evR P f N1 W1 mi (pc + 3) ls x.2 h1 else none
              else none
def okO (P : List MeT) (me : MeT) (pc : Nat) (e : EO) : Bool := match e.2.1 with
  | 0 => ck1 me.2.1 me.1 pc e.1
  | 1 => match e.1.1 with
    | .if_icmp .ge off => ckI me.1 pc (.if_icmp .ge off) off e.2.2.1
    | _ => false
  | 2 => match e.1.1 with
    | .ifCond .eq off => ckI me.1 pc (.ifCond .eq off) off e.2.2.1
    | _ => false
  | 7 => ckRt me.1 pc .return_
  | kd => match P[e.2.2.1]? with
    | none => false
    | some me' => decide (me'.2.1 + 1 ≤ me.2.1) && (match kd with
      | 3 => ciB me'.1 0 me'.2.2.1.1 me'.2.2.1.2.1 me'.2.2.1.2.2.1 && lkB me.1 me'.1 pc e.2.2.2.1 e.2.2.2.2.1 (.invokespecial e.2.2.2.1)
      | 4 => ciB me'.1 1 me'.2.2.1.1 me'.2.2.1.2.1 me'.2.2.1.2.2.1 && lkB me.1 me'.1 pc e.2.2.2.1 e.2.2.2.2.1 (.invokespecial e.2.2.2.1)
      | 5 => cvB me'.1 me'.2.2.1.2.2.2.2 0 me'.2.2.1.1 me'.2.2.1.2.1 me'.2.2.1.2.2.1 me'.2.2.1.2.2.2.1 && lkB me.1 me'.1 pc e.2.2.2.1 e.2.2.2.2.1 (.invokevirtual e.2.2.2.1)
      | 6 => csB me'.1 2 me'.2.2.1.1 me'.2.2.1.2.1 me'.2.2.1.2.2.1 && lkB me.1 me'.1 pc e.2.2.2.1 e.2.2.2.2.1 (.invokestatic e.2.2.2.1)
      | _ => false)
def okM (P : List MeT) (me : MeT) : Bool := plainName me.1.1.cls && me.1.2.2.2.isNone && me.2.2.2.all (fun x => okO P me x.1 x.2)
def okP (P : List MeT) : Bool := P.all (okM P)
theorem okP_me {P : List MeT} (hP : okP P = true) {mi : Nat} {me : MeT} (h : P[mi]? = some me) : plainName me.1.1.cls = true ∧ me.1.2.2.2 = none ∧ ∀ pc e, lkO me.2.2.2 pc = some e → okO P me pc e = true := by
  have h1 := List.all_eq_true.mp hP me (List.mem_of_getElem? h)
  obtain ⟨h2, h3⟩ := Bool.and_eq_true_iff.mp h1
  obtain ⟨h4, h5⟩ := Bool.and_eq_true_iff.mp h2
  exact ⟨h4, by simpa using h5, fun pc e he => List.all_eq_true.mp h3 (pc, e) (lkO_mem _ _ _ he)⟩
theorem ev_ok {P : List MeT} (hP : okP P = true) (scr : ScA) : ∀ (f N1 W1 mi pc : Nat) (ls : LsA) (st : List Value) (h h' : Ch), evR P f N1 W1 mi pc ls st h = some h' → ∃ me, P[mi]? = some me ∧ XA scr me.2.1 me.1 N1 W1 pc ls st (cH h) (fun r hh => r = none ∧ hh = cH h') := by
  intro f
  induction f with
  | zero =>
    intro N1 W1 mi pc ls st h h' e
    cases e
  | succ f ih =>
    intro N1 W1 mi pc ls st h h' e
    unfold evR at e
    cases hm : P[mi]? with
    | none => rw [hm] at e; cases e
    | some me =>
      rw [hm] at e
      dsimp only at e
      obtain ⟨hpl, hrt, hops⟩ := okP_me hP hm
      refine ⟨me, rfl, ?_⟩
      have same : ∀ {Q : MeT → Prop}, (∃ m2, some me = some m2 ∧ Q m2) → Q me := fun ⟨m2, q1, q2⟩ => by cases q1; exact q2
      have ih' : ∀ (N1 W1 pc : Nat) (ls : LsA) (st : List Value) (h h' : Ch), evR P f N1 W1 mi pc ls st h = some h' → XA scr me.2.1 me.1 N1 W1 pc ls st (cH h) (fun r hh => r = none ∧ hh = cH h') := fun N1 W1 pc ls st h h' q => by
        have := ih N1 W1 mi pc ls st h h' q
        rw [hm] at this
        exact same this
      cases ho : lkO me.2.2.2 pc with
      | none => rw [ho] at e; cases e
      | some eo =>
        rw [ho] at e
        dsimp only at e
        have hck := hops pc eo ho
        obtain ⟨q, kd, m', idx, t, mc, ms⟩ := eo
        unfold okO at hck
        dsimp only at hck e
        have call : ∀ (as rest : List Value) (me' : MeT), P[m']? = some me' → (rest.map fun v => v.category).sum ≤ 8 ∧ (enL as).length ≤ me'.1.2.2.1 ∧ h.1 + mc ≤ N1 ∧ h.2.1 + ms ≤ W1 ∧ (kd = 5 → rcv as h.1 me'.2.2.1.2.2.2.2 = true) → (∃ h1, evR P f (h.1 + mc) (h.2.1 + ms) m' 0 (pdL (enL as) me'.1.2.2.1) [] h = some h1 ∧ (h1.1 = h.1 + mc ∧ h1.2.1 = h.2.1 + ms) ∧ evR P f N1 W1 mi (pc + 3) ls rest h1 = some h') → ∃ h1, CtA scr me'.2.1 me'.1 as (cH h) mc ms (fun r hh => r = none ∧ hh = cH h1) ∧ ∀ (rv : Option Value) (hh : Hp), (rv = none ∧ hh = cH h1) → hh.1 = (cH h).1 + mc ∧ hh.2.1 = (cH h).2.1 + ms ∧ XA scr me.2.1 me.1 N1 W1 (pc + 3) ls (rv.toList ++ rest) hh (fun r hh => r = none ∧ hh = cH h') := by
          intro as rest me' hm' hc ⟨h1, r1, r2, r3⟩
          obtain ⟨m2, q1, q2⟩ := ih _ _ _ _ _ _ _ _ r1
          rw [hm'] at q1
          cases q1
          obtain ⟨p1, -, -⟩ := okP_me hP hm'
          refine ⟨h1, CtA.of p1 hc.2.1 (XA.drop (pdL_le _ _) q2), fun rv hh ⟨g1, g2⟩ => ?_⟩
          subst g1
          subst g2
          exact ⟨r2.1, r2.2, ih' _ _ _ _ _ _ _ r3⟩
        split at e
        · replace hck : ck1 me.2.1 me.1 pc q = true := hck
          cases hes : es N1 W1 q ls st h with
          | none => rw [hes] at e; cases e
          | some x =>
            rw [hes] at e
            obtain ⟨x1, x2, x3⟩ := x
            have hs := es_ok (scr := scr) hes
            refine XA.blk [q] (e9 := nxP pc q) (ls' := x1) (st' := x2) (h' := cH x3) (ok := true) ?_ ?_ rfl (ih' _ _ _ _ _ _ _ e)
            · show (ck1 me.2.1 me.1 pc q && decide (nxP pc q = nxP pc q)) = true
              rw [hck, decide_eq_true rfl]
              rfl
            · unfold exA
              rw [hs]
              rfl
        · replace hck : (match q.1 with
            | .if_icmp .ge off => ckI me.1 pc (.if_icmp .ge off) off m'
            | _ => false) = true := hck
          split at hck
          · split at e
            · split at e
              · rename_i z
                exact XA.icmp_ge _ _ hck (fun _ => ih' _ _ _ _ _ _ _ e) (fun z2 => absurd z z2)
              · rename_i z
                exact XA.icmp_ge _ _ hck (fun z2 => absurd z2 z) (fun _ => ih' _ _ _ _ _ _ _ e)
            · cases e
          · cases hck
        · replace hck : (match q.1 with
            | .ifCond .eq off => ckI me.1 pc (.ifCond .eq off) off m'
            | _ => false) = true := hck
          split at hck
          · split at e
            · split at e
              · rename_i z
                exact XA.if_eq _ _ hck (fun _ => ih' _ _ _ _ _ _ _ e) (fun z2 => absurd z z2)
              · rename_i z
                exact XA.if_eq _ _ hck (fun z2 => absurd z2 z) (fun _ => ih' _ _ _ _ _ _ _ e)
            · cases e
          · cases hck
        · replace hck : ckRt me.1 pc .return_ = true := hck
          split at e
          · split at e
            · rename_i z
              cases e
              exact XA.ret none rfl hck (by rw [hrt]; exact trivial) z.1 z.2 ⟨rfl, rfl⟩
            · cases e
          · cases e
        · rename_i n0 n1 n2 n7
          split at hck
          · exact absurd rfl n0
          · exact absurd rfl n1
          · exact absurd rfl n2
          · exact absurd rfl n7
          cases hsp : spK kd st with
          | none => rw [hsp] at e; cases e
          | some x =>
            rw [hsp] at e
            obtain ⟨as, rest⟩ := x
            dsimp only at e
            cases hm' : P[m']? with
            | none => rw [hm'] at e; cases e
            | some me' =>
              rw [hm'] at e hck
              dsimp only at e hck
              split at e
              · rename_i z
                obtain ⟨h1, c1, c2⟩ := call as rest me' hm' z (by
                  cases hv : evR P f (h.1 + mc) (h.2.1 + ms) m' 0 (pdL (enL as) me'.1.2.2.1) [] h with
                  | none => rw [hv] at e; cases e
                  | some h1 =>
                    rw [hv] at e
                    dsimp only at e
                    split at e
                    · rename_i y
                      exact ⟨h1, rfl, y, e⟩
                    · cases e)
                obtain ⟨d1, d2⟩ := Bool.and_eq_true_iff.mp hck
                have d1 := of_decide_eq_true d1
                split at d2
                · obtain ⟨d3, d4⟩ := Bool.and_eq_true_iff.mp d2
                  obtain ⟨k, rfl, rfl⟩ := spK_3 hsp
                  exact XA.callI (as := []) d3 d4 rfl rfl z.1 d1 z.2.2.1 z.2.2.2.1 c1 c2
                · obtain ⟨d3, d4⟩ := Bool.and_eq_true_iff.mp d2
                  obtain ⟨k, v, rfl, rfl⟩ := spK_4 hsp
                  exact XA.callI (as := [v]) d3 d4 rfl rfl z.1 d1 z.2.2.1 z.2.2.2.1 c1 c2
                · obtain ⟨d3, d4⟩ := Bool.and_eq_true_iff.mp d2
                  obtain ⟨k, rfl, rfl⟩ := spK_5 hsp
                  exact XA.callV (as := []) d3 d4 (z.2.2.2.2 rfl) rfl rfl z.1 d1 z.2.2.1 z.2.2.2.1 c1 c2
                · obtain ⟨d3, d4⟩ := Bool.and_eq_true_iff.mp d2
                  obtain ⟨x, y, rfl, rfl⟩ := spK_6 hsp
                  exact XA.callS (as := [x, y]) d3 d4 rfl rfl z.1 d1 z.2.2.1 z.2.2.2.1 c1 c2
                · cases d2
              · cases e
