/-! behind both constructors -/
theorem gA_mem : ∀ (L : List (Nat × Nat × Nat)) (a b t : Nat), gA L a b = some t → (a, b, t) ∈ L
  | [], _, _, _, h => by cases h
  | e :: L, a, b, t, h => by
    have es : gA (e :: L) a b = if a = e.1 ∧ b = e.2.1 then some e.2.2 else gA L a b := rfl
    rw [es] at h
    split at h
    · rename_i z
      cases h
      obtain ⟨e1, e2, e3⟩ := e
      obtain ⟨z1, z2⟩ := z
      cases z1; cases z2
      exact List.mem_cons_self
    · exact List.mem_cons_of_mem _ (gA_mem L a b t h)
def rO1 : Bool := L11.all (fun e => decide (R0 e.1 e.2.1 = some e.2.2))
def rO2 : Bool := (List.range 172).all (fun a => (List.range 60).all (fun j => match R0 a j with
  | none => true
  | some t => decide (gA L11 a j = some t)))
def rO3 : Bool := R0L.all (fun r => decide (r.length ≤ 60))
theorem rO1_ok : rO1 = true := by decide +kernel
theorem rO2_ok : rO2 = true := by decide +kernel
theorem rO3_ok : rO3 = true := by decide +kernel
theorem R0_bound {a j t : Nat} (h : R0 a j = some t) : a < 172 ∧ j < 60 := by
  unfold R0 at h
  have ha : a < R0L.length := by
    rcases Nat.lt_or_ge a R0L.length with q | q
    · exact q
    · rw [List.getD_eq_getElem?_getD, List.getD_eq_getElem?_getD, List.getElem?_eq_none q] at h
      cases h
  have hj : j < (R0L.getD a []).length := by
    rcases Nat.lt_or_ge j (R0L.getD a []).length with q | q
    · exact q
    · rw [List.getD_eq_getElem?_getD, List.getElem?_eq_none q] at h
      cases h
  have hm : R0L.getD a [] ∈ R0L := by
    rw [List.getD_eq_getElem?_getD, List.getElem?_eq_getElem ha]
    exact List.getElem_mem ha
  have h3 := of_decide_eq_true (List.all_eq_true.mp rO3_ok _ hm)
  have hl : R0L.length = 172 := by decide +kernel
  omega
theorem gA_R0 : gA L11 = R0 := by
  funext a j
  cases h : gA L11 a j with
  | some t =>
    have h1 := List.all_eq_true.mp rO1_ok _ (gA_mem _ _ _ _ h)
    exact (of_decide_eq_true h1).symm
  | none =>
    cases h2 : R0 a j with
    | none => rfl
    | some t =>
      obtain ⟨b1, b2⟩ := R0_bound h2
      have h3 := List.all_eq_true.mp (List.all_eq_true.mp rO2_ok a (List.mem_range.mpr b1)) j (List.mem_range.mpr b2)
      rw [h2] at h3
      have h4 := of_decide_eq_true h3
      rw [h] at h4
      cases h4
def b0 : AB := ((0, fun _ => 0), (0, fun _ => 0, fun _ => 0, fun _ => 0), (0, fun _ => 0, fun _ => 0, fun _ => 0), ((fun _ => true), (fun _ => 0), (fun _ => 0), fun _ _ => 0), 0)
theorem b0_W : AW b0 := ⟨by show 0 ≤ 59; omega, fun i hi => absurd hi (by show ¬ i < 0; omega), ⟨by show 0 ≤ 8; omega, fun i hi => absurd hi (by show ¬ i < 0; omega)⟩, ⟨by show 0 ≤ 8; omega, fun i hi => absurd hi (by show ¬ i < 0; omega)⟩, fun s hs => ⟨by show 0 < 3; omega, by show 0 ≤ 60; omega⟩⟩
theorem b0_T : tn (aT b0) = 0 := by decide +kernel
theorem b0_h : ∀ p, p < 10 → gI I11 9 p = hcI (aT b0) p := by decide +kernel
theorem b0_f : gI I11 0 11 = fauI (aB b0) (aL b0) := by decide +kernel
theorem b0_s : ∀ s, s < 4 → gI I11 (128 + 2 * s) 3 = 1 ∧ gI I11 (128 + 2 * s) 1 = 0 ∧ gI I11 (128 + 2 * s) 2 = 0 ∧ ∀ i, i < 60 → gI I11 (129 + 2 * s) i = 0 := by decide +kernel
theorem b0_m : ∀ s, s < 4 → gI I11 167 s = 0 ∧ gI I11 168 s = 0 ∧ gI I11 169 s = 0 ∧ ∀ i, i < 60 → gI I11 170 (60 * s + i) = 0 := by decide +kernel
theorem b0_C : RC (gI I11) b0 := by
  refine ⟨b0_W, ⟨⟨by decide, fun i hi => absurd hi (by show ¬ i < 0; omega)⟩, ⟨?_, fun a ha => ?_, fun p hp => b0_h p hp⟩, b0_f, ⟨by decide, fun i hi => absurd hi (by show ¬ i < 0; omega)⟩, ⟨by decide, fun i hi => absurd hi (by show ¬ i < 0; omega)⟩, fun s hs => b0_s s hs, by decide⟩, Or.inl (by decide), ⟨Or.inl (by decide), Or.inl (by decide), fun a ha => ?_⟩, ⟨Or.inl (by decide), fun a ha => ?_⟩, Or.inl (by decide)⟩
  · rw [b0_T]; decide
  · rw [b0_T] at ha; omega
  · rw [b0_T] at ha; omega
  · rw [b0_T] at ha; omega
theorem b0_M : RM (gI I11) b0 := ⟨b0_W, ⟨by decide, fun i hi => absurd hi (by show ¬ i < 0; omega)⟩, ⟨by decide, fun i hi => absurd hi (by show ¬ i < 0; omega)⟩, ⟨by decide, fun i hi => absurd hi (by show ¬ i < 0; omega)⟩, fun s hs => b0_m s hs, by decide⟩
theorem ct_init10 (scr : ScA) : CtA scr 3 mX10_init [.ref 0] (cH (1, 14, [], [])) 135 2589 (fun r hh => r = none ∧ hh = cH (136, 2603, L10, I10)) := by
  obtain ⟨me, h1, h2⟩ := ev_ok PT_ok scr _ _ _ _ _ _ _ _ _ run10
  cases h1
  exact CtA.of (by decide) (by decide) (XA.drop (pdL_le _ _) h2)
theorem ct_init11 (scr : ScA) : CtA scr 1 mX11_init [.ref 136] (cH (137, 2657, L10, I10)) 35 2048 (fun r hh => r = none ∧ hh = cH (172, 4705, L11, I11)) := by
  obtain ⟨me, h1, h2⟩ := ev_ok PT_ok scr _ _ _ _ _ _ _ _ _ run11
  cases h1
  exact CtA.of (by decide) (by decide) (XA.drop (pdL_le _ _) h2)
theorem XA.es1 {scr : ScA} {d : Nat} {M : MD} {N1 W1 pc : Nat} {ls ls' : LsA} {st st' : List Value} {h h' : Ch} {post : Option Value → Hp → Prop} (q : AI) (hc : ck1 d M pc q = true) (he : es N1 W1 q ls st h = some (ls', st', h')) (kk : XA scr d M N1 W1 (nxP pc q) ls' st' (cH h') post) : XA scr d M N1 W1 pc ls st (cH h) post := by
  refine XA.blk [q] (e9 := nxP pc q) (ls' := ls') (st' := st') (h' := cH h') (ok := true) ?_ ?_ rfl kk
  · show (ck1 d M pc q && decide (nxP pc q = nxP pc q)) = true
    rw [hc, decide_eq_true rfl]
    rfl
  · unfold exA
    rw [es_ok (scr := scr) he]
    rfl
theorem law_all (scr : ScA) (hn : scr.1 < 2 ^ 31) : XA scr 11 mL 172 4705 0 [some (.retAddr 4), none, none, none] [] (cH (0, 0, [], [])) (pI (fun r _ => r = 1)) := by
  refine XA.es1 (.new 7, 3, 10, 65, 82, 81, 0, 0) (by decide +kernel) (ls' := [some (.retAddr 4), none, none, none]) (st' := [.ref 0]) (h' := (1, 14, [], [])) rfl ?_
  refine XA.es1 (.dup, 1, 0, 0, 0, 0, 0, 0) (by decide +kernel) (ls' := [some (.retAddr 4), none, none, none]) (st' := [.ref 0, .ref 0]) (h' := (1, 14, [], [])) rfl ?_
  refine XA.callI (as := []) (rest := [.ref 0]) ci_X10_init (show lkB mL mX10_init 4 9 83 (.invokespecial 9) = true by decide +kernel) rfl rfl (by decide) (by decide) (by decide) (by decide) (ct_init10 scr) fun rv hh ⟨g1, g2⟩ => ?_
  subst g1
  subst g2
  refine ⟨rfl, rfl, ?_⟩
  refine XA.blk [(.astore_n 1, 1, 1, 0, 0, 0, 0, 0)] (e9 := 8) (ls' := [some (.retAddr 4), some (.ref 0), none, none]) (st' := []) (h' := cH (136, 2603, L10, I10)) (ok := true) (by decide +kernel) rfl rfl ?_
  refine XA.es1 (.new 10, 3, 11, 77, 888, 887, 0, 0) (by decide +kernel) (ls' := [some (.retAddr 4), some (.ref 0), none, none]) (st' := [.ref 136]) (h' := (137, 2657, L10, I10)) rfl ?_
  refine XA.es1 (.dup, 1, 0, 0, 0, 0, 0, 0) (by decide +kernel) (ls' := [some (.retAddr 4), some (.ref 0), none, none]) (st' := [.ref 136, .ref 136]) (h' := (137, 2657, L10, I10)) rfl ?_
  refine XA.callI (as := []) (rest := [.ref 136]) ci_X11_init (show lkB mL mX11_init 12 12 889 (.invokespecial 12) = true by decide +kernel) rfl rfl (by decide) (by decide) (by decide) (by decide) (ct_init11 scr) fun rv hh ⟨g1, g2⟩ => ?_
  subst g1
  subst g2
  refine ⟨rfl, rfl, ?_⟩
  refine XA.blk [(.astore_n 2, 1, 2, 0, 0, 0, 0, 0), (.iconst 0, 1, 0, 0, 0, 0, 0, 0), (.istore_n 3, 1, 3, 0, 0, 0, 0, 0)] (e9 := 18) (ls' := [some (.retAddr 4), some (.ref 0), some (.ref 136), some (.int 0)]) (st' := []) (h' := cH (172, 4705, L11, I11)) (ok := true) (by decide +kernel) rfl rfl ?_
  have h9 := law_run scr hn scr.1 0 (gI I11) b0 (by omega) (by omega) b0_C b0_M
  have e : cH (172, 4705, L11, I11) = hs (gI I11) := by
    show (172, 4705, S0, gA L11, gI I11) = (172, 4705, S0, R0, gI I11)
    rw [gA_R0]
  rw [e]
  exact h9
