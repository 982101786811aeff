/-! the reference's plans -/
theorem MT.st {σ : Sg} {T : TT} (h : MT σ T) (a v : Nat) : MT (su σ 140 a (nI v)) (stT T a v) := by
  refine ⟨by rw [su_nr _ _ _ _ (by omega)]; exact h.1, fun x hx => ?_⟩
  obtain ⟨c1, c2, c3, c4, c5⟩ := h.2 x hx
  refine ⟨by rw [su_nr _ _ _ _ (by omega)]; exact c1, by rw [su_nr _ _ _ _ (by omega)]; exact c2, ?_, by rw [su_nr _ _ _ _ (by omega)]; exact c4, by rw [su_nr _ _ _ _ (by omega)]; exact c5⟩
  show _ = nI (if x = a then v else tst T x)
  by_cases z : x = a
  · rw [if_pos z, z, su_eq]
  · rw [if_neg z, su_nc _ _ _ _ z]; exact c3
theorem MT.we {σ : Sg} {T : TT} (h : MT σ T) (a v : Nat) : MT (su σ 139 a (nI v)) (weT T a v) := by
  refine ⟨by rw [su_nr _ _ _ _ (by omega)]; exact h.1, fun x hx => ?_⟩
  obtain ⟨c1, c2, c3, c4, c5⟩ := h.2 x hx
  refine ⟨by rw [su_nr _ _ _ _ (by omega)]; exact c1, ?_, by rw [su_nr _ _ _ _ (by omega)]; exact c3, by rw [su_nr _ _ _ _ (by omega)]; exact c4, by rw [su_nr _ _ _ _ (by omega)]; exact c5⟩
  show _ = nI (if x = a then v else twe T x)
  by_cases z : x = a
  · rw [if_pos z, z, su_eq]
  · rw [if_neg z, su_nc _ _ _ _ z]; exact c2
theorem MT.co {σ : Sg} {T : TT} (h : MT σ T) (a v : Nat) : MT (su σ 141 a (nI v)) (coT T a v) := by
  refine ⟨by rw [su_nr _ _ _ _ (by omega)]; exact h.1, fun x hx => ?_⟩
  obtain ⟨c1, c2, c3, c4, c5⟩ := h.2 x hx
  refine ⟨by rw [su_nr _ _ _ _ (by omega)]; exact c1, by rw [su_nr _ _ _ _ (by omega)]; exact c2, by rw [su_nr _ _ _ _ (by omega)]; exact c3, ?_, by rw [su_nr _ _ _ _ (by omega)]; exact c5⟩
  show _ = nI (if x = a then v else tco T x)
  by_cases z : x = a
  · rw [if_pos z, z, su_eq]
  · rw [if_neg z, su_nc _ _ _ _ z]; exact c4
theorem MT.sw {σ : Sg} {T : TT} (h : MT σ T) {a b : Nat} (ha : a < tn T) (hb : b < tn T) (hab : a ≠ b) : MT (su (su σ 142 a (nI (tpl T b))) 142 b (nI (tpl T a))) (swT T a b) := by
  refine ⟨by rw [su_nr _ _ _ _ (by omega), su_nr _ _ _ _ (by omega)]; exact h.1, fun x hx => ?_⟩
  obtain ⟨c1, c2, c3, c4, c5⟩ := h.2 x hx
  refine ⟨by rw [su_nr _ _ _ _ (by omega), su_nr _ _ _ _ (by omega)]; exact c1, by rw [su_nr _ _ _ _ (by omega), su_nr _ _ _ _ (by omega)]; exact c2, by rw [su_nr _ _ _ _ (by omega), su_nr _ _ _ _ (by omega)]; exact c3, by rw [su_nr _ _ _ _ (by omega), su_nr _ _ _ _ (by omega)]; exact c4, ?_⟩
  show _ = nI (if x = a then tpl T b else if x = b then tpl T a else tpl T x)
  by_cases z : x = a
  · rw [if_pos z, z, su_nc _ _ _ _ hab, su_eq]
  · rw [if_neg z]
    by_cases y : x = b
    · rw [if_pos y, y, su_eq]
    · rw [if_neg y, su_nc _ _ _ _ y, su_nc _ _ _ _ z]; exact c5
theorem coT_co (T : TT) (a v w : Nat) : coT (coT T a v) a w = coT T a w := by
  have e1 : (fun x => if x = a then w else tco (coT T a v) x) = fun x => if x = a then w else tco T x := by
    funext x
    by_cases z : x = a
    · rw [if_pos z, if_pos z]
    · rw [if_neg z, if_neg z]
      show (if x = a then v else tco T x) = tco T x
      rw [if_neg z]
  show (tn T, tso T, twe T, tst T, (fun x => if x = a then w else tco (coT T a v) x), tpl T) = _
  rw [e1]
  rfl
theorem coT_id (T : TT) (a : Nat) : coT T a (tco T a) = T := by
  have e1 : (fun x => if x = a then tco T a else tco T x) = tco T := by
    funext x
    by_cases z : x = a
    · rw [if_pos z, z]
    · rw [if_neg z]
  show (tn T, tso T, twe T, tst T, (fun x => if x = a then tco T a else tco T x), tpl T) = _
  rw [e1]
  rfl
theorem weT_id (T : TT) (a : Nat) : weT T a (twe T a) = T := by
  have e1 : (fun x => if x = a then twe T a else twe T x) = twe T := by
    funext x
    by_cases z : x = a
    · rw [if_pos z, z]
    · rw [if_neg z]
  show (tn T, tso T, (fun x => if x = a then twe T a else twe T x), tst T, tco T, tpl T) = _
  rw [e1]
  rfl
def enC (cd : Nat × Nat × Nat → Nat) (B : BB) : Int32 := match B with
  | none => -1
  | some t => nI (cd t)
def BM (σ : Sg) (cd : Nat × Nat × Nat → Nat) (B : BB) : Prop := σ 136 40 = enC cd B ∧ σ 136 41 = enA B
def frT (σ σ' : Sg) : Prop := ∀ a c, ¬ (149 ≤ a ∧ a ≤ 161) → ¬ (a = 136 ∧ ((17 ≤ c ∧ c ≤ 26) ∨ c = 40 ∨ c = 41)) → σ' a c = σ a c
theorem frT.W {σ σ' : Sg} (h : frT σ σ') : frW σ σ' := fun a c z1 z2 z3 z4 z5 => h a c (by omega) (fun q => by have := z5 q.1; omega)
theorem frT.T {σ σ' : Sg} {T : TT} (h : frT σ σ') (hC : MT σ T) : MT σ' T := hC.fr (h 136 2 (by omega) (by omega)) fun a z1 z2 => funext fun c => h a c (by omega) (by omega)
theorem frT.E {σ σ' : Sg} {E : EE} {N : Nat} (h : frT σ σ') (hC : ME σ E N) : ME σ' E N := hC.fr (h 136 12 (by omega) (by omega)) (h 136 16 (by omega) (by omega)) fun a z1 z2 => funext fun c => h a c (by omega) (by omega)
theorem ME.ws {σ : Sg} {E : EE} {N : Nat} (h : ME σ E N) {k j : Nat} {v : Int32} (hk : 138 ≤ k ∧ k ≤ 142) : ME (su σ k j v) E N := h.fr (by rw [su_nr _ _ _ _ (by omega)]) (by rw [su_nr _ _ _ _ (by omega)]) fun a z1 z2 => by rw [su_off _ _ _ _ (by omega)]
theorem BM.ws {σ : Sg} {cd : Nat × Nat × Nat → Nat} {B : BB} (h : BM σ cd B) {k j : Nat} {v : Int32} (hk : 138 ≤ k ∧ k ≤ 142) : BM (su σ k j v) cd B := by
  unfold BM
  rw [su_nr _ _ _ _ (by omega), su_nr _ _ _ _ (by omega)]
  exact h
theorem ct_tries (scr : ScA) (σ : Sg) {T : TT} (hT : TW T) (hC : MT σ T) {E : EE} (hE : EW E) (hV : ME σ E 0) {cd : Nat × Nat × Nat → Nat} {B : BB} (hB : BM σ cd B) (hW : BW B) (x y : Nat) {p : Nat} (hp : cd (x, y, sta T E (alB E)) = p) : CvA scr 4 mX11_tries [.ref 136, .int (nI p)] σ (fun σ' => BM σ' cd (offB B (x, y, sta T E (alB E))) ∧ frT σ σ') := by
  have hl := sta_le T E (alB E)
  refine E_X11_tries (W_X11_tries_0 ((ct_runs scr σ hT hC hE (N := 0) (ch := alB E) (by omega) (fun i hi => by rw [alB_bit hi, Nat.zero_testBit]; rfl) hV).weak fun s1 ⟨S1, N1, f1⟩ => W_X11_tries_4 fun s2 e2 s3 e3 => ?_))
  have w17 : s1 136 17 = nI (sta T E (alB E)) := N1.2.2.1
  have w40 : s1 136 40 = enC cd B := by rw [f1 136 40 (by omega) (by omega)]; exact hB.1
  have w41 : s1 136 41 = enA B := by rw [f1 136 41 (by omega) (by omega)]; exact hB.2
  have v17 : s2 136 17 = nI (sta T E (alB E)) := by rw [e2, su_nc _ _ _ _ (by omega)]; exact w17
  have v41 : s2 136 41 = enA B := by rw [e2, su_nc _ _ _ _ (by omega)]; exact w41
  rw [w17, w40, w41] at e2
  rw [v17, v41] at e3
  refine ⟨⟨?_, ?_⟩, fun a c z1 z2 => ?_⟩
  · rw [e3, su_nc _ _ _ _ (by omega), e2, su_eq]
    cases B with
    | none =>
      rw [if_neg (show ¬ nI (sta T E (alB E)) ≤ enA none by
        intro h
        have h' : nI (sta T E (alB E)) ≤ (-1 : Int32) := h
        have h2 := Int32.le_iff_toInt_le.mp h'
        rw [show (-1 : Int32).toInt = -1 by decide] at h2
        have h3 : (0 : Int32) ≤ nI (sta T E (alB E)) := by rw [show (0 : Int32) = nI 0 from rfl, nI_le' (by omega) (by omega)]; omega
        have h4 := Int32.le_iff_toInt_le.mp h3
        rw [show (0 : Int32).toInt = 0 by decide] at h4
        omega)]
      show nI p = nI (cd (x, y, sta T E (alB E)))
      rw [hp]
    | some u =>
      have hu := hW u rfl
      have q : nI (sta T E (alB E)) ≤ enA (some u) ↔ ¬ u.2.2 < sta T E (alB E) := by
        show nI (sta T E (alB E)) ≤ nI u.2.2 ↔ _
        rw [nI_le' (by omega) (by omega)]
        omega
      by_cases z : u.2.2 < sta T E (alB E)
      · rw [if_neg (fun y => q.mp y z)]
        show nI p = enC cd (if u.2.2 < sta T E (alB E) then some (x, y, sta T E (alB E)) else some u)
        rw [if_pos z]
        show nI p = nI (cd (x, y, sta T E (alB E)))
        rw [hp]
      · rw [if_pos (q.mpr z)]
        show _ = enC cd (if u.2.2 < sta T E (alB E) then some (x, y, sta T E (alB E)) else some u)
        rw [if_neg z]
  · rw [e3, su_eq]
    cases B with
    | none =>
      rw [if_neg (show ¬ nI (sta T E (alB E)) ≤ enA none by
        intro h
        have h' : nI (sta T E (alB E)) ≤ (-1 : Int32) := h
        have h2 := Int32.le_iff_toInt_le.mp h'
        rw [show (-1 : Int32).toInt = -1 by decide] at h2
        have h3 : (0 : Int32) ≤ nI (sta T E (alB E)) := by rw [show (0 : Int32) = nI 0 from rfl, nI_le' (by omega) (by omega)]; omega
        have h4 := Int32.le_iff_toInt_le.mp h3
        rw [show (0 : Int32).toInt = 0 by decide] at h4
        omega)]
      rfl
    | some u =>
      have hu := hW u rfl
      have q : nI (sta T E (alB E)) ≤ enA (some u) ↔ ¬ u.2.2 < sta T E (alB E) := by
        show nI (sta T E (alB E)) ≤ nI u.2.2 ↔ _
        rw [nI_le' (by omega) (by omega)]
        omega
      by_cases z : u.2.2 < sta T E (alB E)
      · rw [if_neg (fun y => q.mp y z)]
        show _ = enA (if u.2.2 < sta T E (alB E) then some (x, y, sta T E (alB E)) else some u)
        rw [if_pos z]
        rfl
      · rw [if_pos (q.mpr z)]
        show _ = enA (if u.2.2 < sta T E (alB E) then some (x, y, sta T E (alB E)) else some u)
        rw [if_neg z]
  · by_cases z : a = 136
    · rw [e3, su_nc _ _ _ _ (by omega), e2, su_nc _ _ _ _ (by omega)]
      exact f1 a c (by omega) (by omega)
    · rw [e3, su_nr _ _ _ _ z, e2, su_nr _ _ _ _ z]
      exact f1 a c (by omega) (by omega)
theorem ct_starts (scr : ScA) (σ : Sg) {b : AB} (hR : RM σ b) (cd : Nat × Nat × Nat → Nat) : CvA scr 6 mX11_starts [.ref 136] σ (fun σ' => MT σ' (aT b) ∧ ME σ' (aE b) 0 ∧ BM σ' cd none ∧ frW σ σ') := by
  refine E_X11_starts (W_X11_starts_0 ((ct_asTold scr σ hR).weak fun s1 ⟨M1, E1, f1⟩ => W_X11_starts_4 fun s2 e2 s3 e3 => ?_))
  have fr : frT s1 s3 := fun a c z1 z2 => by
    by_cases z : a = 136
    · rw [e3, su_nc _ _ _ _ (by omega), e2, su_nc _ _ _ _ (by omega)]
    · rw [e3, su_nr _ _ _ _ z, e2, su_nr _ _ _ _ z]
  refine ⟨fr.T M1, fr.E E1, ⟨?_, ?_⟩, f1.tr fr.W⟩
  · rw [e3, su_nc _ _ _ _ (by omega), e2, su_eq]; rfl
  · rw [e3, su_eq]; rfl
theorem qi_come (scr : ScA) (b : AB) {x w : Int32} (z1 : ¬ isW x (nI (tn (aT b))) = 0) (z2 : ¬ isW w 2 = 0) : QI scr 7 mX11_comeOf [.ref 136, .int x, .int w] b (sv_come b x w) := by
  intro σ hR
  have h10 := hR.1.T.1
  have hE := hR.1.2.2.1
  unfold sv_come
  rw [if_neg (fun z => z.elim z1 z2)]
  obtain ⟨a, ha, rfl, -⟩ := (isW_or x (by omega)).resolve_left z1
  rw [tN_nI (by omega)]
  have ib : inB (nI a) 11 = true := inB_nI (by omega) (by decide)
  refine E_X11_comeOf (W_X11_comeOf_0 ((ct_starts scr σ hR (fun t => t.1)).weak fun s1 ⟨M1, E1, B1, f1⟩ => W_X11_comeOf_4 ⟨ib, ?_⟩))
  rw [tN_nI (by omega), (M1.2 a ha).2.2.2.1]
  have key : ∀ (j m : Nat) (s : Sg) (v : Nat), m + j = 24 → MT s (coT (aT b) a v) → ME s (aE b) 0 → BM s (fun t => t.1) (coO (aT b) (aE b) a m) → frW σ s → K_X11_comeOf_14 scr (nI a) w (nI (tco (aT b) a)) (nI m) s (fun r σ' => r = (if ¬ w = 0 then enA (coB (aT b) (aE b) a) else enF (coB (aT b) (aE b) a)) ∧ MT σ' (aT b) ∧ frW σ σ') := by
    intro j
    induction j with
    | zero =>
      intro m s v hm M E B f
      have : m = 24 := by omega
      subst this
      refine W_X11_comeOf_14 ⟨fun _ => ⟨ib, fun s2 e2 => ?_⟩, fun h => absurd (Int32.le_refl _) h⟩
      rw [tN_nI (by omega)] at e2
      have B2 := B.ws (k := 141) (j := a) (v := nI (tco (aT b) a)) (by omega)
      rw [← e2] at B2
      refine ⟨?_, ?_, f.tr (by rw [e2]; exact su_W _ _ _ _ (by omega))⟩
      · rw [B2.1, B2.2]
        have e : enC (fun t => t.1) (coO (aT b) (aE b) a 24) = enF (coB (aT b) (aE b) a) := by
          show _ = enF (coO (aT b) (aE b) a 24)
          cases coO (aT b) (aE b) a 24 <;> rfl
        rw [e]
        rfl
      · have := M.co a (tco (aT b) a)
        rw [← e2, coT_co, coT_id] at this
        exact this
    | succ j ih =>
      intro m s v hm M E B f
      refine W_X11_comeOf_14 ⟨fun h => ?_, fun _ => ⟨ib, fun s2 e2 => ?_⟩⟩
      · rw [c24, nI_le' (by omega) (by omega)] at h
        omega
      rw [tN_nI (by omega)] at e2
      have M2 := M.co a m
      rw [← e2, coT_co] at M2
      have E2 := E.ws (k := 141) (j := a) (v := nI m) (by omega)
      have B2 := B.ws (k := 141) (j := a) (v := nI m) (by omega)
      rw [← e2] at B2 E2
      refine (ct_tries scr s2 (coT_W hR.1.T (a := a) (v := m) (by omega)) M2 hE E2 B2 (coO_W m) m 10 (p := m) rfl).weak fun s3 ⟨B3, f3⟩ => W_X11_comeOf_35 ?_
      rw [nI_add1]
      exact ih (m + 1) s3 m (by omega) (f3.T M2) (f3.E E2) B3 ((f.tr (by rw [e2]; exact su_W _ _ _ _ (by omega))).tr f3.W)
  exact key 24 0 s1 (tco (aT b) a) (by omega) (by rw [coT_id]; exact M1) E1 B1 f1
theorem om_come (scr : ScA) (b : AB) (x w : Int32) : OkM scr 8 mX11_come [.ref 136, .int x, .int w] b (qb (sv_come b x w) b) := by
  intro σ hR
  have bad : ∀ s, frW σ s → isW x (nI (tn (aT b))) = 0 ∨ isW w 2 = 0 → (-2 : Int32) = (qb (sv_come b x w) b).1 ∧ RM s (qb (sv_come b x w) b).2 ∧ ∀ a, a < 136 → s a = σ a := fun s hf h => bad_m hR (by unfold sv_come; rw [if_pos h]) hf
  refine E_X11_come (W_X11_come_0 ((ct_isAcrobat scr σ hR x).weak fun r s ⟨h1, h2, h3⟩ => W_X11_come_5 ?_))
  rw [in2, h1]
  exact ⟨fun z => bad s h3 (Or.inl z), fun z1 => ⟨fun z => bad s h3 (Or.inr z), fun z2 => (qi_come scr b z1 z2 s (h3.rm hR)).weak fun r2 s2 ⟨g1, g2, g3⟩ => W_X11_come_21 ⟨g1, (h3.tr g3).rm hR, (h3.tr g3).lo⟩⟩⟩
theorem up9_ref {s : Nat} (h : s ≤ 9) : (if ¬ nI s = 9 then nI s + 1 else 9 : Int32) = nI (up9 s) := by
  unfold up9
  rw [nI_add1]
  have q : nI s = 9 ↔ s = 9 := by rw [show (9 : Int32) = nI 9 from rfl, nI_inj (by omega) (by omega)]
  by_cases z : s + 1 < 9
  · rw [if_pos (fun y => by have := q.mp y; omega), if_pos z]
  · rw [if_neg z]
    by_cases y : s = 9
    · rw [if_neg (fun t => t (q.mpr y))]; rfl
    · rw [if_pos (fun t => y (q.mp t)), show s + 1 = 9 by omega]
theorem qi_train (scr : ScA) (b : AB) {w : Int32} (z : ¬ isW w 2 = 0) : QI scr 7 mX11_trainOf [.ref 136, .int w] b (sv_train b w) := by
  intro σ hR
  have h10 := hR.1.T.1
  have hE := hR.1.2.2.1
  unfold sv_train
  rw [if_neg z]
  refine E_X11_trainOf (W_X11_trainOf_0 ((ct_starts scr σ hR (fun t => t.1)).weak fun s1 ⟨M1, E1, B1, f1⟩ => W_X11_trainOf_4 ?_))
  have key : ∀ (j a : Nat) (s : Sg), a + j = tn (aT b) → MT s (aT b) → ME s (aE b) 0 → BM s (fun t => t.1) (trnO (aT b) (aE b) a) → frW σ s → K_X11_trainOf_6 scr w (nI a) s (fun r σ' => r = (if ¬ w = 0 then enA (trB (aT b) (aE b)) else enF (trB (aT b) (aE b))) ∧ MT σ' (aT b) ∧ frW σ σ') := by
    intro j
    induction j with
    | zero =>
      intro a s ha M E B f
      have : a = tn (aT b) := by omega
      subst this
      refine W_X11_trainOf_6 ⟨fun _ => ⟨?_, M, f⟩, fun h => absurd (by rw [M.1]; exact Int32.le_refl _) h⟩
      rw [B.1, B.2]
      have e : enC (fun t => t.1) (trnO (aT b) (aE b) (tn (aT b))) = enF (trB (aT b) (aE b)) := by
        show _ = enF (trnO (aT b) (aE b) (tn (aT b)))
        cases trnO (aT b) (aE b) (tn (aT b)) <;> rfl
      rw [e]
      rfl
    | succ j ih =>
      intro a s ha M E B f
      have ib : inB (nI a) 11 = true := inB_nI (by omega) (by decide)
      refine W_X11_trainOf_6 ⟨fun h => ?_, fun _ => ⟨ib, fun s2 e2 => ?_⟩⟩
      · rw [M.1, nI_le' (by omega) (by omega)] at h
        omega
      obtain ⟨b1, b2, b3, b4, b5, b6, b7⟩ := hR.1.T.2.1 a (by omega)
      have hst : tst (aT b) a ≤ 9 := by omega
      have hst1 : 1 ≤ tst (aT b) a := by omega
      have hup : 1 ≤ up9 (tst (aT b) a) ∧ up9 (tst (aT b) a) ≤ 9 := by unfold up9; split <;> omega
      rw [tN_nI (by omega), (M.2 a (by omega)).2.2.1, up9_ref hst] at e2
      rw [tN_nI (by omega), (M.2 a (by omega)).2.2.1]
      have M2 := M.st a (up9 (tst (aT b) a))
      have E2 := E.ws (k := 140) (j := a) (v := nI (up9 (tst (aT b) a))) (by omega)
      have B2 := B.ws (k := 140) (j := a) (v := nI (up9 (tst (aT b) a))) (by omega)
      rw [← e2] at M2 B2 E2
      refine (ct_tries scr s2 (stT_W hR.1.T (a := a) hup.1 hup.2) M2 hE E2 B2 (trnO_W a) a 10 (p := a) rfl).weak fun s3 ⟨B3, f3⟩ => W_X11_trainOf_46 ⟨ib, fun s4 e4 => ?_⟩
      rw [tN_nI (by omega)] at e4
      have M4 := (f3.T M2).st a (tst (aT b) a)
      rw [← e4, stT_st, stT_id] at M4
      have E4 := (f3.E E2).ws (k := 140) (j := a) (v := nI (tst (aT b) a)) (by omega)
      have B4 := B3.ws (k := 140) (j := a) (v := nI (tst (aT b) a)) (by omega)
      rw [← e4] at B4 E4
      rw [nI_add1]
      exact ih (a + 1) s4 (by omega) M4 E4 B4 (((f.tr (by rw [e2]; exact su_W _ _ _ _ (by omega))).tr f3.W).tr (by rw [e4]; exact su_W _ _ _ _ (by omega)))
  exact key (tn (aT b)) 0 s1 (by omega) M1 E1 B1 f1
theorem om_train (scr : ScA) (b : AB) (w : Int32) : OkM scr 8 mX11_train [.ref 136, .int w] b (qb (sv_train b w) b) := by
  intro σ hR
  refine E_X11_train (W_X11_train_0 ?_)
  rw [in2]
  exact ⟨fun z => bad_m hR (by unfold sv_train; rw [if_pos z]) (frW.refl σ), fun z => (qi_train scr b z σ hR).weak fun r2 s2 ⟨g1, g2, g3⟩ => W_X11_train_12 ⟨g1, g3.rm hR, g3.lo⟩⟩
/-- swaps: two numbers in one -/
def cdW (t : Nat × Nat × Nat) : Nat := 10 * t.1 + t.2.1
def B10 (B : BB) : Prop := ∀ u, B = some u → u.1 < 10 ∧ u.2.1 < 10
theorem B10.off {B : BB} (h : B10 B) {t : Nat × Nat × Nat} (ht : t.1 < 10 ∧ t.2.1 < 10) : B10 (offB B t) := by
  intro u hu
  cases B with
  | none => cases hu; exact ht
  | some w =>
    have hu' : (if w.2.2 < t.2.2 then some t else some w) = some u := hu
    split at hu'
    · cases hu'; exact ht
    · exact h u hu'
theorem swJ_10 {T : TT} {E : EE} {a : Nat} {B : BB} (h10 : tn T ≤ 10) (h : B10 B) : ∀ j, a + 1 + j ≤ tn T → B10 (swJ T E a B j)
  | 0, _ => h
  | j + 1, hj => (swJ_10 h10 h j (by omega)).off ⟨by show a < 10; omega, by show a + 1 + j < 10; omega⟩
theorem swpO_10 {T : TT} {E : EE} (h10 : tn T ≤ 10) : ∀ a, a ≤ tn T → B10 (swpO T E a)
  | 0, _ => fun u h => by cases h
  | a + 1, ha => swJ_10 h10 (swpO_10 h10 a (by omega)) (tn T - (a + 1)) (by omega)
theorem sw_val {B : BB} (h : B10 B) (w : Int32) : (if ¬ (enC cdW B) = (-1) then (if ¬ w = 0 then (if ¬ w = 1 then enA B else (enC cdW B) - (enC cdW B) / 10 * 10 : Int32) else (enC cdW B) / 10 : Int32) else (-1) : Int32) = if w = 0 then enF B else if w = 1 then enS B else enA B := by
  cases B with
  | none =>
    show (if ¬ (-1 : Int32) = (-1) then _ else (-1) : Int32) = if w = 0 then (-1) else if w = 1 then (-1) else (-1)
    rw [if_neg (fun y => y rfl)]
    split
    · rfl
    · split <;> rfl
  | some t =>
    obtain ⟨h1, h2⟩ := h t rfl
    have e1 : enC cdW (some t) = nI (10 * t.1 + t.2.1) := rfl
    rw [e1, if_pos (nI_m1_ne (by omega)), c10, pk_rem (by omega) (by omega) (by omega), pk_div (by omega) (by omega) (by omega), show (10 * t.1 + t.2.1) % 10 = t.2.1 by omega, show (10 * t.1 + t.2.1) / 10 = t.1 by omega]
    have e2 : enS (some t) = nI t.2.1 := by
      show nbI t.2.1 = _
      unfold nbI
      rw [if_neg (by omega)]
    rw [e2]
    by_cases z0 : w = 0
    · rw [if_neg (fun y => y z0), if_pos z0]; rfl
    · rw [if_pos z0, if_neg z0]
      by_cases z1 : w = 1
      · rw [if_neg (fun y => y z1), if_pos z1]
      · rw [if_pos z1, if_neg z1]
theorem qi_swap (scr : ScA) (b : AB) {w : Int32} (z : ¬ isW w 3 = 0) : QI scr 7 mX11_swapOf [.ref 136, .int w] b (sv_swap b w) := by
  intro σ hR
  have h10 := hR.1.T.1
  have hE := hR.1.2.2.1
  unfold sv_swap
  rw [if_neg z]
  refine E_X11_swapOf (W_X11_swapOf_0 ((ct_starts scr σ hR cdW).weak fun s1 ⟨M1, E1, B1, f1⟩ => W_X11_swapOf_4 ?_))
  have key : ∀ (j a : Nat) (s : Sg), a + j = tn (aT b) → MT s (aT b) → ME s (aE b) 0 → BM s cdW (swpO (aT b) (aE b) a) → frW σ s → K_X11_swapOf_6 scr w (nI a) s (fun r σ' => r = (if w = 0 then enF (swB (aT b) (aE b)) else if w = 1 then enS (swB (aT b) (aE b)) else enA (swB (aT b) (aE b))) ∧ MT σ' (aT b) ∧ frW σ σ') := by
    intro j
    induction j with
    | zero =>
      intro a s ha M E B f
      have : a = tn (aT b) := by omega
      subst this
      refine W_X11_swapOf_6 ⟨fun _ => ⟨?_, M, f⟩, fun h => absurd (by rw [M.1]; exact Int32.le_refl _) h⟩
      rw [B.1, B.2]
      exact sw_val (swpO_10 h10 _ (Nat.le_refl _)) w
    | succ j ih =>
      intro a s ha M E B f
      refine W_X11_swapOf_6 ⟨fun h => ?_, fun _ => ?_⟩
      · rw [M.1, nI_le' (by omega) (by omega)] at h
        omega
      have ia : inB (nI a) 11 = true := inB_nI (by omega) (by decide)
      have inn : ∀ (r i : Nat) (s : Sg), i + r = tn (aT b) - (a + 1) → MT s (aT b) → ME s (aE b) 0 → BM s cdW (swJ (aT b) (aE b) a (swpO (aT b) (aE b) a) i) → frW σ s → K_X11_swapOf_18 scr w (nI a) (nI (a + 1 + i)) s (fun r σ' => r = (if w = 0 then enF (swB (aT b) (aE b)) else if w = 1 then enS (swB (aT b) (aE b)) else enA (swB (aT b) (aE b))) ∧ MT σ' (aT b) ∧ frW σ σ') := by
        intro r
        induction r with
        | zero =>
          intro i s hi M E B f
          have : i = tn (aT b) - (a + 1) := by omega
          subst this
          refine W_X11_swapOf_18 ⟨fun _ => ?_, fun h => absurd (by rw [M.1, show a + 1 + (tn (aT b) - (a + 1)) = tn (aT b) by omega]; exact Int32.le_refl _) h⟩
          rw [nI_add1]
          exact ih (a + 1) s (by omega) M E B f
        | succ r ih2 =>
          intro i s hi M E B f
          have ib : inB (nI (a + 1 + i)) 11 = true := inB_nI (by omega) (by decide)
          refine W_X11_swapOf_18 ⟨fun h => ?_, fun _ => ⟨ia, ib, fun s2 e2 s3 e3 => ?_⟩⟩
          · rw [M.1, nI_le' (by omega) (by omega)] at h
            omega
          have pa := (M.2 a (by omega)).2.2.2.2
          have pb := (M.2 (a + 1 + i) (by omega)).2.2.2.2
          rw [tN_nI (by omega), tN_nI (by omega), pb] at e2
          rw [tN_nI (by omega), tN_nI (by omega), pa] at e3
          rw [tN_nI (by omega), tN_nI (by omega), pa, pb, c10, pk_mul, nI_add]
          have M3 := M.sw (a := a) (b := a + 1 + i) (by omega) (by omega) (by omega)
          rw [← e2, ← e3] at M3
          have E3 := (E.ws (k := 142) (j := a) (v := nI (tpl (aT b) (a + 1 + i))) (by omega)).ws (k := 142) (j := a + 1 + i) (v := nI (tpl (aT b) a)) (by omega)
          have B3 := (B.ws (k := 142) (j := a) (v := nI (tpl (aT b) (a + 1 + i))) (by omega)).ws (k := 142) (j := a + 1 + i) (v := nI (tpl (aT b) a)) (by omega)
          rw [← e2, ← e3] at E3 B3
          refine (ct_tries scr s3 (swT_W hR.1.T (a := a) (b := a + 1 + i) (by omega) (by omega)) M3 hE E3 B3 (swJ_W (swpO_W a) i) a (a + 1 + i) (p := 10 * a + (a + 1 + i)) rfl).weak fun s4 ⟨B4, f4⟩ => W_X11_swapOf_68 ⟨ia, fun s5 e5 => ⟨ib, fun s6 e6 => ?_⟩⟩
          rw [tN_nI (by omega)] at e5 e6
          have M6 := (f4.T M3).sw (a := a) (b := a + 1 + i) (show a < tn (aT b) by omega) (show a + 1 + i < tn (aT b) by omega) (by omega)
          have t1 : tpl (swT (aT b) a (a + 1 + i)) (a + 1 + i) = tpl (aT b) a := by rw [swT_tpl, if_neg (by omega), if_pos rfl]
          have t2 : tpl (swT (aT b) a (a + 1 + i)) a = tpl (aT b) (a + 1 + i) := by rw [swT_tpl, if_pos rfl]
          rw [t1, t2, ← e5, ← e6, swT_swT (by omega)] at M6
          have E6 := ((f4.E E3).ws (k := 142) (j := a) (v := nI (tpl (aT b) a)) (by omega)).ws (k := 142) (j := a + 1 + i) (v := nI (tpl (aT b) (a + 1 + i))) (by omega)
          have B6 := (B4.ws (k := 142) (j := a) (v := nI (tpl (aT b) a)) (by omega)).ws (k := 142) (j := a + 1 + i) (v := nI (tpl (aT b) (a + 1 + i))) (by omega)
          rw [← e5, ← e6] at E6 B6
          rw [nI_add1]
          refine ih2 (i + 1) s6 (by omega) M6 E6 B6 ?_
          refine (((f.tr (σ'' := s2) ?_).tr (σ'' := s3) ?_).tr f4.W).tr (frW.tr (σ' := s5) ?_ ?_)
          · rw [e2]; exact su_W _ _ _ _ (by omega)
          · rw [e3]; exact su_W _ _ _ _ (by omega)
          · rw [e5]; exact su_W _ _ _ _ (by omega)
          · rw [e6]; exact su_W _ _ _ _ (by omega)
      rw [nI_add1]
      exact inn (tn (aT b) - (a + 1)) 0 s (by omega) M E B f
  exact key (tn (aT b)) 0 s1 (by omega) M1 E1 B1 f1
theorem om_swap (scr : ScA) (b : AB) (w : Int32) : OkM scr 8 mX11_swap [.ref 136, .int w] b (qb (sv_swap b w) b) := by
  intro σ hR
  refine E_X11_swap (W_X11_swap_0 ?_)
  rw [in3]
  exact ⟨fun z => bad_m hR (by unfold sv_swap; rw [if_pos z]) (frW.refl σ), fun z => (qi_swap scr b z σ hR).weak fun r2 s2 ⟨g1, g2, g3⟩ => W_X11_swap_12 ⟨g1, g3.rm hR, g3.lo⟩⟩
