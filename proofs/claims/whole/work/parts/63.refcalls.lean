/-! the reference's calls that tell -/
theorem om_type (scr : ScA) (b : AB) (x : Int32) : OkM scr 1 mX11_type [.ref 136, .int x] b (sp_type b x) := by
  intro σ hR
  obtain ⟨hW, ⟨b1, b2⟩, hE, hI, hS, hF⟩ := id hR
  have hl := hW.1
  unfold sp_type
  refine E_X11_type (W_X11_type_0 ?_)
  rw [in256, b1]
  have q : nI (aL b) = 59 ↔ aL b = 59 := by rw [show (59 : Int32) = nI 59 from rfl, nI_inj (by omega) (by omega)]
  refine ⟨fun h => ?_, fun h => ?_⟩
  · rw [if_neg h]
    obtain ⟨j, hj, hx, -⟩ := (isW_or x (n := 256) (by decide)).resolve_left h
    subst hx
    refine ⟨fun h2 => ?_, fun h2 => ?_⟩
    · have h3 : aL b < 59 := Nat.lt_of_le_of_ne hl (fun z => h2 (q.mpr z))
      rw [if_pos h3]
      refine ⟨inB_nI h3 (by decide), fun s1 e1 s2 e2 => ?_⟩
      rw [tN_nI (by omega)] at e1
      have w1 : s1 136 0 = nI (aL b) := by rw [e1, su_nr _ _ _ _ (by omega)]; exact b1
      rw [w1, nI_add1] at e2
      have hW' : AW (txA b (aL b + 1) (fun i => if i = aL b then Int32.toNatClampNeg (nI j) else aB b i)) := by
        refine ⟨by show aL b + 1 ≤ 59; omega, fun i hi => ?_, hW.2.2⟩
        show (if i = aL b then Int32.toNatClampNeg (nI j) else aB b i) < 256
        have hi' : i < aL b + 1 := hi
        split
        · rw [tN_nI (by omega)]; exact hj
        · exact hW.2.1 i (by omega)
      have o2 : ∀ a c, a ≠ 137 → (a = 136 → c ≠ 0) → s2 a c = σ a c := fun a c z1 z2 => by
        rw [e2]
        by_cases z : a = 136
        · rw [su_nc _ _ _ _ (z2 z), e1, su_nr _ _ _ _ z1]
        · rw [su_nr _ _ _ _ z, e1, su_nr _ _ _ _ z1]
      have r2 : ∀ a, a ≠ 137 → a ≠ 136 → s2 a = σ a := fun a z1 z2 => funext fun c => o2 a c z1 (fun z => absurd z z2)
      refine ⟨by rw [e2, su_eq], ⟨hW', ⟨by rw [e2, su_eq]; rfl, fun i hi => ?_⟩, ?_, ?_, fun s hs => ?_, ?_⟩, fun a ha => r2 a (by omega) (by omega)⟩
      · rw [e2, su_nr _ _ _ _ (by omega), e1]
        show _ = nI (if i = aL b then Int32.toNatClampNeg (nI j) else aB b i)
        have hi' : i < aL b + 1 := hi
        by_cases z : i = aL b
        · rw [if_pos z, z, su_eq, tN_nI (by omega)]
        · rw [if_neg z, su_nc _ _ _ _ z]
          exact b2 i (by omega)
      · rw [o2 136 8 (by omega) (by omega), r2 143 (by omega) (by omega), r2 144 (by omega) (by omega), r2 145 (by omega) (by omega)]; exact hE
      · rw [o2 136 43 (by omega) (by omega), r2 163 (by omega) (by omega), r2 164 (by omega) (by omega), r2 165 (by omega) (by omega)]; exact hI
      · rw [r2 167 (by omega) (by omega), r2 168 (by omega) (by omega), r2 169 (by omega) (by omega), r2 170 (by omega) (by omega)]; exact hS s hs
      · rw [o2 136 53 (by omega) (by omega)]; exact hF
    · rw [if_neg (show ¬ aL b < 59 by have := q.mp h2; omega)]
      exact ⟨rfl, hR, fun _ _ => rfl⟩
  · rw [if_pos h]
    exact ⟨rfl, hR, fun _ _ => rfl⟩
/-- one slot of the head changes -/
theorem RM.hd {σ : Sg} {b : AB} (h : RM σ b) {c : Nat} {v : Int32} {b' : AB} (hW : AW b') (h0 : TxM (su σ 136 c v) (aB b') (aL b')) (h1 : aE b' = aE b ∧ c ≠ 8 ∨ (su σ 136 c v 136 8 = nI (aE b').1 ∧ ∀ i, i < (aE b').1 → σ 143 i = nI ((aE b').2.1 i) ∧ σ 144 i = nI ((aE b').2.2.1 i) ∧ σ 145 i = nI ((aE b').2.2.2 i))) (h2 : aI b' = aI b ∧ c ≠ 43 ∨ (su σ 136 c v 136 43 = nI (aI b').1 ∧ ∀ i, i < (aI b').1 → σ 163 i = nI ((aI b').2.1 i) ∧ σ 164 i = nI ((aI b').2.2.1 i) ∧ σ 165 i = nI ((aI b').2.2.2 i))) (h3 : b'.2.2.2.1 = b.2.2.2.1) (h4 : su σ 136 c v 136 53 = aF b') : RM (su σ 136 c v) b' ∧ ∀ a, a < 136 → su σ 136 c v a = σ a := by
  obtain ⟨-, -, hE, hI, hS, -⟩ := h
  have r : ∀ a, a ≠ 136 → su σ 136 c v a = σ a := fun a z => su_off _ _ _ _ z
  refine ⟨⟨hW, h0, ?_, ?_, fun s hs => ?_, h4⟩, fun a ha => r a (by omega)⟩
  · rw [r 143 (by omega), r 144 (by omega), r 145 (by omega)]
    rcases h1 with ⟨h1, z⟩ | h1
    · rw [h1, su_nc _ _ _ _ (Ne.symm z)]; exact hE
    · exact h1
  · rw [r 163 (by omega), r 164 (by omega), r 165 (by omega)]
    rcases h2 with ⟨h2, z⟩ | h2
    · rw [h2, su_nc _ _ _ _ (Ne.symm z)]; exact hI
    · exact h2
  · rw [r 167 (by omega), r 168 (by omega), r 169 (by omega), r 170 (by omega)]
    have e1 : aLo b' = aLo b := by unfold aLo; rw [h3]
    have e2 : aFo b' = aFo b := by unfold aFo; rw [h3]
    have e3 : aSz b' = aSz b := by unfold aSz; rw [h3]
    have e4 : aIt b' = aIt b := by unfold aIt; rw [h3]
    rw [e1, e2, e3, e4]
    exact hS s hs
theorem TxM.hd {σ : Sg} {by' : Nat → Nat} {len : Nat} (h : TxM σ by' len) {c : Nat} {v : Int32} (hc : c ≠ 0) : TxM (su σ 136 c v) by' len := ⟨by rw [su_nc _ _ _ _ (Ne.symm hc)]; exact h.1, fun i hi => by rw [su_nr _ _ _ _ (by omega)]; exact h.2 i hi⟩
theorem om_wipe (scr : ScA) (b : AB) : OkM scr 0 mX11_wipe [.ref 136] b (sp_wipe b) := by
  intro σ hR
  refine E_X11_wipe (W_X11_wipe_0 fun s1 e1 => ⟨hR.2.1.1, ?_⟩)
  rw [e1]
  exact hR.hd ⟨by show 0 ≤ 59; omega, fun i hi => absurd hi (by show ¬ i < 0; omega), hR.1.2.2⟩ ⟨by rw [su_eq]; rfl, fun i hi => absurd hi (by show ¬ i < 0; omega)⟩ (Or.inl ⟨rfl, by omega⟩) (Or.inl ⟨rfl, by omega⟩) rfl (by rw [su_nc _ _ _ _ (by omega)]; exact hR.2.2.2.2.2)
theorem om_undo (scr : ScA) (b : AB) : OkM scr 0 mX11_undo [.ref 136] b (sp_undo b) := by
  intro σ hR
  have hl := hR.1.1
  have q : nI (aL b) = 0 ↔ aL b = 0 := by rw [show (0 : Int32) = nI 0 from rfl, nI_inj (by omega) (by omega)]
  unfold sp_undo
  refine E_X11_undo (W_X11_undo_0 ?_)
  rw [hR.2.1.1]
  refine ⟨fun h s1 e1 => ?_, fun h => ?_⟩
  · have h0 : ¬ aL b = 0 := fun z => h (q.mpr z)
    rw [if_neg h0]
    rw [show (1 : Int32) = nI 1 from rfl, pk_sub (by omega)] at e1
    refine ⟨by rw [e1, su_eq], ?_⟩
    rw [e1]
    exact hR.hd ⟨by show aL b - 1 ≤ 59; omega, fun i hi => hR.1.2.1 i (by have : i < aL b - 1 := hi; omega), hR.1.2.2⟩ ⟨by rw [su_eq]; rfl, fun i hi => by rw [su_nr _ _ _ _ (by omega)]; exact hR.2.1.2 i (by have : i < aL b - 1 := hi; omega)⟩ (Or.inl ⟨rfl, by omega⟩) (Or.inl ⟨rfl, by omega⟩) rfl (by rw [su_nc _ _ _ _ (by omega)]; exact hR.2.2.2.2.2)
  · rw [if_pos (q.mp h)]
    exact ⟨rfl, hR, fun _ _ => rfl⟩
theorem qi_fault (scr : ScA) (b : AB) : QI scr 3 mX11_faultOf [.ref 136] b (fauI (aB b) (aL b)) := fun σ hR =>
  (ct_faultOf scr σ hR.2.1 hR.1.1 hR.1.2.1).weak fun r s ⟨h1, h2, h3⟩ => ⟨h1, h2, fun a c z1 z2 z3 z4 z5 => h3 a c z1 (fun q => by have := z5 q.1; omega)⟩
theorem om_fault (scr : ScA) (b : AB) : OkM scr 4 mX11_fault [.ref 136] b (sp_fault b) := fun σ hR =>
  E_X11_fault (W_X11_fault_0 ((qi_fault scr b σ hR).weak fun r s ⟨h1, h2, h3⟩ => W_X11_fault_4 ⟨h1, h3.rm hR, h3.lo⟩))
theorem ao_nI {σ : Sg} {T : TT} (h : MT σ T) {j : Nat} (hj : j < tn T) (h10 : tn T ≤ 10) (w : Int32) : aoV σ (nI j) w = if w = 0 then nI (tso T j) else if w = 1 then nI (twe T j) else if w = 2 then nI (tst T j) else if w = 3 then nI (tco T j) else nI (tpl T j) := by
  obtain ⟨e1, e2, e3, e4, e5⟩ := h.2 j hj
  unfold aoV
  rw [tN_nI (by omega), e1, e2, e3, e4, e5]
  by_cases z0 : w = 0
  · rw [if_neg (fun y => y z0), if_pos z0]
  · rw [if_pos z0, if_neg z0]
    by_cases z1 : w = 1
    · rw [if_neg (fun y => y z1), if_pos z1]
    · rw [if_pos z1, if_neg z1]
      by_cases z2 : w = 2
      · rw [if_neg (fun y => y z2), if_pos z2]
      · rw [if_pos z2, if_neg z2]
        by_cases z3 : w = 3
        · rw [if_neg (fun y => y z3), if_pos z3]
        · rw [if_pos z3, if_neg z3]
theorem om_acrobat (scr : ScA) (b : AB) (x w : Int32) : OkM scr 6 mX11_acrobat [.ref 136, .int x, .int w] b (qb (sv_acrobat b x w) b) := by
  intro σ hR
  have h10 := hR.1.T.1
  refine E_X11_acrobat (W_X11_acrobat_0 ((ct_isAcrobat scr σ hR x).weak fun r s ⟨h1, h2, h3⟩ => W_X11_acrobat_5 ?_))
  subst h1
  rw [in5]
  refine ⟨fun z1 z2 => ?_, ?_, h3.rm hR, h3.lo⟩
  · obtain ⟨j, hj, rfl, -⟩ := (isW_or x (by omega)).resolve_left z1
    exact inB_nI (by omega) (by decide)
  · show _ = sv_acrobat b x w
    unfold sv_acrobat
    by_cases z1 : isW x (nI (tn (aT b))) = 0
    · rw [if_pos z1, if_pos z1]
    · rw [if_neg z1, if_neg z1]
      obtain ⟨j, hj, rfl, -⟩ := (isW_or x (by omega)).resolve_left z1
      rw [ao_nI h2 hj h10, tN_nI (by omega)]
      by_cases z2 : isW w 5 = 0
      · rw [if_pos z2]
        have n0 : ∀ k, k < 5 → ¬ w = nI k := fun k hk e => by
          rw [e, show (5 : Int32) = nI 5 from rfl, isW_nI (by omega) (by omega), if_pos hk] at z2
          exact absurd z2 (by decide)
        rw [if_neg (show ¬ w = 0 from n0 0 (by omega)), if_neg (show ¬ w = 1 from n0 1 (by omega)), if_neg (show ¬ w = 2 from n0 2 (by omega)), if_neg (show ¬ w = 3 from n0 3 (by omega)), if_neg (show ¬ w = 4 from n0 4 (by omega))]
      · rw [if_neg z2]
        obtain ⟨k, hk, rfl, -⟩ := (isW_or w (n := 5) (by decide)).resolve_left z2
        rcases (by omega : k = 0 ∨ k = 1 ∨ k = 2 ∨ k = 3 ∨ k = 4) with rfl | rfl | rfl | rfl | rfl <;> rfl
theorem om_event (scr : ScA) (b : AB) (k m n : Int32) : OkM scr 2 mX11_event [.ref 136, .int k, .int m, .int n] b (sp_event b k m n) := by
  intro σ hR
  obtain ⟨hW, hX, hE, hI, hS, hF⟩ := id hR
  have h8 := hW.2.2.1.1
  have bad : isW k 3 = 0 ∨ isW m 24 = 0 ∨ isW n 10 = 0 → (-2 : Int32) = (sp_event b k m n).1 ∧ RM σ (sp_event b k m n).2 ∧ ∀ a, a < 136 → σ a = σ a := fun h => by
    unfold sp_event
    rw [if_pos h]
    exact ⟨rfl, hR, fun _ _ => rfl⟩
  refine E_X11_event (W_X11_event_0 ?_)
  rw [in3, in24, in10]
  refine ⟨fun z => bad (Or.inl z), fun z1 => ⟨fun z => bad (Or.inr (Or.inl z)), fun z2 => ⟨fun z3 => ?_, fun z => bad (Or.inr (Or.inr z))⟩⟩⟩
  unfold sp_event
  rw [if_neg (fun z => z.elim z1 fun z => z.elim z2 z3), hE.1]
  obtain ⟨j1, hj1, rfl, -⟩ := (isW_or k (n := 3) (by decide)).resolve_left z1
  obtain ⟨j2, hj2, rfl, -⟩ := (isW_or m (n := 24) (by decide)).resolve_left z2
  obtain ⟨j3, hj3, rfl, -⟩ := (isW_or n (n := 10) (by decide)).resolve_left z3
  rw [tN_nI (n := j1) (by omega), tN_nI (n := j2) (by omega), tN_nI (n := j3) (by omega)]
  have q : nI (aE b).1 = 8 ↔ (aE b).1 = 8 := by rw [c8, nI_inj (by omega) (by omega)]
  refine ⟨fun y => ?_, fun y => ?_⟩
  · have y' : (aE b).1 < 8 := Nat.lt_of_le_of_ne h8 (fun z => y (q.mpr z))
    rw [if_pos y']
    refine ⟨inB_nI y' (by decide), fun s1 e1 => ?_⟩
    have w1 : s1 136 8 = nI (aE b).1 := by rw [e1, su_nr _ _ _ _ (by omega)]; exact hE.1
    rw [w1]
    refine ⟨inB_nI y' (by decide), fun s2 e2 => ?_⟩
    have w2 : s2 136 8 = nI (aE b).1 := by rw [e2, su_nr _ _ _ _ (by omega)]; exact w1
    rw [w2]
    refine ⟨inB_nI y' (by decide), fun s3 e3 s4 e4 => ?_⟩
    have w3 : s3 136 8 = nI (aE b).1 := by rw [e3, su_nr _ _ _ _ (by omega)]; exact w2
    rw [w3, nI_add1] at e4
    rw [tN_nI (by omega)] at e1 e2 e3
    have o4 : ∀ a c, ¬ (143 ≤ a ∧ a ≤ 145) → (a = 136 → c ≠ 8) → s4 a c = σ a c := fun a c z1 z2 => by
      rw [e4]
      by_cases z : a = 136
      · rw [su_nc _ _ _ _ (z2 z), e3, su_nr _ _ _ _ (by omega), e2, su_nr _ _ _ _ (by omega), e1, su_nr _ _ _ _ (by omega)]
      · rw [su_nr _ _ _ _ z, e3, su_nr _ _ _ _ (by omega), e2, su_nr _ _ _ _ (by omega), e1, su_nr _ _ _ _ (by omega)]
    have r4 : ∀ a, ¬ (143 ≤ a ∧ a ≤ 145) → a ≠ 136 → s4 a = σ a := fun a z1 z2 => funext fun c => o4 a c z1 (fun z => absurd z z2)
    have hW' : AW (evA b (adE (aE b) j1 j2 j3)) := ⟨hW.1, hW.2.1, adE_W hW.2.2.1 y' hj1 hj2 hj3, hW.2.2.2⟩
    refine ⟨by rw [e4, su_eq], ⟨hW', ⟨?_, fun i hi => ?_⟩, ⟨by rw [e4, su_eq]; rfl, fun i hi => ?_⟩, ?_, fun s hs => ?_, ?_⟩, fun a ha => r4 a (by omega) (by omega)⟩
    · rw [o4 136 0 (by omega) (by omega)]; exact hX.1
    · rw [o4 137 i (by omega) (by omega)]; exact hX.2 i hi
    · have hi' : i < (aE b).1 + 1 := hi
      show _ = nI (if i = (aE b).1 then j1 else (aE b).2.1 i) ∧ _ = nI (if i = (aE b).1 then j2 else (aE b).2.2.1 i) ∧ _ = nI (if i = (aE b).1 then j3 else (aE b).2.2.2 i)
      rw [e4, e3, e2, e1]
      by_cases z : i = (aE b).1
      · rw [if_pos z, if_pos z, if_pos z, z]
        refine ⟨?_, ?_, ?_⟩ <;> simp [su]
      · rw [if_neg z, if_neg z, if_neg z]
        obtain ⟨c1, c2, c3⟩ := hE.2 i (by omega)
        rw [← c1, ← c2, ← c3]
        refine ⟨?_, ?_, ?_⟩ <;> simp [su, z]
    · rw [o4 136 43 (by omega) (by omega), r4 163 (by omega) (by omega), r4 164 (by omega) (by omega), r4 165 (by omega) (by omega)]; exact hI
    · rw [r4 167 (by omega) (by omega), r4 168 (by omega) (by omega), r4 169 (by omega) (by omega), r4 170 (by omega) (by omega)]; exact hS s hs
    · rw [o4 136 53 (by omega) (by omega)]; exact hF
  · rw [if_neg (show ¬ (aE b).1 < 8 by have := q.mp y; omega)]
    exact ⟨rfl, hR, fun _ _ => rfl⟩
theorem om_back (scr : ScA) (b : AB) : OkM scr 0 mX11_back [.ref 136] b (sp_back b) := by
  intro σ hR
  have h8 := hR.1.2.2.1.1
  have q : nI (aE b).1 = 0 ↔ (aE b).1 = 0 := by rw [show (0 : Int32) = nI 0 from rfl, nI_inj (by omega) (by omega)]
  unfold sp_back
  refine E_X11_back (W_X11_back_0 ?_)
  rw [hR.2.2.1.1]
  refine ⟨fun h s1 e1 => ?_, fun h => ?_⟩
  · have h0 : ¬ (aE b).1 = 0 := fun z => h (q.mpr z)
    rw [if_neg h0]
    rw [show (1 : Int32) = nI 1 from rfl, pk_sub (by omega)] at e1
    refine ⟨by rw [e1, su_eq], ?_⟩
    rw [e1]
    exact hR.hd ⟨hR.1.1, hR.1.2.1, ⟨by show (aE b).1 - 1 ≤ 8; omega, fun i hi => hR.1.2.2.1.2 i (by have : i < (aE b).1 - 1 := hi; omega)⟩, hR.1.2.2.2⟩ (hR.2.1.hd (by omega)) (Or.inr ⟨by rw [su_eq]; rfl, fun i hi => hR.2.2.1.2 i (by have : i < (aE b).1 - 1 := hi; omega)⟩) (Or.inl ⟨rfl, by omega⟩) rfl (by rw [su_nc _ _ _ _ (by omega)]; exact hR.2.2.2.2.2)
  · rw [if_pos (q.mp h)]
    exact ⟨rfl, hR, fun _ _ => rfl⟩
theorem om_seen (scr : ScA) (b : AB) (m p w : Int32) : OkM scr 2 mX11_seen [.ref 136, .int m, .int p, .int w] b (sp_seen b m p w) := by
  intro σ hR
  obtain ⟨hW, hX, hE, hI, hS, hF⟩ := id hR
  have hI' := hW.2.2.2.1
  have h8 := hI'.1
  have bad : isW m 24 = 0 ∨ isW p 10 = 0 ∨ isW w 11 = 0 → (-2 : Int32) = (sp_seen b m p w).1 ∧ RM σ (sp_seen b m p w).2 ∧ ∀ a, a < 136 → σ a = σ a := fun h => by
    unfold sp_seen
    rw [if_pos h]
    exact ⟨rfl, hR, fun _ _ => rfl⟩
  refine E_X11_seen (W_X11_seen_0 ?_)
  rw [in24, in10, in11]
  refine ⟨fun z => bad (Or.inl z), fun z1 => ⟨fun z => bad (Or.inr (Or.inl z)), fun z2 => ⟨fun z3 => ?_, fun z => bad (Or.inr (Or.inr z))⟩⟩⟩
  unfold sp_seen
  rw [if_neg (fun z => z.elim z1 fun z => z.elim z2 z3), hI.1]
  obtain ⟨j1, hj1, rfl, -⟩ := (isW_or m (n := 24) (by decide)).resolve_left z1
  obtain ⟨j2, hj2, rfl, -⟩ := (isW_or p (n := 10) (by decide)).resolve_left z2
  obtain ⟨j3, hj3, rfl, -⟩ := (isW_or w (n := 11) (by decide)).resolve_left z3
  rw [tN_nI (n := j1) (by omega), tN_nI (n := j2) (by omega), tN_nI (n := j3) (by omega)]
  have q : nI (aI b).1 = 8 ↔ (aI b).1 = 8 := by rw [c8, nI_inj (by omega) (by omega)]
  refine ⟨fun y => ?_, fun y => ?_⟩
  · have y' : (aI b).1 < 8 := Nat.lt_of_le_of_ne h8 (fun z => y (q.mpr z))
    rw [if_pos y']
    refine ⟨inB_nI y' (by decide), fun s1 e1 => ?_⟩
    have w1 : s1 136 43 = nI (aI b).1 := by rw [e1, su_nr _ _ _ _ (by omega)]; exact hI.1
    rw [w1]
    refine ⟨inB_nI y' (by decide), fun s2 e2 => ?_⟩
    have w2 : s2 136 43 = nI (aI b).1 := by rw [e2, su_nr _ _ _ _ (by omega)]; exact w1
    rw [w2]
    refine ⟨inB_nI y' (by decide), fun s3 e3 s4 e4 => ?_⟩
    have w3 : s3 136 43 = nI (aI b).1 := by rw [e3, su_nr _ _ _ _ (by omega)]; exact w2
    rw [w3, nI_add1] at e4
    rw [tN_nI (by omega)] at e1 e2 e3
    have o4 : ∀ a c, ¬ (163 ≤ a ∧ a ≤ 165) → (a = 136 → c ≠ 43) → s4 a c = σ a c := fun a c z1 z2 => by
      rw [e4]
      by_cases z : a = 136
      · rw [su_nc _ _ _ _ (z2 z), e3, su_nr _ _ _ _ (by omega), e2, su_nr _ _ _ _ (by omega), e1, su_nr _ _ _ _ (by omega)]
      · rw [su_nr _ _ _ _ z, e3, su_nr _ _ _ _ (by omega), e2, su_nr _ _ _ _ (by omega), e1, su_nr _ _ _ _ (by omega)]
    have r4 : ∀ a, ¬ (163 ≤ a ∧ a ≤ 165) → a ≠ 136 → s4 a = σ a := fun a z1 z2 => funext fun c => o4 a c z1 (fun z => absurd z z2)
    have hW' : AW (siA b (adI (aI b) j1 j2 j3)) := by
      refine ⟨hW.1, hW.2.1, hW.2.2.1, ⟨y', fun i hi => ?_⟩, hW.2.2.2.2⟩
      have hi' : i < (aI b).1 + 1 := hi
      show (if i = (aI b).1 then j1 else (aI b).2.1 i) < 24 ∧ (if i = (aI b).1 then j2 else (aI b).2.2.1 i) < 10 ∧ (if i = (aI b).1 then j3 else (aI b).2.2.2 i) ≤ 10
      by_cases z : i = (aI b).1
      · rw [if_pos z, if_pos z, if_pos z]; exact ⟨hj1, hj2, by omega⟩
      · rw [if_neg z, if_neg z, if_neg z]; exact hI'.2 i (by omega)
    refine ⟨by rw [e4, su_eq], ⟨hW', ⟨?_, fun i hi => ?_⟩, ?_, ⟨by rw [e4, su_eq]; rfl, fun i hi => ?_⟩, fun s hs => ?_, ?_⟩, fun a ha => r4 a (by omega) (by omega)⟩
    · rw [o4 136 0 (by omega) (by omega)]; exact hX.1
    · rw [o4 137 i (by omega) (by omega)]; exact hX.2 i hi
    · rw [o4 136 8 (by omega) (by omega), r4 143 (by omega) (by omega), r4 144 (by omega) (by omega), r4 145 (by omega) (by omega)]; exact hE
    · have hi' : i < (aI b).1 + 1 := hi
      show _ = nI (if i = (aI b).1 then j1 else (aI b).2.1 i) ∧ _ = nI (if i = (aI b).1 then j2 else (aI b).2.2.1 i) ∧ _ = nI (if i = (aI b).1 then j3 else (aI b).2.2.2 i)
      rw [e4, e3, e2, e1]
      by_cases z : i = (aI b).1
      · rw [if_pos z, if_pos z, if_pos z, z]
        refine ⟨?_, ?_, ?_⟩ <;> simp [su]
      · rw [if_neg z, if_neg z, if_neg z]
        obtain ⟨c1, c2, c3⟩ := hI.2 i (by omega)
        rw [← c1, ← c2, ← c3]
        refine ⟨?_, ?_, ?_⟩ <;> simp [su, z]
    · rw [r4 167 (by omega) (by omega), r4 168 (by omega) (by omega), r4 169 (by omega) (by omega), r4 170 (by omega) (by omega)]; exact hS s hs
    · rw [o4 136 53 (by omega) (by omega)]; exact hF
  · rw [if_neg (show ¬ (aI b).1 < 8 by have := q.mp y; omega)]
    exact ⟨rfl, hR, fun _ _ => rfl⟩
theorem om_forget (scr : ScA) (b : AB) : OkM scr 0 mX11_forget [.ref 136] b (sp_forget b) := by
  intro σ hR
  refine E_X11_forget (W_X11_forget_0 fun s1 e1 => ⟨hR.2.2.2.1.1, ?_⟩)
  rw [e1]
  exact hR.hd ⟨hR.1.1, hR.1.2.1, hR.1.2.2.1, ⟨by show 0 ≤ 8; omega, fun i hi => absurd hi (by show ¬ i < 0; omega)⟩, hR.1.2.2.2.2⟩ (hR.2.1.hd (by omega)) (Or.inl ⟨rfl, by omega⟩) (Or.inr ⟨by rw [su_eq]; rfl, fun i hi => absurd hi (by show ¬ i < 0; omega)⟩) rfl (by rw [su_nc _ _ _ _ (by omega)]; exact hR.2.2.2.2.2)
