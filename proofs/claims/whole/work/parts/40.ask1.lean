/-! the class's calls: events, sights, moments -/
def evA (b : AB) (E : EE) : AB := (b.1, E, b.2.2)
def siA (b : AB) (I : SI) : AB := (b.1, b.2.1, I, b.2.2.2)
theorem c3 : (3 : Int32) = nI 3 := rfl
theorem c24 : (24 : Int32) = nI 24 := rfl
theorem c10 : (10 : Int32) = nI 10 := rfl
theorem c11 : (11 : Int32) = nI 11 := rfl
theorem c8 : (8 : Int32) = nI 8 := rfl
theorem c2 : (2 : Int32) = nI 2 := rfl
theorem c4 : (4 : Int32) = nI 4 := rfl
def sp_event (b : AB) (k m n : Int32) : Int32 × AB := if isW k 3 = 0 ∨ isW m 24 = 0 ∨ isW n 10 = 0 then (-2, b) else if (aE b).1 < 8 then (nI ((aE b).1 + 1), evA b (adE (aE b) (Int32.toNatClampNeg k) (Int32.toNatClampNeg m) (Int32.toNatClampNeg n))) else (-4, b)
theorem ok_event (scr : ScA) (b : AB) (k m n : Int32) : OkC scr 3 mX10_event [.ref 0, .int k, .int m, .int n] b (sp_event b k m n) := by
  intro σ hR
  obtain ⟨hW, hB, -⟩ := id hR
  obtain ⟨h1, h2, h3, h4, h5, h6, h7⟩ := id hB
  have h8 := hW.2.2.1.1
  have bad : isW k 3 = 0 ∨ isW m 24 = 0 ∨ isW n 10 = 0 → (-2 : Int32) = (sp_event b k m n).1 ∧ RC σ (sp_event b k m n).2 ∧ ∀ a, 136 ≤ a → σ a = σ a := fun h => by
    unfold sp_event
    rw [if_pos h]
    exact ⟨rfl, hR, fun _ _ => rfl⟩
  refine E_X10_event (W_X10_event_0 ⟨fun z => bad (Or.inl z), fun z1 => ⟨fun z => bad (Or.inr (Or.inl z)), fun z2 => ⟨fun z3 => ?_, fun z => bad (Or.inr (Or.inr z))⟩⟩⟩)
  unfold sp_event
  rw [if_neg (fun z => z.elim z1 fun z => z.elim z2 z3), h4.1]
  obtain ⟨j1, hj1, rfl, -⟩ := (isW_or k (n := 3) (by decide)).resolve_left z1
  obtain ⟨j2, hj2, rfl, -⟩ := (isW_or m (n := 24) (by decide)).resolve_left z2
  obtain ⟨j3, hj3, rfl, -⟩ := (isW_or n (n := 10) (by decide)).resolve_left z3
  rw [tN_nI (by omega), tN_nI (by omega), tN_nI (by omega)]
  have q : nI (aE b).1 < 8 ↔ (aE b).1 < 8 := by rw [c8, nI_lt' (by omega) (by omega)]
  refine ⟨fun y => ?_, fun y => ?_⟩
  · have y' := q.mp y
    rw [if_pos y']
    refine (ct_add scr (Or.inl rfl) σ h4 y' j1 j2 j3).weak fun s1 ⟨V1, f1⟩ => W_X10_event_54 ?_
    have hW' : AW (evA b (adE (aE b) j1 j2 j3)) := ⟨hW.1, hW.2.1, adE_W hW.2.2.1 y' hj1 hj2 hj3, hW.2.2.2⟩
    have B1 : RB s1 (evA b (adE (aE b) j1 j2 j3)) := by
      refine ⟨?_, h2.fr fun y hy => f1 _ (by omega), by rw [f1 0 (by omega)]; exact h3, V1, h5.fr fun a z1 z2 => f1 _ (by omega), fun s hs => ?_, by rw [f1 0 (by omega)]; exact h7⟩
      · rw [f1 1 (by omega), f1 2 (by omega)]; exact h1
      · rw [f1 (128 + 2 * s) (by omega), f1 (129 + 2 * s) (by omega)]; exact h6 s hs
    refine (ct_forgetAnswers scr s1 hW' B1).weak fun s2 ⟨R2, f2, f2'⟩ => W_X10_event_58 ⟨?_, R2, fun a ha => by rw [f2 a ha, f1 a (by omega)]⟩
    rw [f2' 10 (by omega), V1.1]
    rfl
  · rw [if_neg (fun z => y (q.mpr z))]
    exact ⟨rfl, hR, fun _ _ => rfl⟩
def sp_back (b : AB) : Int32 × AB := if (aE b).1 = 0 then (-3, b) else (nI ((aE b).1 - 1), evA b ((aE b).1 - 1, (aE b).2))
theorem ok_back (scr : ScA) (b : AB) : OkC scr 3 mX10_back [.ref 0] b (sp_back b) := by
  intro σ hR
  obtain ⟨hW, hB, -⟩ := id hR
  obtain ⟨h1, h2, h3, h4, h5, h6, h7⟩ := id hB
  have h8 := hW.2.2.1.1
  have q : nI (aE b).1 = 0 ↔ (aE b).1 = 0 := by rw [show (0 : Int32) = nI 0 from rfl, nI_inj (by omega) (by omega)]
  unfold sp_back
  refine E_X10_back (W_X10_back_0 ?_)
  rw [h4.1]
  refine ⟨fun h s1 e1 => ?_, fun h => ?_⟩
  · have h0 : ¬ (aE b).1 = 0 := fun z => h (q.mpr z)
    rw [if_neg h0]
    rw [show (1 : Int32) = nI 1 from rfl, pk_sub (by omega)] at e1
    have f1 : ∀ a, a ≠ 10 → s1 a = σ a := fun a ha => by rw [e1, su_off _ _ _ _ ha]
    have hW' : AW (evA b ((aE b).1 - 1, (aE b).2)) := ⟨hW.1, hW.2.1, ⟨by show (aE b).1 - 1 ≤ 8; omega, fun i hi => hW.2.2.1.2 i (by have : i < (aE b).1 - 1 := hi; omega)⟩, hW.2.2.2⟩
    have V1 : EvC s1 10 ((aE b).1 - 1, (aE b).2) := ⟨by rw [e1, su_eq], fun i hi => by
      have : i < (aE b).1 - 1 := hi
      rw [f1 _ (by omega), f1 _ (by omega), f1 _ (by omega)]
      exact h4.2 i (by omega)⟩
    have B1 : RB s1 (evA b ((aE b).1 - 1, (aE b).2)) := by
      refine ⟨?_, h2.fr fun y hy => f1 _ (by omega), by rw [f1 0 (by omega)]; exact h3, V1, h5.fr fun a z1 z2 => f1 _ (by omega), fun s hs => ?_, by rw [f1 0 (by omega)]; exact h7⟩
      · rw [f1 1 (by omega), f1 2 (by omega)]; exact h1
      · rw [f1 (128 + 2 * s) (by omega), f1 (129 + 2 * s) (by omega)]; exact h6 s hs
    refine (ct_forgetAnswers scr s1 hW' B1).weak fun s2 ⟨R2, f2, f2'⟩ => W_X10_back_30 ⟨?_, R2, fun a ha => by rw [f2 a ha, f1 a (by omega)]⟩
    rw [f2' 10 (by omega), V1.1]
  · rw [if_pos (q.mp h)]
    exact ⟨rfl, hR, fun _ _ => rfl⟩
def adI (I : SI) (m p w : Nat) : SI := (I.1 + 1, fun i => if i = I.1 then m else I.2.1 i, fun i => if i = I.1 then p else I.2.2.1 i, fun i => if i = I.1 then w else I.2.2.2 i)
def sp_seen (b : AB) (m p w : Int32) : Int32 × AB := if isW m 24 = 0 ∨ isW p 10 = 0 ∨ isW w 11 = 0 then (-2, b) else if (aI b).1 < 8 then (nI ((aI b).1 + 1), siA b (adI (aI b) (Int32.toNatClampNeg m) (Int32.toNatClampNeg p) (Int32.toNatClampNeg w))) else (-4, b)
/-- the sights have changed -/
theorem si_new (scr : ScA) (σ : Sg) {b : AB} (hR : RC σ b) {I : SI} (hI : SIW I) (s : Sg) (hS : SiC s I) (hf : ∀ a, ¬ (14 ≤ a ∧ a ≤ 17) → s a = σ a) : CvA scr 1 mX2_forgetAnswers [.ref 77] s (fun σ' => RC σ' (siA b I) ∧ σ' 14 = s 14 ∧ ∀ a, 136 ≤ a → σ' a = σ a) := by
  obtain ⟨hW, hB, hS', hP, hG, hU⟩ := hR
  obtain ⟨h1, h2, h3, h4, h5, h6, h7⟩ := hB
  have h10 := hW.T.1
  refine (ct_gforget scr s).weak fun s2 ⟨g1, g2, g3⟩ => ⟨⟨⟨hW.1, hW.2.1, hW.2.2.1, hI, hW.2.2.2.2⟩, ?_, ?_, ?_, ?_, ?_⟩, g3 14 (by omega) (by omega) (by omega), fun a ha => by rw [g3 a (by omega) (by omega) (by omega), hf a (by omega)]⟩
  · have k : ∀ a, ¬ (14 ≤ a ∧ a ≤ 17) → a ≠ 77 → a ≠ 92 → a ≠ 93 → s2 a = σ a := fun a z1 z2 z3 z4 => by rw [g3 a z2 z3 z4, hf a z1]
    refine ⟨?_, h2.fr fun y hy => k _ (by omega) (by omega) (by omega) (by omega), by rw [k 0 (by omega) (by omega) (by omega) (by omega)]; exact h3, h4.fr fun y hy => k _ (by omega) (by omega) (by omega) (by omega), hS.fr fun a z1 z2 => g3 a (by omega) (by omega) (by omega), fun x hx => ?_, by rw [k 0 (by omega) (by omega) (by omega) (by omega)]; exact h7⟩
    · rw [k 1 (by omega) (by omega) (by omega) (by omega), k 2 (by omega) (by omega) (by omega) (by omega)]; exact h1
    · rw [k (128 + 2 * x) (by omega) (by omega) (by omega) (by omega), k (129 + 2 * x) (by omega) (by omega) (by omega) (by omega)]; exact h6 x hx
  · exact RS.fr (b := b) hS' (by rw [g3 0 (by omega) (by omega) (by omega), hf 0 (by omega)]) (fun a ha => by rw [g3 a (by omega) (by omega) (by omega), hf a (by omega)])
  · exact RP.fr (b := b) hP h10 (fun a ha => by rw [g3 a (by omega) (by omega) (by omega), hf a (by omega)])
  · exact ⟨Or.inl g2, fun a ha => have ha' : a < tn (aT b) := ha; ⟨Or.inl (g1 a (by omega)).1, Or.inl (g1 a (by omega)).2⟩⟩
  · exact RU.fr (b := b) hU (fun a ha => by rw [g3 a (by omega) (by omega) (by omega), hf a (by omega)])
theorem nb_eq {w : Nat} (hw : w ≤ 10) : (if ¬ nI w = 10 then nI w else (-1) : Int32) = nbI w := by
  have q : nI w = 10 ↔ w = 10 := by rw [c10, nI_inj (by omega) (by omega)]
  unfold nbI
  by_cases z : w = 10
  · rw [if_neg (fun y => y (q.mpr z)), if_pos z]
  · rw [if_pos (fun y => z (q.mp y)), if_neg z]
theorem ok_seen (scr : ScA) (b : AB) (m p w : Int32) : OkC scr 2 mX10_seen [.ref 0, .int m, .int p, .int w] b (sp_seen b m p w) := by
  intro σ hR
  obtain ⟨hW, hB, -⟩ := id hR
  obtain ⟨h1, h2, h3, h4, h5, h6, h7⟩ := id hB
  have hI := hW.2.2.2.1
  have h8 := hI.1
  have bad : isW m 24 = 0 ∨ isW p 10 = 0 ∨ isW w 11 = 0 → (-2 : Int32) = (sp_seen b m p w).1 ∧ RC σ (sp_seen b m p w).2 ∧ ∀ a, 136 ≤ a → σ a = σ a := fun h => by
    unfold sp_seen
    rw [if_pos h]
    exact ⟨rfl, hR, fun _ _ => rfl⟩
  refine E_X10_seen (W_X10_seen_0 ⟨fun z => bad (Or.inl z), fun z1 => ⟨fun z => bad (Or.inr (Or.inl z)), fun z2 => ⟨fun z3 => ?_, fun z => bad (Or.inr (Or.inr z))⟩⟩⟩)
  unfold sp_seen
  rw [if_neg (fun z => z.elim z1 fun z => z.elim z2 z3), h5.1]
  obtain ⟨j1, hj1, rfl, -⟩ := (isW_or m (n := 24) (by decide)).resolve_left z1
  obtain ⟨j2, hj2, rfl, -⟩ := (isW_or p (n := 10) (by decide)).resolve_left z2
  obtain ⟨j3, hj3, rfl, -⟩ := (isW_or w (n := 11) (by decide)).resolve_left z3
  rw [tN_nI (by omega), tN_nI (by omega), tN_nI (by omega)]
  have q : nI (aI b).1 < 8 ↔ (aI b).1 < 8 := by rw [c8, nI_lt' (by omega) (by omega)]
  refine ⟨fun y => ?_, fun y => ?_⟩
  · have y' := q.mp y
    rw [if_pos y']
    have hI' : SIW (adI (aI b) j1 j2 j3) := by
      refine ⟨y', fun i hi => ?_⟩
      have hi' : i < (aI b).1 + 1 := hi
      show (if i = (aI b).1 then j1 else (aI b).2.1 i) < 24 ∧ (if i = (aI b).1 then j2 else (aI b).2.2.1 i) < 10 ∧ (if i = (aI b).1 then j3 else (aI b).2.2.2 i) ≤ 10
      by_cases z : i = (aI b).1
      · rw [if_pos z, if_pos z, if_pos z]; exact ⟨hj1, hj2, by omega⟩
      · rw [if_neg z, if_neg z, if_neg z]; exact hI.2 i (by omega)
    refine E_X6_add (W_X6_add_0 ⟨fun h => ?_, fun _ => ?_⟩)
    · rw [h5.1, c8, nI_le' (by omega) (by omega)] at h
      omega
    rw [h5.1, nb_eq (by omega)]
    refine ⟨inB_nI y' (by decide), fun s1 e1 => ?_⟩
    have w1 : s1 14 3 = nI (aI b).1 := by rw [e1, su_nr _ _ _ _ (by omega)]; exact h5.1
    rw [w1]
    refine ⟨inB_nI y' (by decide), fun s2 e2 => ?_⟩
    have w2 : s2 14 3 = nI (aI b).1 := by rw [e2, su_nr _ _ _ _ (by omega)]; exact w1
    rw [w2]
    refine ⟨inB_nI y' (by decide), fun s3 e3 s4 e4 => W_X10_seen_55 ?_⟩
    have w3 : s3 14 3 = nI (aI b).1 := by rw [e3, su_nr _ _ _ _ (by omega)]; exact w2
    rw [w3, nI_add1] at e4
    rw [tN_nI (by omega)] at e1 e2 e3
    subst e1 e2 e3
    have S4 : SiC s4 (adI (aI b) j1 j2 j3) := by
      rw [e4]
      refine ⟨by rw [su_eq]; rfl, fun i hi => ?_⟩
      have hi' : i < (aI b).1 + 1 := hi
      show _ = nI (if i = (aI b).1 then j1 else (aI b).2.1 i) ∧ _ = nI (if i = (aI b).1 then j2 else (aI b).2.2.1 i) ∧ _ = nbI (if i = (aI b).1 then j3 else (aI b).2.2.2 i)
      by_cases z : i = (aI b).1
      · rw [if_pos z, if_pos z, if_pos z, z]
        refine ⟨?_, ?_, ?_⟩ <;> simp [su]
      · rw [if_neg z, if_neg z, if_neg z]
        obtain ⟨c1, c2, c3⟩ := h5.2 i (by omega)
        rw [← c1, ← c2, ← c3]
        refine ⟨?_, ?_, ?_⟩ <;> simp [su, z]
    refine (si_new scr σ hR hI' s4 S4 (fun a ha => by rw [e4, su_off _ _ _ _ (by omega), su_off _ _ _ _ (by omega), su_off _ _ _ _ (by omega), su_off _ _ _ _ (by omega)])).weak fun s5 ⟨R5, k5, f5⟩ => W_X10_seen_62 ⟨?_, R5, f5⟩
    rw [k5, S4.1]
    rfl
  · rw [if_neg (fun z => y (q.mpr z))]
    exact ⟨rfl, hR, fun _ _ => rfl⟩
def sp_forget (b : AB) : Int32 × AB := (nI (aI b).1, siA b (0, (aI b).2))
theorem ok_forget (scr : ScA) (b : AB) : OkC scr 2 mX10_forget [.ref 0] b (sp_forget b) := by
  intro σ hR
  obtain ⟨hW, hB, -⟩ := id hR
  have h5 := hB.2.2.2.2.1
  refine E_X10_forget (W_X10_forget_0 fun s1 e1 => ?_)
  refine (si_new scr σ hR (I := (0, (aI b).2)) ⟨by show 0 ≤ 8; omega, fun i hi => absurd hi (by show ¬ i < 0; omega)⟩ s1 ⟨by rw [e1, su_eq]; rfl, fun i hi => absurd hi (by show ¬ i < 0; omega)⟩ (fun a ha => by rw [e1, su_off _ _ _ _ (by omega)])).weak fun s5 ⟨R5, k5, f5⟩ => W_X10_forget_23 ⟨h5.1, R5, f5⟩
/-- the show -/
theorem ok_played (scr : ScA) (b : AB) (σ : Sg) (hR : RC σ b) : CrA scr 4 mX10_played [.ref 0] σ (fun r σ' => r = 18 ∧ RC σ' b ∧ PlR σ' 18 (aT b) (aE b) (alB (aE b)) 24 ∧ ∀ a, 136 ≤ a → σ' a = σ a) := by
  obtain ⟨hW, hB, hS, hP, hG, hU⟩ := id hR
  have h10 := hW.T.1
  refine E_X10_played (W_X10_played_0 ⟨fun h => ⟨rfl, hR, hS.resolve_left h, fun _ _ => rfl⟩, fun h => ?_⟩)
  have hV := hB.2.2.2.1
  rw [all_E hW.2.2.1 hV]
  refine (ct_play scr (Or.inl rfl) (Or.inl rfl) (Or.inl rfl) σ hW.T hB.2.1 hW.2.2.1 hV (by have := alB_lt hW.2.2.1; omega)).weak fun s1 ⟨P1, f1⟩ => W_X10_played_30 fun s2 e2 => ?_
  have g1 : ∀ a, ¬ (18 ≤ a ∧ a ≤ 48) → s1 a = σ a := fun a ha => f1 a fun z => by unfold inSh at z; omega
  have g2 : ∀ a, a ≠ 0 → s2 a = s1 a := fun a ha => by rw [e2, su_off _ _ _ _ ha]
  have g : ∀ a, a ≠ 0 → ¬ (18 ≤ a ∧ a ≤ 48) → s2 a = σ a := fun a z1 z2 => by rw [g2 a z1, g1 a z2]
  have P2 : PlR s2 18 (aT b) (aE b) (alB (aE b)) 24 := P1.fr (fun a ha => g2 a (by unfold inSh at ha; omega)) (by omega)
  refine ⟨rfl, ⟨hW, hB.fr ?_ ?_ fun a ha => g a (by omega) (by omega), Or.inr P2, hP.fr h10 fun a ha => g a (by omega) (by omega), hG.fr fun a ha => g a (by omega) (by omega), hU.fr fun a ha => g a (by omega) (by omega)⟩, P2, fun a ha => g a (by omega) (by omega)⟩
  · rw [e2, su_nc _ _ _ _ (by omega), g1 0 (by omega)]
  · rw [e2, su_nc _ _ _ _ (by omega), g1 0 (by omega)]
