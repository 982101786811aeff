/-! what the class and the reference both hold -/
abbrev AB : Type := (Nat × (Nat → Nat)) × EE × SI × ((Nat → Bool) × (Nat → Nat) × (Nat → Nat) × (Nat → Nat → Int32)) × Int32
def aL (b : AB) : Nat := b.1.1
def aB (b : AB) : Nat → Nat := b.1.2
def aE (b : AB) : EE := b.2.1
def aI (b : AB) : SI := b.2.2.1
def aLo (b : AB) : Nat → Bool := b.2.2.2.1.1
def aFo (b : AB) : Nat → Nat := b.2.2.2.1.2.1
def aSz (b : AB) : Nat → Nat := b.2.2.2.1.2.2.1
def aIt (b : AB) : Nat → Nat → Int32 := b.2.2.2.1.2.2.2
def aF (b : AB) : Int32 := b.2.2.2.2
def aT (b : AB) : TT := TX (aB b) (aL b)
def AW (b : AB) : Prop := aL b ≤ 59 ∧ (∀ i, i < aL b → aB b i < 256) ∧ EW (aE b) ∧ SIW (aI b) ∧ ∀ s, s < 4 → aFo b s < 3 ∧ aSz b s ≤ 60
theorem AW.T {b : AB} (h : AW b) : TW (aT b) := TX_W h.1
/-- what the class holds, but for its answers -/
def RB (σ : Sg) (b : AB) : Prop := (σ 1 1 = nI (aL b) ∧ ∀ i, i < aL b → σ 2 i = nI (aB b i)) ∧ TrC σ 3 (aT b) ∧ σ 0 11 = fauI (aB b) (aL b) ∧ EvC σ 10 (aE b) ∧ SiC σ (aI b) ∧ (∀ s, s < 4 → σ (128 + 2 * s) 3 = b2I (aLo b s) ∧ σ (128 + 2 * s) 1 = nI (aFo b s) ∧ σ (128 + 2 * s) 2 = nI (aSz b s) ∧ ∀ i, i < 60 → σ (129 + 2 * s) i = aIt b s i) ∧ σ 0 13 = aF b
def RS (σ : Sg) (b : AB) : Prop := σ 0 12 = 0 ∨ PlR σ 18 (aT b) (aE b) (alB (aE b)) 24
def RP (σ : Sg) (b : AB) : Prop := (σ 64 3 = 0 ∨ BeV σ 64 (swB (aT b) (aE b))) ∧ (σ 65 3 = 0 ∨ BeV σ 65 (trB (aT b) (aE b))) ∧ ∀ a, a < tn (aT b) → σ (67 + a) 3 = 0 ∨ BeV σ (67 + a) (coB (aT b) (aE b) a)
def RG (σ : Sg) (b : AB) : Prop := (σ 77 6 = -1 ∨ σ 77 6 = nI (nvF (aT b) (aE b) (aI b) (aE b).1)) ∧ ∀ a, a < tn (aT b) → (σ 92 a = -1 ∨ (σ 92 a = nI (sgF (aT b) (aE b) (aI b) a 9) ∧ σ 94 a = nI (askN (aT b) (aE b) (aI b) a))) ∧ (σ 93 a = -1 ∨ σ 93 a = nI (wtF (aT b) (aE b) (aI b) a 9))
def RU (σ : Sg) (b : AB) : Prop := TuC σ (aT b) (aE b)
def RC (σ : Sg) (b : AB) : Prop := AW b ∧ RB σ b ∧ RS σ b ∧ RP σ b ∧ RG σ b ∧ RU σ b
theorem RB.fr {σ σ' : Sg} {b : AB} (h : RB σ b) (h11 : σ' 0 11 = σ 0 11) (h13 : σ' 0 13 = σ 0 13) (hf : ∀ a, (1 ≤ a ∧ a ≤ 17) ∨ (128 ≤ a ∧ a ≤ 135) → σ' a = σ a) : RB σ' b := by
  obtain ⟨h1, h2, h3, h4, h5, h6, h7⟩ := h
  refine ⟨?_, h2.fr fun y hy => hf _ (by omega), by rw [h11]; exact h3, h4.fr fun y hy => hf _ (by omega), h5.fr fun a z1 z2 => hf _ (by omega), fun s hs => ?_, by rw [h13]; exact h7⟩
  · rw [hf 1 (by omega), hf 2 (by omega)]
    exact h1
  · rw [hf (128 + 2 * s) (by omega), hf (129 + 2 * s) (by omega)]
    exact h6 s hs
theorem PlR.fr {σ σ' : Sg} {k : Nat} {T : TT} {E : EE} {ch n : Nat} (h : PlR σ k T E ch n) (hf : ∀ a, inSh k a → σ' a = σ a) (hn : n ≤ 24) : PlR σ' k T E ch n := by
  have g : ∀ j, j ≤ 5 → σ' (k + j) = σ (k + j) := fun j hj => hf _ (Or.inl (by omega))
  have g0 : σ' k = σ k := g 0 (by omega)
  obtain ⟨h1, h2, h3, h4⟩ := h
  refine ⟨?_, by rw [g 1 (by omega)]; exact h2, by rw [g0]; exact h3, fun hk m hm => ?_⟩
  · unfold ShS
    rw [g0, g 2 (by omega), g 3 (by omega), g 4 (by omega)]
    exact h1
  · rw [hf (25 + m) (Or.inr ⟨hk, by omega, by omega⟩)]
    exact h4 hk m hm
theorem RS.fr {σ σ' : Sg} {b : AB} (h : RS σ b) (h12 : σ' 0 12 = σ 0 12) (hf : ∀ a, 18 ≤ a ∧ a ≤ 48 → σ' a = σ a) : RS σ' b := by
  refine h.imp (fun h => by rw [h12]; exact h) (fun h => h.fr (fun a ha => hf a ?_) (by omega))
  unfold inSh at ha
  omega
theorem RP.fr {σ σ' : Sg} {b : AB} (h : RP σ b) (hT : tn (aT b) ≤ 10) (hf : ∀ a, 64 ≤ a ∧ a ≤ 76 → σ' a = σ a) : RP σ' b := by
  refine ⟨?_, ?_, fun a ha => ?_⟩
  · rw [hf 64 (by omega)]; exact h.1.imp id fun h => h.fr (hf 64 (by omega))
  · rw [hf 65 (by omega)]; exact h.2.1.imp id fun h => h.fr (hf 65 (by omega))
  · rw [hf (67 + a) (by omega)]; exact (h.2.2 a ha).imp id fun h => h.fr (hf (67 + a) (by omega))
theorem RG.fr {σ σ' : Sg} {b : AB} (h : RG σ b) (hf : ∀ a, a = 77 ∨ a = 92 ∨ a = 93 ∨ a = 94 → σ' a = σ a) : RG σ' b := by
  unfold RG
  rw [hf 77 (by omega), hf 92 (by omega), hf 93 (by omega), hf 94 (by omega)]
  exact h
theorem RU.fr {σ σ' : Sg} {b : AB} (h : RU σ b) (hf : ∀ a, a = 106 ∨ a = 114 → σ' a = σ a) : RU σ' b := TuC.fr h (hf 106 (by omega)) (hf 114 (by omega))
/-- all answers forgotten -/
theorem ct_forgetAnswers (scr : ScA) (σ : Sg) {b : AB} (hW : AW b) (hB : RB σ b) : CvA scr 2 mX10_forgetAnswers [.ref 0] σ (fun σ' => RC σ' b ∧ (∀ a, 136 ≤ a → σ' a = σ a) ∧ ∀ a, 1 ≤ a ∧ a ≤ 17 → σ' a = σ a) := by
  refine E_X10_forgetAnswers (W_X10_forgetAnswers_0 fun s1 e1 => ?_)
  refine (ct_pforget scr s1).weak fun s2 ⟨p1, p2, p3, p4⟩ => W_X10_forgetAnswers_12 ?_
  refine (ct_gforget scr s2).weak fun s3 ⟨g1, g2, g3⟩ => W_X10_forgetAnswers_19 (E_X9_forgetAnswers (W_X9_forgetAnswers_0 fun s4 e4 => W_X10_forgetAnswers_26 ?_))
  have f4 : ∀ a, a ≠ 106 → s4 a = s3 a := fun a ha => by rw [e4, su_off _ _ _ _ ha]
  have f1 : ∀ a, a ≠ 0 → s1 a = σ a := fun a ha => by rw [e1, su_off _ _ _ _ ha]
  have h0 : s4 0 = s1 0 := by rw [f4 0 (by omega), g3 0 (by omega) (by omega) (by omega), p4 0 (by omega)]
  have ff : ∀ a, a ≠ 0 → ¬ (64 ≤ a ∧ a ≤ 77) → a ≠ 92 → a ≠ 93 → a ≠ 106 → s4 a = σ a := fun a z0 z1 z2 z3 z4 => by
    rw [f4 a z4, g3 a (by omega) z2 z3, p4 a (by omega), f1 a z0]
  have h10 := hW.T.1
  refine ⟨⟨hW, hB.fr ?_ ?_ fun a ha => ff a (by omega) (by omega) (by omega) (by omega) (by omega), Or.inl ?_, ⟨Or.inl ?_, Or.inl ?_, fun a ha => Or.inl ?_⟩, ⟨Or.inl ?_, fun a ha => ⟨Or.inl ?_, Or.inl ?_⟩⟩, Or.inl ?_⟩, fun a ha => ff a (by omega) (by omega) (by omega) (by omega) (by omega), fun a ha => ff a (by omega) (by omega) (by omega) (by omega) (by omega)⟩
  · rw [h0, e1, su_nc _ _ _ _ (by omega)]
  · rw [h0, e1, su_nc _ _ _ _ (by omega)]
  · rw [h0, e1, su_eq]
  · rw [f4 64 (by omega), g3 64 (by omega) (by omega) (by omega)]; exact p1
  · rw [f4 65 (by omega), g3 65 (by omega) (by omega) (by omega)]; exact p2
  · rw [f4 (67 + a) (by omega), g3 (67 + a) (by omega) (by omega) (by omega)]; exact p3 a (by omega)
  · rw [f4 77 (by omega)]; exact g2
  · rw [f4 92 (by omega)]; exact (g1 a (by omega)).1
  · rw [f4 93 (by omega)]; exact (g1 a (by omega)).2
  · rw [e4, su_eq]
/-- the text has changed -/
def txA (b : AB) (len : Nat) (by' : Nat → Nat) : AB := ((len, by'), b.2)
theorem ct_castAnew (scr : ScA) (σ : Sg) {b : AB} (hB : RB σ b) (len : Nat) (by' : Nat → Nat) (hW : AW (txA b len by')) (s : Sg) (h1 : s 1 1 = nI len) (h2 : ∀ i, i < len → s 2 i = nI (by' i)) (hf : ∀ a, a ≠ 1 → a ≠ 2 → s a = σ a) : CvA scr 5 mX10_castAnew [.ref 0] s (fun σ' => RC σ' (txA b len by') ∧ σ' 1 1 = nI len ∧ ∀ a, 136 ≤ a → σ' a = σ a) := by
  refine E_X10_castAnew (W_X10_castAnew_0 ((ct_castInto scr s hW.1 h1 (fun i hi => ⟨h2 i hi, hW.2.1 i hi⟩)).weak fun r s2 ⟨hr, C2, f2⟩ => W_X10_castAnew_12 fun s3 e3 => ?_))
  have f3 : ∀ a, a ≠ 0 → s3 a = s2 a := fun a ha => by rw [e3, su_off _ _ _ _ ha]
  obtain ⟨b1, b2, b3, b4, b5, b6, b7⟩ := hB
  have B3 : RB s3 (txA b len by') := by
    refine ⟨⟨?_, fun i hi => ?_⟩, C2.fr fun y hy => f3 _ (by omega), ?_, b4.fr fun y hy => ?_, b5.fr fun a z1 z2 => ?_, fun x hx => ?_, ?_⟩
    · rw [f3 1 (by omega), f2 1 (by omega)]; exact h1
    · rw [f3 2 (by omega), f2 2 (by omega)]; exact h2 i hi
    · rw [e3, su_eq, hr]; rfl
    · rw [f3 _ (by omega), f2 _ (by omega), hf _ (by omega) (by omega)]
    · rw [f3 _ (by omega), f2 _ (by omega), hf _ (by omega) (by omega)]
    · rw [f3 _ (by omega), f2 _ (by omega), hf _ (by omega) (by omega), f3 _ (by omega), f2 _ (by omega), hf _ (by omega) (by omega)]
      exact b6 x hx
    · rw [e3, su_nc _ _ _ _ (by omega), f2 0 (by omega), hf 0 (by omega) (by omega)]
      exact b7
  refine (ct_forgetAnswers scr s3 hW B3).weak fun s4 ⟨R4, f4, f4'⟩ => W_X10_castAnew_19 ⟨R4, ?_, fun a ha => ?_⟩
  · rw [f4' 1 (by omega), f3 1 (by omega), f2 1 (by omega)]; exact h1
  · rw [f4 a ha, f3 a (by omega), f2 a (by omega), hf a (by omega) (by omega)]
/-- an argument -/
theorem isW_or (x : Int32) {n : Nat} (hn : n < 2 ^ 31) : isW x (nI n) = 0 ∨ ∃ j, j < n ∧ x = nI j ∧ ¬ isW x (nI n) = 0 := by
  rcases pk_ix x hn with h | h | ⟨j, hj, h⟩
  · left; unfold isW; rw [if_pos h]
  · left
    unfold isW
    by_cases z : x < 0
    · rw [if_pos z]
    · rw [if_neg z, if_pos h]
  · right
    refine ⟨j, hj, h, ?_⟩
    rw [h, isW_nI (by omega) hn, if_pos hj]
    decide
def oAB (P : Int32 → AB → Prop) (σ : Sg) (r : Int32) (σ' : Sg) : Prop := ∃ b', P r b' ∧ RC σ' b' ∧ ∀ a, 136 ≤ a → σ' a = σ a
def sp_type (b : AB) (x : Int32) : Int32 × AB := if isW x 256 = 0 then (-2, b) else if aL b < 59 then (nI (aL b + 1), txA b (aL b + 1) (fun i => if i = aL b then Int32.toNatClampNeg x else aB b i)) else (-4, b)
/-- a call that the class answers as it is told -/
def OkC (scr : ScA) (d : Nat) (M : MD) (as : List Value) (b : AB) (t : Int32 × AB) : Prop := ∀ σ, RC σ b → CiA scr d M as σ (fun r σ' => r = t.1 ∧ RC σ' t.2 ∧ ∀ a, 136 ≤ a → σ' a = σ a)
theorem ok_type (scr : ScA) (b : AB) (x : Int32) : OkC scr 6 mX10_type [.ref 0, .int x] b (sp_type b x) := by
  intro σ hR
  obtain ⟨hW, hB, -⟩ := id hR
  obtain ⟨⟨b1, b2⟩, -⟩ := id hB
  have hl := hW.1
  unfold sp_type
  refine E_X10_type (W_X10_type_0 ⟨fun h => ?_, fun h => ?_⟩)
  · rw [if_neg h, b1]
    obtain ⟨j, hj, hx, -⟩ := (isW_or x (n := 256) (by decide)).resolve_left h
    subst hx
    have q : nI (aL b) < 59 ↔ aL b < 59 := by rw [show (59 : Int32) = nI 59 from rfl, nI_lt' (by omega) (by omega)]
    refine ⟨fun h2 => ?_, fun h2 => ?_⟩
    · have h3 := q.mp h2
      rw [if_pos h3]
      refine E_X7_append (W_X7_append_0 ⟨fun h4 => ?_, fun _ => ⟨by rw [b1]; exact inB_nI h3 (by decide), fun s1 e1 s2 e2 => W_X10_type_36 ?_⟩⟩)
      · rw [b1, show (59 : Int32) = nI 59 from rfl, nI_le' (by omega) (by omega)] at h4
        omega
      · rw [b1, tN_nI (by omega)] at e1
        have w1 : s1 1 1 = nI (aL b) := by rw [e1, su_nr _ _ _ _ (by omega)]; exact b1
        rw [w1, nI_add1] at e2
        have hW' : AW (txA b (aL b + 1) (fun i => if i = aL b then Int32.toNatClampNeg (nI j) else aB b i)) := by
          refine ⟨by show aL b + 1 ≤ 59; omega, fun i hi => ?_, hW.2.2⟩
          show (if i = aL b then Int32.toNatClampNeg (nI j) else aB b i) < 256
          have hi' : i < aL b + 1 := hi
          split
          · rw [tN_nI (by omega)]; exact hj
          · exact hW.2.1 i (by omega)
        refine (ct_castAnew scr σ hB _ _ hW' s2 (by rw [e2, su_eq]) (fun i hi => ?_) (fun a z1 z2 => by rw [e2, e1, su_off _ _ _ _ z1, su_off _ _ _ _ z2])).weak fun s3 ⟨R3, l3, f3⟩ => W_X10_type_40 ⟨l3, R3, f3⟩
        rw [e2, e1, su_nr _ _ _ _ (by omega)]
        by_cases z : i = aL b
        · rw [if_pos z, z, su_eq, tN_nI (by omega)]
        · rw [if_neg z, su_nc _ _ _ _ z]
          exact b2 i (by omega)
    · rw [if_neg (fun z => h2 (q.mpr z))]
      exact ⟨rfl, hR, fun _ _ => rfl⟩
  · rw [if_pos h]
    exact ⟨rfl, hR, fun _ _ => rfl⟩
def sp_wipe (b : AB) : Int32 × AB := (nI (aL b), txA b 0 (aB b))
theorem ok_wipe (scr : ScA) (b : AB) : OkC scr 6 mX10_wipe [.ref 0] b (sp_wipe b) := by
  intro σ hR
  obtain ⟨hW, hB, -⟩ := id hR
  refine E_X10_wipe (W_X10_wipe_0 fun s1 e1 => (ct_castAnew scr σ hB 0 (aB b) ⟨by show 0 ≤ 59; omega, fun i hi => absurd hi (by show ¬ i < 0; omega), hW.2.2⟩ s1 (by rw [e1, su_eq]; rfl) (fun i hi => by omega) (fun a z1 z2 => by rw [e1, su_off _ _ _ _ z1])).weak fun s3 ⟨R3, l3, f3⟩ => W_X10_wipe_20 ⟨hB.1.1, R3, f3⟩)
def sp_undo (b : AB) : Int32 × AB := if aL b = 0 then (-3, b) else (nI (aL b - 1), txA b (aL b - 1) (aB b))
theorem ok_undo (scr : ScA) (b : AB) : OkC scr 6 mX10_undo [.ref 0] b (sp_undo b) := by
  intro σ hR
  obtain ⟨hW, hB, -⟩ := id hR
  have hl := hW.1
  have q : nI (aL b) = 0 ↔ aL b = 0 := by rw [show (0 : Int32) = nI 0 from rfl, nI_inj (by omega) (by omega)]
  unfold sp_undo
  refine E_X10_undo (W_X10_undo_0 ?_)
  rw [hB.1.1]
  refine ⟨fun h s1 e1 => ?_, fun h => ?_⟩
  · have h0 : ¬ aL b = 0 := fun z => h (q.mpr z)
    rw [if_neg h0]
    rw [show (1 : Int32) = nI 1 from rfl, pk_sub (by omega)] at e1
    refine (ct_castAnew scr σ hB (aL b - 1) (aB b) ⟨by show aL b - 1 ≤ 59; omega, fun i hi => hW.2.1 i (by have : i < aL b - 1 := hi; omega), hW.2.2⟩ s1 (by rw [e1, su_eq]) (fun i hi => ?_) (fun a z1 z2 => by rw [e1, su_off _ _ _ _ z1])).weak fun s3 ⟨R3, l3, f3⟩ => W_X10_undo_30 ⟨l3, R3, f3⟩
    rw [e1, su_off _ _ _ _ (by omega)]
    exact hB.1.2 i (by omega)
  · rw [if_pos (q.mp h)]
    exact ⟨rfl, hR, fun _ _ => rfl⟩
def sp_fault (b : AB) : Int32 × AB := (fauI (aB b) (aL b), b)
theorem ok_fault (scr : ScA) (b : AB) : OkC scr 0 mX10_fault [.ref 0] b (sp_fault b) := fun σ hR => E_X10_fault (W_X10_fault_0 ⟨hR.2.1.2.2.1, hR, fun _ _ => rfl⟩)
