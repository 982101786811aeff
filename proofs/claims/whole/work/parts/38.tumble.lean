/-! the class's tumbles -/
def ffN (T : TT) (E : EE) (ch : Nat) : Nat := (sim T E ch 24).2.2.2.2.2
theorem ffN_le {T : TT} (hT : TW T) (E : EE) (ch : Nat) : ffN T E ch ≤ 24 := (sim_B hT E ch 24 (by omega)).2.2.2
def TuC (σ : Sg) (T : TT) (E : EE) : Prop := σ 106 3 = 0 ∨ (¬ σ 106 3 = 0 ∧ ∀ c, c < 256 → σ 114 c = -1 ∨ σ 114 c = nI (ffN T E c))
theorem TuC.fr {σ σ' : Sg} {T : TT} {E : EE} (h : TuC σ T E) (h1 : σ' 106 = σ 106) (h2 : σ' 114 = σ 114) : TuC σ' T E := by
  unfold TuC
  rw [h1, h2]
  exact h
theorem isW256 {a : Nat} (h : a < 256) : ¬ isW (nI a) 256 = 0 := by
  rw [show (256 : Int32) = nI 256 from rfl, isW_nI (by omega) (by omega), if_pos h]
  decide
theorem ct_firstFall (scr : ScA) (σ : Sg) {T : TT} (hT : TW T) (hC : TrC σ 3 T) {E : EE} (hE : EW E) (hV : EvC σ 10 E) (hU : TuC σ T E) {c : Nat} (hc : c < 256) : CiA scr 4 mX9_firstFall [.ref 106, .ref 3, .ref 10, .int (nI c)] σ (fun r σ' => r = nI (ffN T E c) ∧ TuC σ' T E ∧ ∀ x, ¬ (106 ≤ x ∧ x ≤ 114) → σ' x = σ x) := by
  have tc : (nI c).toNatClampNeg = c := tN_nI (by omega)
  have core : ∀ s : Sg, ¬ s 106 3 = 0 → (∀ c, c < 256 → s 114 c = -1 ∨ s 114 c = nI (ffN T E c)) → (∀ x, ¬ (106 ≤ x ∧ x ≤ 114) → s x = σ x) → (¬ (isW (nI c) 256) = 0 → (inB (nI c) 256 = true) ∧ ((¬ (s 114 (Int32.toNatClampNeg (nI c))) = (-1) → (fun r σ' => r = nI (ffN T E c) ∧ TuC σ' T E ∧ ∀ x, ¬ (106 ≤ x ∧ x ≤ 114) → σ' x = σ x) (s 114 (Int32.toNatClampNeg (nI c))) s) ∧ ((s 114 (Int32.toNatClampNeg (nI c))) = (-1) → CvA scr 3 mX5_play [.ref 107, .ref 3, .ref 10, .int (nI c), .int 1] s (fun σ' => K_X9_firstFall_54 scr (nI c) σ' (fun r σ' => r = nI (ffN T E c) ∧ TuC σ' T E ∧ ∀ x, ¬ (106 ≤ x ∧ x ≤ 114) → σ' x = σ x))))) ∧ ((isW (nI c) 256) = 0 → (fun r σ' => r = nI (ffN T E c) ∧ TuC σ' T E ∧ ∀ x, ¬ (106 ≤ x ∧ x ≤ 114) → σ' x = σ x) 24 s) := by
    intro s h3 hK hf
    refine ⟨fun _ => ⟨inB_nI hc (by decide), ?_⟩, fun h => absurd h (isW256 hc)⟩
    rw [tc]
    refine ⟨fun h => ⟨(hK c hc).resolve_left h, Or.inr ⟨h3, hK⟩, hf⟩, fun _ => ?_⟩
    have Cs : TrC s 3 T := hC.fr fun y hy => hf _ (by omega)
    have Vs : EvC s 10 E := hV.fr fun y hy => hf _ (by omega)
    refine (ct_playF scr (Or.inr (Or.inr (Or.inr (Or.inl rfl)))) (Or.inl rfl) (Or.inl rfl) s hT Cs hE Vs (ch := c) (by omega)).weak fun s2 ⟨p2, f2⟩ => W_X9_firstFall_54 ⟨inB_nI hc (by decide), fun s3 e3 => ?_⟩
    have g2 : ∀ x, ¬ (107 ≤ x ∧ x ≤ 112) → s2 x = s x := fun x z => f2 x fun y => by unfold inSh at y; omega
    rw [tc, p2] at e3
    rw [tc]
    subst e3
    refine ⟨su_eq .., Or.inr ⟨?_, fun d hd => ?_⟩, fun x z => ?_⟩
    · rw [su_nr _ _ _ _ (by omega), g2 106 (by omega)]
      exact h3
    · by_cases z : d = c
      · rw [z, su_eq]
        exact Or.inr rfl
      · rw [su_nc _ _ _ _ z, g2 114 (by omega)]
        exact hK d hd
    · rw [su_off _ _ _ _ (by omega), g2 x (by omega)]
      exact hf x z
  refine E_X9_firstFall (W_X9_firstFall_0 ⟨fun h => core σ h ((hU.resolve_left h).2) (fun _ _ => rfl), fun h => ?_⟩)
  refine (ct_fill scr (-1) σ (a := 114) (n := 256) ⟨by decide, rfl⟩ (by decide)).weak fun s1 e1 => W_X9_firstFall_15 fun s2 e2 => ?_
  subst e1 e2
  refine core _ (by rw [su_eq]; decide) (fun d hd => Or.inl ?_) (fun x z => ?_)
  · rw [su_nr _ _ _ _ (by omega), sr_at, if_pos hd]
  · funext b
    rw [su_nr _ _ _ _ (by omega), sr_ne _ _ _ (by omega)]
/-- sparing -/
def sp1 (T : TT) (E : EE) : Nat → Option Nat
  | 0 => none
  | i + 1 => match sp1 T E i with
    | some x => some x
    | none => if ffN T E (dif (alB E) (2 ^ i)) = 24 then some i else none
def spJ (T : TT) (E : EE) (a : Nat) : Nat → Option Nat
  | 0 => none
  | j + 1 => match spJ T E a j with
    | some x => some x
    | none => if ffN T E (dif (dif (alB E) (2 ^ a)) (2 ^ (a + 1 + j))) = 24 then some (a + 1 + j) else none
def spO (T : TT) (E : EE) : Nat → Option (Nat × Nat)
  | 0 => none
  | a + 1 => match spO T E a with
    | some x => some x
    | none => match spJ T E a (E.1 - (a + 1)) with
      | some b => some (a, b)
      | none => none
def spR (T : TT) (E : EE) : Int32 × Int32 × Int32 := if ffN T E (alB E) = 24 then (-1, -1, 0) else match sp1 T E E.1 with
  | some i => (nI i, -1, 1)
  | none => match spO T E E.1 with
    | some x => (nI x.1, nI x.2, 2)
    | none => (-1, -1, -1)
theorem sp1_st {T : TT} {E : EE} {i x : Nat} (h : sp1 T E i = some x) : ∀ j, sp1 T E (i + j) = some x
  | 0 => h
  | j + 1 => by
    show (match sp1 T E (i + j) with | some x => some x | none => _) = some x
    rw [sp1_st h j]
theorem spJ_st {T : TT} {E : EE} {a i x : Nat} (h : spJ T E a i = some x) : ∀ j, spJ T E a (i + j) = some x
  | 0 => h
  | j + 1 => by
    show (match spJ T E a (i + j) with | some x => some x | none => _) = some x
    rw [spJ_st h j]
theorem spO_st {T : TT} {E : EE} {i : Nat} {x : Nat × Nat} (h : spO T E i = some x) : ∀ j, spO T E (i + j) = some x
  | 0 => h
  | j + 1 => by
    show (match spO T E (i + j) with | some x => some x | none => _) = some x
    rw [spO_st h j]
def SpV (σ : Sg) (t : Int32 × Int32 × Int32) : Prop := σ 115 0 = t.1 ∧ σ 115 1 = t.2.1 ∧ σ 115 2 = t.2.2
theorem ct_offer0 (scr : ScA) (σ : Sg) (h2 : SpV σ (-1, -1, -1)) (x y : Int32) {n : Nat} (hn : n ≤ 240) : CvA scr 0 mX0_offer [.ref 115, .int x, .int y, .int (nI n)] σ (fun σ' => SpV σ' (x, y, nI n) ∧ ∀ a, a ≠ 115 → σ' a = σ a) := by
  have b : isBe 115 := (by decide : kO 172 S0 115 0 = true)
  refine E_X0_offer (W_X0_offer_0 b ⟨fun h => ?_, fun h s1 e1 s2 e2 s3 e3 => ?_⟩)
  · rw [h2.2.2] at h
    have h' : nI n ≤ (-1 : Int32) := h
    rw [Int32.le_iff_toInt_le, nI_toInt (by omega), show (-1 : Int32).toInt = -1 from by decide] at h'
    omega
  · subst e1 e2 e3
    refine ⟨⟨?_, ?_, ?_⟩, fun a ha => ?_⟩
    · simp [su]
    · simp [su]
    · simp [su]
    · rw [su_off _ _ _ _ ha, su_off _ _ _ _ ha, su_off _ _ _ _ ha]
theorem ct_spare (scr : ScA) (σ : Sg) {T : TT} (hT : TW T) (hC : TrC σ 3 T) {E : EE} (hE : EW E) (hV : EvC σ 10 E) (hU : TuC σ T E) : CrA scr 5 mX9_fewestToSpare [.ref 106, .ref 3, .ref 10] σ (fun r σ' => r = 115 ∧ SpV σ' (spR T E) ∧ TuC σ' T E ∧ ∀ x, ¬ (106 ≤ x ∧ x ≤ 115) → σ' x = σ x) := by
  have h8 := hE.1
  have ha := alB_lt hE
  have b115 : isBe 115 := (by decide : kO 172 S0 115 0 = true)
  have q24 : ∀ c, nI (ffN T E c) = 24 ↔ ffN T E c = 24 := fun c => by have := ffN_le hT E c; rw [show (24 : Int32) = nI 24 from rfl, nI_inj (by omega) (by omega)]
  have evf : ∀ s : Sg, (∀ x, ¬ (106 ≤ x ∧ x ≤ 115) → s x = σ x) → EvC s 10 E := fun s hs => hV.fr fun y hy => hs _ (by omega)
  have trf : ∀ s : Sg, (∀ x, ¬ (106 ≤ x ∧ x ≤ 115) → s x = σ x) → TrC s 3 T := fun s hs => hC.fr fun y hy => hs _ (by omega)
  refine E_X9_fewestToSpare (W_X9_fewestToSpare_0 ((ct_bbegin scr b115 σ).weak fun s1 ⟨v1, k1, f1⟩ => W_X9_fewestToSpare_7 ?_))
  have V1 : SpV s1 (-1, -1, -1) := v1
  have g1 : ∀ x, ¬ (106 ≤ x ∧ x ≤ 115) → s1 x = σ x := fun x z => f1 x (by omega)
  rw [all_E hE (evf s1 g1)]
  refine (ct_firstFall scr s1 hT (trf s1 g1) hE (evf s1 g1) (hU.fr (f1 106 (by omega)) (f1 114 (by omega))) ha).weak fun r s2 ⟨hr, U2, f2⟩ => ?_
  subst hr
  have V2 : SpV s2 (-1, -1, -1) := by unfold SpV; rw [f2 115 (by omega)]; exact V1
  have g2 : ∀ x, ¬ (106 ≤ x ∧ x ≤ 115) → s2 x = σ x := fun x z => by rw [f2 x (by omega)]; exact g1 x z
  refine W_X9_fewestToSpare_19 ⟨fun h => ?_, fun h => ?_⟩
  rotate_left
  · have e : spR T E = (-1, -1, 0) := if_pos ((q24 _).mp h)
    refine (ct_offer0 scr s2 V2 (-1) (-1) (n := 0) (by omega)).weak fun s3 ⟨v3, f3⟩ => W_X9_fewestToSpare_34 ⟨rfl, by rw [e]; exact v3, U2.fr (f3 106 (by omega)) (f3 114 (by omega)), fun x z => by rw [f3 x (by omega)]; exact g2 x z⟩
  have hne : ¬ ffN T E (alB E) = 24 := fun z => h ((q24 _).mpr z)
  have eR : spR T E = (match sp1 T E E.1 with
    | some i => (nI i, -1, 1)
    | none => match spO T E E.1 with
      | some x => (nI x.1, nI x.2, 2)
      | none => (-1, -1, -1)) := if_neg hne
  have outer : sp1 T E E.1 = none → ∀ (j a : Nat) (s : Sg), a + j = E.1 → spO T E a = none → SpV s (-1, -1, -1) → TuC s T E → (∀ x, ¬ (106 ≤ x ∧ x ≤ 115) → s x = σ x) → K_X9_fewestToSpare_95 scr (nI (alB E)) (nI a) s (fun r σ' => r = 115 ∧ SpV σ' (spR T E) ∧ TuC σ' T E ∧ ∀ x, ¬ (106 ≤ x ∧ x ≤ 115) → σ' x = σ x) := by
    intro h1 j
    induction j with
    | zero =>
      intro a s haj hno vs us fs
      have : a = E.1 := by omega
      subst this
      refine W_X9_fewestToSpare_95 ⟨fun _ => ⟨rfl, ?_, us, fs⟩, fun h => absurd ?_ h⟩
      · rw [eR, h1, hno]
        exact vs
      · rw [(evf s fs).1]
        exact Int32.le_refl _
    | succ j ih =>
      intro a s haj hno vs us fs
      refine W_X9_fewestToSpare_95 ⟨fun h => ?_, fun _ => ?_⟩
      · rw [(evf s fs).1, nI_le' (by omega) (by omega)] at h
        omega
      rw [nI_add1]
      have inner : ∀ (i b : Nat) (s : Sg), a + 1 + b + i = E.1 → spJ T E a b = none → SpV s (-1, -1, -1) → TuC s T E → (∀ x, ¬ (106 ≤ x ∧ x ≤ 115) → s x = σ x) → K_X9_fewestToSpare_110 scr (nI (alB E)) (nI a) (nI (a + 1 + b)) s (fun r σ' => r = 115 ∧ SpV σ' (spR T E) ∧ TuC σ' T E ∧ ∀ x, ¬ (106 ≤ x ∧ x ≤ 115) → σ' x = σ x) := by
        intro i
        induction i with
        | zero =>
          intro b s hbi hnj vs us fs
          refine W_X9_fewestToSpare_110 ⟨fun _ => ?_, fun h => absurd ?_ h⟩
          · rw [nI_add1]
            refine ih (a + 1) s (by omega) ?_ vs us fs
            show (match spO T E a with | some x => some x | none => match spJ T E a (E.1 - (a + 1)) with | some b => some (a, b) | none => none) = none
            rw [hno, show E.1 - (a + 1) = b by omega, hnj]
          · rw [(evf s fs).1, nI_le' (by omega) (by omega)]
            omega
        | succ i ih2 =>
          intro b s hbi hnj vs us fs
          have hd := dif_lt256 (2 ^ a) ha
          have hd2 := dif_lt256 (2 ^ (a + 1 + b)) hd
          refine W_X9_fewestToSpare_110 ⟨fun h => ?_, fun _ => ?_⟩
          · rw [(evf s fs).1, nI_le' (by omega) (by omega)] at h
            omega
          rw [shl1 (by omega), shl1 (by omega), dif_nI (by omega) (pow_lt (n := 10) (by omega)), dif_nI (by omega) (pow_lt (n := 10) (by omega))]
          refine (ct_firstFall scr s hT (trf s fs) hE (evf s fs) us hd2).weak fun r s3 ⟨hr, U3, f3⟩ => ?_
          subst hr
          have V3 : SpV s3 (-1, -1, -1) := by unfold SpV; rw [f3 115 (by omega)]; exact vs
          have g3 : ∀ x, ¬ (106 ≤ x ∧ x ≤ 115) → s3 x = σ x := fun x z => by rw [f3 x (by omega)]; exact fs x z
          have hstep : spJ T E a (b + 1) = if ffN T E (dif (dif (alB E) (2 ^ a)) (2 ^ (a + 1 + b))) = 24 then some (a + 1 + b) else none := by
            show (match spJ T E a b with | some x => some x | none => _) = _
            rw [hnj]
          refine W_X9_fewestToSpare_140 ⟨fun h => ?_, fun h => ?_⟩
          · rw [nI_add1]
            refine ih2 (b + 1) s3 (by omega) ?_ V3 U3 g3
            rw [hstep, if_neg (fun z => h ((q24 _).mpr z))]
          · rw [if_pos ((q24 _).mp h)] at hstep
            have hJ := spJ_st hstep i
            have hO : spO T E (a + 1) = some (a, a + 1 + b) := by
              show (match spO T E a with | some x => some x | none => match spJ T E a (E.1 - (a + 1)) with | some b => some (a, b) | none => none) = _
              rw [hno, show E.1 - (a + 1) = b + 1 + i by omega, hJ]
            have hO2 := spO_st hO j
            rw [show a + 1 + j = E.1 by omega] at hO2
            have e : spR T E = (nI a, nI (a + 1 + b), 2) := by rw [eR, h1, hO2]
            refine (ct_offer0 scr s3 V3 (nI a) (nI (a + 1 + b)) (n := 2) (by omega)).weak fun s4 ⟨v4, f4⟩ => W_X9_fewestToSpare_157 ⟨rfl, by rw [e]; exact v4, U3.fr (f4 106 (by omega)) (f4 114 (by omega)), fun x z => by rw [f4 x (by omega)]; exact g3 x z⟩
      exact inner (E.1 - (a + 1)) 0 s (by omega) rfl vs us fs
  have first : ∀ (j i : Nat) (s : Sg), i + j = E.1 → sp1 T E i = none → SpV s (-1, -1, -1) → TuC s T E → (∀ x, ¬ (106 ≤ x ∧ x ≤ 115) → s x = σ x) → K_X9_fewestToSpare_42 scr (nI (alB E)) (nI i) s (fun r σ' => r = 115 ∧ SpV σ' (spR T E) ∧ TuC σ' T E ∧ ∀ x, ¬ (106 ≤ x ∧ x ≤ 115) → σ' x = σ x) := by
    intro j
    induction j with
    | zero =>
      intro i s hi hno vs us fs
      have : i = E.1 := by omega
      subst this
      refine W_X9_fewestToSpare_42 ⟨fun _ => outer hno E.1 0 s (by omega) rfl vs us fs, fun h => absurd ?_ h⟩
      rw [(evf s fs).1]
      exact Int32.le_refl _
    | succ j ih =>
      intro i s hi hno vs us fs
      have hd := dif_lt256 (2 ^ i) ha
      refine W_X9_fewestToSpare_42 ⟨fun h => ?_, fun _ => ?_⟩
      · rw [(evf s fs).1, nI_le' (by omega) (by omega)] at h
        omega
      rw [shl1 (by omega), dif_nI (by omega) (pow_lt (n := 10) (by omega))]
      refine (ct_firstFall scr s hT (trf s fs) hE (evf s fs) us hd).weak fun r s3 ⟨hr, U3, f3⟩ => ?_
      subst hr
      have V3 : SpV s3 (-1, -1, -1) := by unfold SpV; rw [f3 115 (by omega)]; exact vs
      have g3 : ∀ x, ¬ (106 ≤ x ∧ x ≤ 115) → s3 x = σ x := fun x z => by rw [f3 x (by omega)]; exact fs x z
      have hstep : sp1 T E (i + 1) = if ffN T E (dif (alB E) (2 ^ i)) = 24 then some i else none := by
        show (match sp1 T E i with | some x => some x | none => _) = _
        rw [hno]
      refine W_X9_fewestToSpare_65 ⟨fun h => ?_, fun h => ?_⟩
      · rw [nI_add1]
        refine ih (i + 1) s3 (by omega) ?_ V3 U3 g3
        rw [hstep, if_neg (fun z => h ((q24 _).mpr z))]
      · rw [if_pos ((q24 _).mp h)] at hstep
        have h1 := sp1_st hstep j
        rw [show i + 1 + j = E.1 by omega] at h1
        have e : spR T E = (nI i, -1, 1) := by rw [eR, h1]
        refine (ct_offer0 scr s3 V3 (nI i) (-1) (n := 1) (by omega)).weak fun s4 ⟨v4, f4⟩ => W_X9_fewestToSpare_81 ⟨rfl, by rw [e]; exact v4, U3.fr (f4 106 (by omega)) (f4 114 (by omega)), fun x z => by rw [f4 x (by omega)]; exact g3 x z⟩
  exact first E.1 0 s2 (by omega) rfl V2 U2 g2
/-- chance -/
def shN (c ch : Nat) : Nat → Nat
  | 0 => 1
  | i + 1 => shN c ch i * (if ch.testBit i = true then c else 16 - c)
theorem shN_le {c : Nat} (hc : c ≤ 16) (ch : Nat) : ∀ i, shN c ch i ≤ 16 ^ i
  | 0 => Nat.le_refl _
  | i + 1 => by
    have ih := shN_le hc ch i
    rw [Nat.pow_succ]
    exact Nat.mul_le_mul ih (by split <;> omega)
def chS (T : TT) (E : EE) (c m : Nat) : Nat → Nat
  | 0 => 0
  | ch + 1 => chS T E c m ch + (if ffN T E ch ≤ m then shN c ch E.1 else 0)
theorem sh32 {c : Nat} (hc : c ≤ 16) (ch : Nat) {i : Nat} (hi : i ≤ 8) : shN c ch i ≤ 4294967296 := Nat.le_trans (shN_le hc ch i) (Nat.le_trans (Nat.pow_le_pow_right (by decide) hi) (by decide))
theorem chS_le {T : TT} {E : EE} (hE : EW E) {c m : Nat} (hc : c ≤ 16) : ∀ ch, chS T E c m ch ≤ 4294967296 * ch
  | 0 => Nat.le_refl _
  | ch + 1 => by
    have ih := chS_le (T := T) hE (m := m) hc ch
    have := sh32 hc ch hE.1
    unfold chS
    split <;> omega
theorem lN_iw {n : Nat} (h : n < 2 ^ 63) : (lN n).toInt = (n : Int) := lg_ofNat_toInt h
theorem ct_share (scr : ScA) (σ : Sg) {ch n c : Nat} (hch : ch < 256) (hn : n ≤ 8) (hc : c ≤ 16) : ClA scr 1 mX9_shareOf [.int (nI ch), .int (nI n), .int (nI c)] σ (fun r σ' => r = lN (shN c ch n) ∧ σ' = σ) := by
  refine E_X9_shareOf (W_X9_shareOf_0 ?_)
  have key : ∀ (j i : Nat), i + j = n → K_X9_shareOf_5 scr (nI ch) (nI n) (nI c) (lN (shN c ch i)) (nI i) σ (fun r σ' => r = lN (shN c ch n) ∧ σ' = σ) := by
    intro j
    induction j with
    | zero =>
      intro i hi
      have : i = n := by omega
      subst this
      exact W_X9_shareOf_5 ⟨fun _ => ⟨rfl, rfl⟩, fun h => absurd (Int32.le_refl _) h⟩
    | succ j ih =>
      intro i hi
      refine W_X9_shareOf_5 ⟨fun h => ?_, fun _ => ?_⟩
      · rw [nI_le' (by omega) (by omega)] at h
        omega
      have q : hbV (nI ch) (nI i) = 0 ↔ ch.testBit i = false := hbV_0 (by omega) (by omega)
      have e : (if (hbV (nI ch) (nI i)) = 0 then Int32.toInt64 (16 - nI c) else Int32.toInt64 (nI c) : Int64) = lN (if ch.testBit i = true then c else 16 - c) := by
        by_cases z : ch.testBit i = false
        · rw [if_pos (q.mpr z), if_neg (by rw [z]; simp), show (16 : Int32) = nI 16 from rfl, pk_sub hc, nI_l (by omega)]
        · rw [if_neg (fun y => z (q.mp y)), if_pos (by simpa using z), nI_l (by omega)]
      rw [e, lN_mul, nI_add1]
      exact ih (i + 1) (by omega)
  exact key n 0 (by omega)
theorem ct_above (scr : ScA) (σ : Sg) {T : TT} (hT : TW T) (hC : TrC σ 3 T) {E : EE} (hE : EW E) (hV : EvC σ 10 E) (hU : TuC σ T E) {c m : Nat} (hc : c ≤ 16) (hm : m < 24) : ClA scr 5 mX9_chanceAbove [.ref 106, .ref 3, .ref 10, .int (nI c), .int (nI m)] σ (fun r σ' => r = lN (chS T E c m (2 ^ E.1)) ∧ TuC σ' T E ∧ ∀ x, ¬ (106 ≤ x ∧ x ≤ 114) → σ' x = σ x) := by
  have h8 := hE.1
  have ha := alB_lt hE
  have h2 : 1 ≤ 2 ^ E.1 := Nat.one_le_two_pow
  have hal : alB E + 1 = 2 ^ E.1 := by unfold alB; omega
  refine E_X9_chanceAbove (W_X9_chanceAbove_0 ?_)
  rw [all_E hE hV]
  have key : ∀ (j i : Nat) (s : Sg), i + j = 2 ^ E.1 → TuC s T E → (∀ x, ¬ (106 ≤ x ∧ x ≤ 114) → s x = σ x) → K_X9_chanceAbove_12 scr (nI c) (nI m) (lN (chS T E c m i)) (nI (alB E)) (nI i) s (fun r σ' => r = lN (chS T E c m (2 ^ E.1)) ∧ TuC σ' T E ∧ ∀ x, ¬ (106 ≤ x ∧ x ≤ 114) → σ' x = σ x) := by
    intro j
    induction j with
    | zero =>
      intro i s hi us fs
      refine W_X9_chanceAbove_12 ⟨fun _ => ⟨by rw [show i = 2 ^ E.1 by omega], us, fs⟩, fun h => absurd ?_ h⟩
      rw [nI_lt' (by omega) (by omega)]
      omega
    | succ j ih =>
      intro i s hi us fs
      have Vs : EvC s 10 E := hV.fr fun y hy => fs _ (by omega)
      have Cs : TrC s 3 T := hC.fr fun y hy => fs _ (by omega)
      refine W_X9_chanceAbove_12 ⟨fun h => ?_, fun _ => ?_⟩
      · rw [nI_lt' (by omega) (by omega)] at h
        omega
      rw [Vs.1]
      refine (ct_share scr s (ch := i) (by omega) h8 hc).weak fun r s2 ⟨hr, hs2⟩ => W_X9_chanceAbove_29 ?_
      subst hr hs2
      have hsh := sh32 hc i h8
      have q : lg_cmp (lN (shN c i E.1)) 0 ≤ 0 ↔ shN c i E.1 = 0 := by
        rw [lg_cmp_le, Int64.le_iff_toInt_le, lN_iw (by omega), show (0 : Int64).toInt = 0 from by decide]
        omega
      rw [nI_add1]
      have e1 : chS T E c m (i + 1) = chS T E c m i + (if ffN T E i ≤ m then shN c i E.1 else 0) := rfl
      refine ⟨fun h => ?_, fun h => ?_⟩
      · have h0 := q.mp h
        rw [h0, ite_self, Nat.add_zero] at e1
        have := ih (i + 1) s2 (by omega) us fs
        rw [e1] at this
        exact this
      · refine (ct_firstFall scr s2 hT Cs hE Vs us (c := i) (by omega)).weak fun r s3 ⟨hr, U3, f3⟩ => W_X9_chanceAbove_46 ?_
        subst hr
        have hff := ffN_le hT E i
        have q2 : nI m < nI (ffN T E i) ↔ ¬ ffN T E i ≤ m := by rw [nI_lt' (by omega) (by omega)]; omega
        have := ih (i + 1) s3 (by omega) U3 (fun x z => by rw [f3 x z]; exact fs x z)
        rw [e1] at this
        rw [nI_add1]
        by_cases z : ffN T E i ≤ m
        · rw [if_pos z] at this
          rw [if_neg (fun y => q2.mp y z), lN_add]
          exact this
        · rw [if_neg z] at this
          rw [if_pos (q2.mpr z)]
          exact this
  exact key (2 ^ E.1) 0 σ (by omega) hU (fun _ _ => rfl)
