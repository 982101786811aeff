/-! the class's sheets -/
abbrev XS : Type := (Nat → Bool) × (Nat → Nat) × (Nat → Nat) × (Nat → Nat → Int32)
def shB (b : AB) (X : XS) (f : Int32) : AB := (b.1, b.2.1, b.2.2.1, X, f)
def aX (b : AB) : XS := b.2.2.2.1
theorem RC.sh {σ σ' : Sg} {b : AB} (h : RC σ b) {X : XS} {f : Int32} (hX : ∀ s, s < 4 → X.2.1 s < 3 ∧ X.2.2.1 s ≤ 60) (h0 : ∀ c, c ≠ 13 → σ' 0 c = σ 0 c) (h13 : σ' 0 13 = f) (hs : ∀ s, s < 4 → σ' (128 + 2 * s) 3 = b2I (X.1 s) ∧ σ' (128 + 2 * s) 1 = nI (X.2.1 s) ∧ σ' (128 + 2 * s) 2 = nI (X.2.2.1 s) ∧ ∀ i, i < 60 → σ' (129 + 2 * s) i = X.2.2.2 s i) (hf : ∀ a, a ≠ 0 → ¬ (128 ≤ a ∧ a ≤ 135) → σ' a = σ a) : RC σ' (shB b X f) := by
  obtain ⟨hW, hB, hS, hP, hG, hU⟩ := h
  obtain ⟨h1, h2, h3, h4, h5, h6, h7⟩ := hB
  refine ⟨⟨hW.1, hW.2.1, hW.2.2.1, hW.2.2.2.1, hX⟩, ⟨?_, ?_, ?_, ?_, ?_, hs, h13⟩, ?_, ?_, ?_, ?_⟩
  · rw [hf 1 (by omega) (by omega), hf 2 (by omega) (by omega)]; exact h1
  · exact h2.fr fun y hy => hf _ (by omega) (by omega)
  · rw [h0 11 (by omega)]; exact h3
  · exact h4.fr fun y hy => hf _ (by omega) (by omega)
  · exact h5.fr fun a z1 z2 => hf _ (by omega) (by omega)
  · exact RS.fr (b := b) hS (h0 12 (by omega)) fun a ha => hf _ (by omega) (by omega)
  · exact RP.fr (b := b) hP hW.T.1 fun a ha => hf _ (by omega) (by omega)
  · exact RG.fr (b := b) hG fun a ha => hf _ (by omega) (by omega)
  · exact RU.fr (b := b) hU fun a ha => hf _ (by omega) (by omega)
/-- a finding -/
def fnB (b : AB) (f : Int32) : AB := shB b (aX b) f
theorem RC.fn {σ : Sg} {b : AB} (h : RC σ b) (f : Int32) : RC (su σ 0 13 f) (fnB b f) := h.sh h.1.2.2.2.2 (fun c hc => su_nc _ _ _ _ hc) (su_eq ..) (fun s hs => by
  rw [su_off _ _ _ _ (by omega), su_off _ _ _ _ (by omega)]
  exact h.2.1.2.2.2.2.2.1 s hs) (fun a z1 _ => su_off _ _ _ _ z1)
theorem ct_finding (scr : ScA) (σ : Sg) {b : AB} (h : RC σ b) (f : Int32) : CiA scr 0 mX10_finding [.ref 0, .int f] σ (fun r σ' => r = -10 - f ∧ RC σ' (fnB b f) ∧ ∀ a, 136 ≤ a → σ' a = σ a) := by
  refine E_X10_finding (W_X10_finding_0 fun s e => ⟨rfl, by rw [e]; exact h.fn f, fun a ha => by rw [e, su_off _ _ _ _ (by omega)]⟩)
def rnX (b : AB) (s f n : Nat) : XS := (fun i => if i = s then false else aLo b i, fun i => if i = s then f else aFo b i, fun i => if i = s then n else aSz b i, fun i k => if i = s then 0 else aIt b i k)
def sp_sheet (b : AB) (s f n : Int32) : Int32 × AB := if isW s 4 = 0 ∨ isW f 3 = 0 ∨ ¬ n ≤ 60 then (-2, b) else if ¬ 0 ≤ n then (-10 - 5, fnB b 5) else (n, shB b (rnX b (Int32.toNatClampNeg s) (Int32.toNatClampNeg f) (Int32.toNatClampNeg n)) (aF b))
theorem se_is {s : Nat} (h : s < 4) : isSe (128 + 2 * s) := by unfold isSe; omega
theorem n60 {n : Int32} (h1 : n ≤ 60) (h2 : 0 ≤ n) : ∃ j, j ≤ 60 ∧ n = nI j := by
  obtain ⟨j, hj, rfl⟩ := nI_of (x := n) (Int32.not_lt.mpr h2)
  exact ⟨j, by rw [show (60 : Int32) = nI 60 from rfl, nI_le' (by omega) (by omega)] at h1; exact h1, rfl⟩
theorem ok_sheet (scr : ScA) (b : AB) (s f n : Int32) : OkC scr 2 mX10_sheet [.ref 0, .int s, .int f, .int n] b (sp_sheet b s f n) := by
  intro σ hR
  unfold sp_sheet
  have bad : ∀ t : Int32 × AB, t = (-2, b) → (-2 : Int32) = t.1 ∧ RC σ t.2 ∧ ∀ a, 136 ≤ a → σ a = σ a := fun t h => by rw [h]; exact ⟨rfl, hR, fun _ _ => rfl⟩
  refine E_X10_sheet (W_X10_sheet_0 ⟨fun z => bad _ (if_pos (Or.inl z)), fun z1 => ⟨fun z => bad _ (if_pos (Or.inr (Or.inl z))), fun z2 => ⟨fun z3 => ?_, fun z => bad _ (if_pos (Or.inr (Or.inr z)))⟩⟩⟩)
  rw [if_neg (fun z => z.elim z1 fun z => z.elim z2 fun z => z z3)]
  obtain ⟨j1, hj1, rfl, -⟩ := (isW_or s (n := 4) (by decide)).resolve_left z1
  obtain ⟨j2, hj2, rfl, -⟩ := (isW_or f (n := 3) (by decide)).resolve_left z2
  refine ⟨fun z => ⟨inB_nI hj1 (by decide), ?_⟩, fun z => ?_⟩
  · rw [if_neg (fun y => y z)]
    obtain ⟨j3, hj3, rfl⟩ := n60 z3 z
    rw [tN_nI (by omega), tN_nI (by omega), tN_nI (by omega), show 127 + 1 + 2 * j1 = 128 + 2 * j1 by omega]
    have ha : isAr (128 + 2 * j1 + 1) 60 := (by decide : ∀ s, s < 4 → (128 + 2 * s + 1 < 172 ∧ S0 (128 + 2 * s + 1) = (1, 60))) j1 hj1
    refine E_X4_renew (W_X4_renew_0 (se_is hj1) ((ct_fill scr 0 σ ha (by decide)).weak fun s1 e1 => W_X4_renew_8 (se_is hj1) fun s2 e2 s3 e3 s4 e4 => W_X10_sheet_46 ⟨rfl, ?_, fun a ha => ?_⟩))
    · have en : (if 0 < (if 60 < nI j3 then 60 else nI j3 : Int32) then (if 60 < nI j3 then 60 else nI j3 : Int32) else 0 : Int32) = nI j3 := by
        rw [if_neg (show ¬ (60 : Int32) < nI j3 by rw [show (60 : Int32) = nI 60 from rfl, nI_lt' (by omega) (by omega)]; omega)]
        by_cases y : j3 = 0
        · rw [y]; rfl
        · rw [if_pos (by rw [show (0 : Int32) = nI 0 from rfl, nI_lt' (by omega) (by omega)]; omega)]
      rw [en] at e3
      have g : ∀ a, a ≠ 128 + 2 * j1 → a ≠ 128 + 2 * j1 + 1 → s4 a = σ a := fun a z1 z2 => by
        rw [e4, e3, e2, su_off _ _ _ _ z1, su_off _ _ _ _ z1, su_off _ _ _ _ z1, e1]
        funext y
        exact sr_ne _ _ _ z2
      refine hR.sh (fun x hx => ?_) (fun c hc => by rw [g 0 (by omega) (by omega)]) (by rw [g 0 (by omega) (by omega)]; exact hR.2.1.2.2.2.2.2.2) (fun x hx => ?_) (fun a z1 z2 => g a (by omega) (by omega))
      · show (if x = j1 then j2 else aFo b x) < 3 ∧ (if x = j1 then j3 else aSz b x) ≤ 60
        by_cases y : x = j1
        · rw [if_pos y, if_pos y]; exact ⟨hj2, hj3⟩
        · rw [if_neg y, if_neg y]; exact hR.1.2.2.2.2 x hx
      · show s4 (128 + 2 * x) 3 = b2I (if x = j1 then false else aLo b x) ∧ s4 (128 + 2 * x) 1 = nI (if x = j1 then j2 else aFo b x) ∧ s4 (128 + 2 * x) 2 = nI (if x = j1 then j3 else aSz b x) ∧ ∀ i, i < 60 → s4 (129 + 2 * x) i = (if x = j1 then 0 else aIt b x i)
        by_cases y : x = j1
        · subst y
          rw [if_pos rfl, if_pos rfl, if_pos rfl, e4, e3, e2]
          refine ⟨by rw [su_eq]; rfl, ?_, ?_, fun i hi => ?_⟩
          · rw [su_nc _ _ _ _ (by omega), su_nc _ _ _ _ (by omega), su_eq]
          · rw [su_nc _ _ _ _ (by omega), su_eq]
          · rw [if_pos rfl, su_nr _ _ _ _ (by omega), su_nr _ _ _ _ (by omega), su_nr _ _ _ _ (by omega), e1, show 129 + 2 * x = 128 + 2 * x + 1 by omega, sr_at, if_pos hi]
        · rw [if_neg y, if_neg y, if_neg y, g _ (by omega) (by omega), g _ (by omega) (by omega)]
          obtain ⟨k1, k2, k3, k4⟩ := hR.2.1.2.2.2.2.2.1 x hx
          exact ⟨k1, k2, k3, fun i hi => by rw [if_neg y]; exact k4 i hi⟩
    · rw [e4, e3, e2, su_off _ _ _ _ (by omega), su_off _ _ _ _ (by omega), su_off _ _ _ _ (by omega), e1]
      funext y
      exact sr_ne _ _ _ (by omega)
  · rw [if_pos z]
    exact (ct_finding scr σ hR 5).weak fun r s1 ⟨h1, h2, h3⟩ => W_X10_sheet_34 ⟨h1, h2, h3⟩
def loX (b : AB) (s : Nat) : XS := (fun i => if i = s then true else aLo b i, aFo b, aSz b, aIt b)
def sp_lose (b : AB) (s : Int32) : Int32 × AB := if isW s 4 = 0 then (-2, b) else if aLo b (Int32.toNatClampNeg s) = true then (-10 - 1, fnB b 1) else (nI (aSz b (Int32.toNatClampNeg s)), shB b (loX b (Int32.toNatClampNeg s)) (aF b))
theorem ok_lose (scr : ScA) (b : AB) (s : Int32) : OkC scr 1 mX10_lose [.ref 0, .int s] b (sp_lose b s) := by
  intro σ hR
  unfold sp_lose
  refine E_X10_lose (W_X10_lose_0 ⟨fun z1 => ?_, fun z => ?_⟩)
  · rw [if_neg z1]
    obtain ⟨j1, hj1, rfl, -⟩ := (isW_or s (n := 4) (by decide)).resolve_left z1
    refine ⟨inB_nI hj1 (by decide), ?_⟩
    obtain ⟨k1, k2, k3, k4⟩ := hR.2.1.2.2.2.2.2.1 j1 hj1
    rw [tN_nI (by omega), show 127 + 1 + 2 * j1 = 128 + 2 * j1 by omega, k1, b2I_0]
    refine ⟨fun z s1 e1 => ?_, fun z => ?_⟩
    · rw [if_neg (by rw [z]; simp)]
      have g : ∀ a, a ≠ 128 + 2 * j1 → s1 a = σ a := fun a ha => by rw [e1, su_off _ _ _ _ ha]
      refine ⟨by rw [e1, su_nc _ _ _ _ (by omega)]; exact k3, hR.sh hR.1.2.2.2.2 (fun c hc => by rw [g 0 (by omega)]) (by rw [g 0 (by omega)]; exact hR.2.1.2.2.2.2.2.2) (fun x hx => ?_) (fun a z1 z2 => g a (by omega)), fun a ha => g a (by omega)⟩
      show s1 (128 + 2 * x) 3 = b2I (if x = j1 then true else aLo b x) ∧ _
      obtain ⟨m1, m2, m3, m4⟩ := hR.2.1.2.2.2.2.2.1 x hx
      by_cases y : x = j1
      · subst y
        rw [if_pos rfl, g (129 + 2 * x) (by omega), e1]
        exact ⟨by rw [su_eq]; rfl, by rw [su_nc _ _ _ _ (by omega)]; exact k2, by rw [su_nc _ _ _ _ (by omega)]; exact k3, k4⟩
      · rw [if_neg y, g _ (by omega), g _ (by omega)]
        exact ⟨m1, m2, m3, m4⟩
    · rw [if_pos (by simpa using z)]
      exact (ct_finding scr σ hR 1).weak fun r s1 ⟨h1, h2, h3⟩ => W_X10_lose_28 ⟨h1, h2, h3⟩
  · rw [if_pos z]
    exact ⟨rfl, hR, fun _ _ => rfl⟩
def cvF (f : Nat) (v : Int32) : Int32 := if ¬ f = 0 then (if ¬ f = 1 then v else (Int32.toInt16 v).toInt32) else (Int32.toInt8 v).toInt32
def stX (b : AB) (s i : Nat) (v : Int32) : XS := (aLo b, aFo b, aSz b, fun x k => if x = s ∧ k = i then cvF (aFo b s) v else aIt b x k)
theorem cv_eq {f : Nat} (hf : f < 3) (v : Int32) : (if ¬ nI f = 0 then (if ¬ nI f = 1 then v else (Int32.toInt16 v).toInt32 : Int32) else (Int32.toInt8 v).toInt32 : Int32) = cvF f v := by
  unfold cvF
  rcases (by omega : f = 0 ∨ f = 1 ∨ f = 2) with rfl | rfl | rfl <;> rfl
theorem ct_setItem (scr : ScA) (σ : Sg) {b : AB} (hR : RC σ b) {s i : Nat} (hs : s < 4) (hi : i < 60) (v : Int32) : CvA scr 1 mX4_setItem [.ref (128 + 2 * s), .int (nI i), .int v] σ (fun σ' => RC σ' (shB b (stX b s i v) (aF b)) ∧ ∀ a, 136 ≤ a → σ' a = σ a) := by
  obtain ⟨k1, k2, k3, k4⟩ := hR.2.1.2.2.2.2.2.1 s hs
  have hw : isW (nI i) 60 = 1 := by rw [show (60 : Int32) = nI 60 from rfl, isW_nI (by omega) (by omega), if_pos hi]
  refine E_X4_setItem (W_X4_setItem_0 (se_is hs) ⟨fun h => absurd h (by rw [hw]; decide), fun _ => ⟨inB_nI hi (by decide), fun s1 e1 => ?_⟩⟩)
  rw [k2, cv_eq (hR.1.2.2.2.2 s hs).1, tN_nI (by omega)] at e1
  have g : ∀ a, a ≠ 128 + 2 * s + 1 → s1 a = σ a := fun a ha => by rw [e1, su_off _ _ _ _ ha]
  refine ⟨hR.sh hR.1.2.2.2.2 (fun c hc => by rw [g 0 (by omega)]) (by rw [g 0 (by omega)]; exact hR.2.1.2.2.2.2.2.2) (fun x hx => ?_) (fun a z1 z2 => g a (by omega)), fun a ha => g a (by omega)⟩
  obtain ⟨m1, m2, m3, m4⟩ := hR.2.1.2.2.2.2.2.1 x hx
  rw [g (128 + 2 * x) (by omega)]
  refine ⟨m1, m2, m3, fun k hk => ?_⟩
  show s1 (129 + 2 * x) k = if x = s ∧ k = i then cvF (aFo b s) v else aIt b x k
  by_cases y : x = s ∧ k = i
  · obtain ⟨rfl, rfl⟩ := y
    rw [if_pos ⟨rfl, rfl⟩, e1, show 129 + 2 * x = 128 + 2 * x + 1 by omega, su_eq]
  · rw [if_neg y, e1, frS _ _ (fun z => y ⟨by omega, z.2⟩)]
    exact m4 k hk
def wfN (b : AB) (s : Nat) (f i : Int32) : Int32 := if aLo b s = true then 1 else if f = nI (aFo b s) then (if isW i (nI (aSz b s)) = 0 then 2 else 0) else 3
theorem wf_eq {σ : Sg} {b : AB} (hR : RC σ b) {s : Nat} (hs : s < 4) (f i : Int32) : wfV σ (128 + 2 * s) f i = wfN b s f i := by
  obtain ⟨k1, k2, k3, k4⟩ := hR.2.1.2.2.2.2.2.1 s hs
  unfold wfV wfN
  rw [k1, k2, k3]
  cases aLo b s <;> rfl
def sp_put (b : AB) (s f i v : Int32) : Int32 × AB := if isW s 4 = 0 ∨ isW f 3 = 0 then (-2, b) else if wfN b (Int32.toNatClampNeg s) f i = 0 then (1, shB b (stX b (Int32.toNatClampNeg s) (Int32.toNatClampNeg i) v) (aF b)) else (-10 - wfN b (Int32.toNatClampNeg s) f i, fnB b (wfN b (Int32.toNatClampNeg s) f i))
theorem wf_0 {b : AB} {s : Nat} {f i : Int32} (h : wfN b s f i = 0) (hz : aSz b s ≤ 60) : ∃ k, k < aSz b s ∧ i = nI k := by
  unfold wfN at h
  split at h
  · exact absurd h (by decide)
  · split at h
    · split at h
      · exact absurd h (by decide)
      · rename_i z
        obtain ⟨k, hk, e, -⟩ := (isW_or i (n := aSz b s) (by omega)).resolve_left z
        exact ⟨k, hk, e⟩
    · exact absurd h (by decide)
theorem ok_put (scr : ScA) (b : AB) (s f i v : Int32) : OkC scr 2 mX10_put [.ref 0, .int s, .int f, .int i, .int v] b (sp_put b s f i v) := by
  intro σ hR
  unfold sp_put
  have bad : ∀ t : Int32 × AB, t = (-2, b) → (-2 : Int32) = t.1 ∧ RC σ t.2 ∧ ∀ a, 136 ≤ a → σ a = σ a := fun t h => by rw [h]; exact ⟨rfl, hR, fun _ _ => rfl⟩
  refine E_X10_put (W_X10_put_0 ⟨fun z => bad _ (if_pos (Or.inl z)), fun z1 => ⟨fun z2 => ?_, fun z => bad _ (if_pos (Or.inr z))⟩⟩)
  rw [if_neg (fun z => z.elim z1 z2)]
  obtain ⟨j1, hj1, rfl, -⟩ := (isW_or s (n := 4) (by decide)).resolve_left z1
  refine ⟨inB_nI hj1 (by decide), ?_⟩
  rw [tN_nI (by omega), show 127 + 1 + 2 * j1 = 128 + 2 * j1 by omega, wf_eq hR hj1]
  have hz := (hR.1.2.2.2.2 j1 hj1).2
  refine ⟨fun z => ?_, fun z => ?_⟩
  · rw [if_pos z]
    obtain ⟨k, hk, rfl⟩ := wf_0 z hz
    rw [tN_nI (by omega)]
    exact (ct_setItem scr σ hR hj1 (by omega) v).weak fun s1 ⟨h1, h2⟩ => W_X10_put_56 ⟨rfl, h1, h2⟩
  · rw [if_neg z]
    exact (ct_finding scr σ hR _).weak fun r s1 ⟨h1, h2, h3⟩ => W_X10_put_43 ⟨h1, h2, h3⟩
def sp_get (b : AB) (s f i : Int32) : Int32 × AB := if isW s 4 = 0 ∨ isW f 3 = 0 then (-2147483648, b) else if wfN b (Int32.toNatClampNeg s) f i = 0 then (aIt b (Int32.toNatClampNeg s) (Int32.toNatClampNeg i), b) else (-2147483648, fnB b (wfN b (Int32.toNatClampNeg s) f i))
theorem it_eq {σ : Sg} {b : AB} (hR : RC σ b) {s i : Nat} (hs : s < 4) (hi : i < 60) : itV σ (128 + 2 * s) (nI i) = aIt b s i := by
  obtain ⟨k1, k2, k3, k4⟩ := hR.2.1.2.2.2.2.2.1 s hs
  unfold itV
  rw [show (60 : Int32) = nI 60 from rfl, isW_nI (by omega) (by omega), if_pos hi, if_neg (by decide), tN_nI (by omega), show 128 + 2 * s + 1 = 129 + 2 * s by omega]
  exact k4 i hi
theorem ok_get (scr : ScA) (b : AB) (s f i : Int32) : OkC scr 2 mX10_get [.ref 0, .int s, .int f, .int i] b (sp_get b s f i) := by
  intro σ hR
  unfold sp_get
  have bad : ∀ t : Int32 × AB, t = (-2147483648, b) → (-2147483648 : Int32) = t.1 ∧ RC σ t.2 ∧ ∀ a, 136 ≤ a → σ a = σ a := fun t h => by rw [h]; exact ⟨rfl, hR, fun _ _ => rfl⟩
  refine E_X10_get (W_X10_get_0 ⟨fun z => bad _ (if_pos (Or.inl z)), fun z1 => ⟨fun z2 => ?_, fun z => bad _ (if_pos (Or.inr z))⟩⟩)
  rw [if_neg (fun z => z.elim z1 z2)]
  obtain ⟨j1, hj1, rfl, -⟩ := (isW_or s (n := 4) (by decide)).resolve_left z1
  refine ⟨inB_nI hj1 (by decide), ?_⟩
  rw [tN_nI (by omega), show 127 + 1 + 2 * j1 = 128 + 2 * j1 by omega, wf_eq hR hj1]
  have hz := (hR.1.2.2.2.2 j1 hj1).2
  refine ⟨fun z => ?_, fun z s1 e1 => ?_⟩
  · rw [if_pos z]
    obtain ⟨k, hk, rfl⟩ := wf_0 z hz
    rw [it_eq hR hj1 (by omega), tN_nI (by omega)]
    exact ⟨rfl, hR, fun _ _ => rfl⟩
  · rw [if_neg z]
    exact ⟨rfl, by rw [e1]; exact hR.fn _, fun a ha => by rw [e1, su_off _ _ _ _ (by omega)]⟩
