/-! the class's events and sights -/
def alB (E : EE) : Nat := 2 ^ E.1 - 1
theorem alB_lt {E : EE} (h : EW E) : alB E < 256 := by
  have : 2 ^ E.1 ≤ 2 ^ 8 := Nat.pow_le_pow_right (by decide) h.1
  unfold alB
  omega
theorem all_nI : ∀ n, n ≤ 8 → ((1 : Int32) <<< (nI n &&& 31)) - 1 = nI (2 ^ n - 1) := by decide +kernel
theorem all_E {σ : Sg} {v : Nat} {E : EE} (hE : EW E) (h : EvC σ v E) : ((1 : Int32) <<< ((σ v 3) &&& 31)) - 1 = nI (alB E) := by
  rw [h.1]
  exact all_nI _ hE.1
def adE (E : EE) (k m n : Nat) : EE := (E.1 + 1, fun i => if i = E.1 then k else E.2.1 i, fun i => if i = E.1 then m else E.2.2.1 i, fun i => if i = E.1 then n else E.2.2.2 i)
theorem adE_W {E : EE} (h : EW E) {k m n : Nat} (h8 : E.1 < 8) (hk : k < 3) (hm : m < 24) (hn : n < 10) : EW (adE E k m n) := by
  refine ⟨h8, fun i hi => ?_⟩
  have hi' : i < E.1 + 1 := hi
  show (if i = E.1 then k else E.2.1 i) < 3 ∧ (if i = E.1 then m else E.2.2.1 i) < 24 ∧ (if i = E.1 then n else E.2.2.2 i) < 10
  by_cases z : i = E.1
  · rw [if_pos z, if_pos z, if_pos z]; exact ⟨hk, hm, hn⟩
  · rw [if_neg z, if_neg z, if_neg z]; exact h.2 i (by omega)
theorem ct_add (scr : ScA) {v : Nat} (hv : isEv v) (σ : Sg) {E : EE} (hC : EvC σ v E) (h8 : E.1 < 8) (k m n : Nat) : CvA scr 0 mX1_add [.ref v, .int (nI k), .int (nI m), .int (nI n)] σ (fun σ' => EvC σ' v (adE E k m n) ∧ ∀ a, a < v ∨ v + 3 < a → σ' a = σ a) := by
  refine E_X1_add (W_X1_add_0 hv ⟨fun h => ?_, fun _ => ?_⟩)
  · rw [hC.1, show (8 : Int32) = nI 8 from rfl, nI_le' (by omega) (by omega)] at h
    omega
  · rw [hC.1]
    refine ⟨inB_nI h8 (by decide), fun s1 e1 => ?_⟩
    have w1 : s1 v 3 = nI E.1 := by rw [e1, su_nr _ _ _ _ (by omega)]; exact hC.1
    rw [w1]
    refine ⟨inB_nI h8 (by decide), fun s2 e2 => ?_⟩
    have w2 : s2 v 3 = nI E.1 := by rw [e2, su_nr _ _ _ _ (by omega)]; exact w1
    rw [w2]
    refine ⟨inB_nI h8 (by decide), fun s3 e3 s4 e4 => ?_⟩
    have w3 : s3 v 3 = nI E.1 := by rw [e3, su_nr _ _ _ _ (by omega)]; exact w2
    rw [w3, nI_add1] at e4
    rw [tN_nI (by omega)] at e1 e2 e3
    subst e1 e2 e3 e4
    refine ⟨⟨by rw [su_eq]; rfl, fun i hi => ?_⟩, fun a ha => ?_⟩
    · have hi' : i < E.1 + 1 := hi
      show _ = nI (if i = E.1 then k else E.2.1 i) ∧ _ = nI (if i = E.1 then m else E.2.2.1 i) ∧ _ = nI (if i = E.1 then n else E.2.2.2 i)
      by_cases z : i = E.1
      · rw [if_pos z, if_pos z, if_pos z, z]
        refine ⟨?_, ?_, ?_⟩ <;> simp [su]
      · rw [if_neg z, if_neg z, if_neg z]
        obtain ⟨c1, c2, c3⟩ := hC.2 i (by omega)
        rw [← c1, ← c2, ← c3]
        refine ⟨?_, ?_, ?_⟩ <;> simp [su, z]
    · rw [su_off _ _ _ _ (by omega), su_off _ _ _ _ (by omega), su_off _ _ _ _ (by omega), su_off _ _ _ _ (by omega)]
/-- years: what is drawn -/
def lcg (x : Int32) : Int32 := 1103515245 * x + 12345
def lcN (x : Int32) : Nat → Int32
  | 0 => x
  | i + 1 => lcg (lcN x i)
def uh (x : Int32) : Nat := x.toBitVec.toNat / 2 ^ 16
theorem uh_lt (x : Int32) : uh x < 65536 := by
  have := x.toBitVec.isLt
  unfold uh
  omega
theorem uh_nI (x : Int32) : (x.toUInt32 >>> ((16 : Int32).toUInt32 &&& Int32.toUInt32 31)).toInt32 = nI (uh x) := by
  apply Int32.toBitVec_inj.mp
  apply BitVec.eq_of_toNat_eq
  rw [pk_ushr x 16 16 (by decide), pk_tn (by have := uh_lt x; omega)]
  rfl
def yrE (x : Int32) (acr n : Nat) : EE := (if acr = 0 then 0 else n, fun i => uh (lcN x (3 * i + 1)) % 3, fun i => uh (lcN x (3 * i + 2)) % 24, fun i => uh (lcN x (3 * i + 3)) % acr)
theorem yrE_W (x : Int32) {acr n : Nat} (ha : acr ≤ 10) (hn : n ≤ 8) : EW (yrE x acr n) := by
  by_cases h : acr = 0
  · refine ⟨?_, fun i hi => ?_⟩
    · show (if acr = 0 then 0 else n) ≤ 8
      rw [if_pos h]; omega
    · have : i < (if acr = 0 then 0 else n) := hi
      rw [if_pos h] at this
      omega
  · refine ⟨?_, fun i hi => ?_⟩
    · show (if acr = 0 then 0 else n) ≤ 8
      rw [if_neg h]; omega
    · refine ⟨Nat.mod_lt _ (by omega), Nat.mod_lt _ (by omega), ?_⟩
      have := Nat.mod_lt (uh (lcN x (3 * i + 3))) (show acr > 0 by omega)
      show uh (lcN x (3 * i + 3)) % acr < 10
      omega
theorem EvC.cg {σ : Sg} {v : Nat} {E F : EE} (h : EvC σ v E) (h1 : F.1 = E.1) (h2 : ∀ i, i < E.1 → F.2.1 i = E.2.1 i ∧ F.2.2.1 i = E.2.2.1 i ∧ F.2.2.2 i = E.2.2.2 i) : EvC σ v F := ⟨by rw [h1]; exact h.1, fun i hi => by
  rw [h1] at hi
  obtain ⟨a, b, c⟩ := h2 i hi
  rw [a, b, c]
  exact h.2 i hi⟩
theorem ct_draw (scr : ScA) {v : Nat} (hv : isEv v) (σ : Sg) (x : Int32) {acr n : Nat} (ha : acr ≤ 10) (hn : n ≤ 8) : CvA scr 1 mX1_drawByLot [.ref v, .int x, .int (nI n), .int (nI acr)] σ (fun σ' => EvC σ' v (yrE x acr n) ∧ ∀ a, a < v ∨ v + 3 < a → σ' a = σ a) := by
  refine E_X1_drawByLot (W_X1_drawByLot_0 hv fun s1 e1 => ⟨fun h => ?_, fun h => ?_⟩)
  · rw [show (0 : Int32) = nI 0 from rfl, nI_lt' (by omega) (by omega)] at h
    have key : ∀ (j i : Nat) (s : Sg), i + j = n → EvC s v (yrE x acr i) → (∀ a, a < v ∨ v + 3 < a → s a = σ a) → K_X1_drawByLot_16 scr v (nI n) (nI acr) (lcN x (3 * i)) (nI i) s (fun σ' => EvC σ' v (yrE x acr n) ∧ ∀ a, a < v ∨ v + 3 < a → σ' a = σ a) := by
      intro j
      induction j with
      | zero =>
        intro i s hi hC hf
        have : i = n := by omega
        subst this
        exact W_X1_drawByLot_16 hv ⟨fun _ => ⟨hC, hf⟩, fun h => absurd (Int32.le_refl _) h⟩
      | succ j ih =>
        intro i s hi hC hf
        have hE1 : (yrE x acr i).1 = i := if_neg (by omega)
        refine W_X1_drawByLot_16 hv ⟨fun h => ?_, fun _ => ⟨?_, ?_⟩⟩
        · rw [nI_le' (by omega) (by omega)] at h
          omega
        · rw [show (0 : Int32) = nI 0 from rfl, nI_inj (by omega) (by omega)]
          omega
        · have l1 : 1103515245 * lcN x (3 * i) + 12345 = lcN x (3 * i + 1) := rfl
          have l2 : 1103515245 * lcN x (3 * i + 1) + 12345 = lcN x (3 * i + 2) := rfl
          have l3 : 1103515245 * lcN x (3 * i + 2) + 12345 = lcN x (3 * i + 3) := rfl
          have u1 := uh_lt (lcN x (3 * i + 1))
          have u2 := uh_lt (lcN x (3 * i + 2))
          have u3 := uh_lt (lcN x (3 * i + 3))
          rw [l1, l2, l3, uh_nI, uh_nI, uh_nI, show (3 : Int32) = nI 3 from rfl, show (24 : Int32) = nI 24 from rfl, pk_rem (by omega) (by omega) (by omega), pk_rem (by omega) (by omega) (by omega), pk_rem (by omega) (by omega) (by omega)]
          refine (ct_add scr hv s hC (by rw [hE1]; omega) _ _ _).weak fun s2 ⟨C2, f2⟩ => W_X1_drawByLot_77 hv ?_
          rw [nI_add1]
          refine ih (i + 1) s2 (by omega) (C2.cg ?_ fun y hy => ?_) (fun a z => by rw [f2 a z]; exact hf a z)
          · show (if acr = 0 then 0 else i + 1) = (yrE x acr i).1 + 1
            rw [hE1, if_neg (by omega)]
          · show _ = (if y = (yrE x acr i).1 then _ else _) ∧ _ = (if y = (yrE x acr i).1 then _ else _) ∧ _ = (if y = (yrE x acr i).1 then _ else _)
            rw [hE1]
            by_cases z : y = i
            · rw [if_pos z, if_pos z, if_pos z, z]
              exact ⟨rfl, rfl, rfl⟩
            · rw [if_neg z, if_neg z, if_neg z]
              exact ⟨rfl, rfl, rfl⟩
    refine key n 0 s1 (by omega) ⟨?_, fun i hi => ?_⟩ (fun a z => by rw [e1, su_off _ _ _ _ (by omega)])
    · rw [e1, su_eq]
      show (0 : Int32) = nI (if acr = 0 then 0 else 0)
      rw [ite_self]
      rfl
    · have : i < (if acr = 0 then 0 else 0) := hi
      rw [ite_self] at this
      omega
  · rw [show (0 : Int32) = nI 0 from rfl, nI_lt' (by omega) (by omega)] at h
    have h0 : acr = 0 := by omega
    refine ⟨⟨?_, fun i hi => ?_⟩, fun a z => by rw [e1, su_off _ _ _ _ (by omega)]⟩
    · rw [e1, su_eq]
      show (0 : Int32) = nI (if acr = 0 then 0 else n)
      rw [if_pos h0]
      rfl
    · have : i < (if acr = 0 then 0 else n) := hi
      rw [if_pos h0] at this
      omega
/-- who stands -/
def wsI (T : TT) (E : EE) (ch m p : Nat) : Int32 := if (sim T E ch (m + 1)).1.testBit p = true then hcI T p else -1
theorem wh_nI {σ : Sg} {k q : Nat} {T : TT} (hT : TW T) (hC : TrC σ q T) {E : EE} {ch : Nat} (hP : PlR σ k T E ch 24) {m p : Nat} (hm : m < 24) (hp : p < 10) : whV σ k q (nI m) (nI p) = wsI T E ch m p := by
  have hb := (sim_B hT E ch (m + 1) (by omega)).1
  unfold whV wsI
  rw [show (24 : Int32) = nI 24 from rfl, show (10 : Int32) = nI 10 from rfl, isW_nI (by omega) (by omega), isW_nI (by omega) (by omega), if_pos hm, if_pos hp, if_neg (by decide), if_neg (by decide), tN_nI (by omega), tN_nI (by omega), hP.2.1 m hm, hC.2.2 p hp]
  have q1 : hbV (nI (sim T E ch (m + 1)).1) (nI p) = 0 ↔ (sim T E ch (m + 1)).1.testBit p = false := hbV_0 (by omega) (by omega)
  by_cases z : (sim T E ch (m + 1)).1.testBit p = false
  · rw [if_pos (q1.mpr z), if_neg (by rw [z]; simp)]
  · rw [if_neg (fun y => z (q1.mp y)), if_pos (by cases h : (sim T E ch (m + 1)).1.testBit p with | true => rfl | false => exact absurd h z)]
/-- what was seen -/
abbrev SI : Type := Nat × (Nat → Nat) × (Nat → Nat) × (Nat → Nat)
def SIW (I : SI) : Prop := I.1 ≤ 8 ∧ ∀ i, i < I.1 → I.2.1 i < 24 ∧ I.2.2.1 i < 10 ∧ I.2.2.2 i ≤ 10
def nbI (w : Nat) : Int32 := if w = 10 then -1 else nI w
def SiC (σ : Sg) (I : SI) : Prop := σ 14 3 = nI I.1 ∧ ∀ i, i < I.1 → σ 15 i = nI (I.2.1 i) ∧ σ 16 i = nI (I.2.2.1 i) ∧ σ 17 i = nbI (I.2.2.2 i)
theorem SiC.fr {σ σ' : Sg} {I : SI} (h : SiC σ I) (hf : ∀ a, 14 ≤ a → a ≤ 17 → σ' a = σ a) : SiC σ' I := by
  unfold SiC
  rw [hf 14 (by omega) (by omega), hf 15 (by omega) (by omega), hf 16 (by omega) (by omega), hf 17 (by omega) (by omega)]
  exact h
def fitN (T : TT) (E : EE) (ch : Nat) (I : SI) : Nat → Bool
  | 0 => true
  | i + 1 => fitN T E ch I i && decide (wsI T E ch (I.2.1 i) (I.2.2.1 i) = nbI (I.2.2.2 i))
def fitB (T : TT) (E : EE) (ch : Nat) (I : SI) : Bool := fitN T E ch I I.1
theorem fitN_f {T : TT} {E : EE} {ch : Nat} {I : SI} {i : Nat} (h : fitN T E ch I i = false) : ∀ j, fitN T E ch I (i + j) = false
  | 0 => h
  | j + 1 => by
    show (fitN T E ch I (i + j) && _) = false
    rw [fitN_f h j]
    rfl
def b2I (b : Bool) : Int32 := if b = true then 1 else 0
theorem ct_fit (scr : ScA) {q : Nat} (hq : isTr q) (σ : Sg) {T : TT} (hT : TW T) (hC : TrC σ q T) {E : EE} {ch : Nat} (hP : PlR σ 85 T E ch 24) {I : SI} (hI : SIW I) (hS : SiC σ I) : CiA scr 2 mX6_fit [.ref 14, .ref 85, .ref q] σ (fun r σ' => r = b2I (fitB T E ch I) ∧ σ' = σ) := by
  refine E_X6_fit (W_X6_fit_0 hq ?_)
  have h8 := hI.1
  have key : ∀ (j i : Nat), i + j = I.1 → fitN T E ch I i = true → K_X6_fit_2 scr q (nI i) σ (fun r σ' => r = b2I (fitB T E ch I) ∧ σ' = σ) := by
    intro j
    induction j with
    | zero =>
      intro i hi hf
      have : i = I.1 := by omega
      subst this
      refine W_X6_fit_2 hq ⟨fun _ => ⟨?_, rfl⟩, fun h => absurd ?_ h⟩
      · unfold b2I fitB
        rw [if_pos hf]
      · rw [hS.1]
        exact Int32.le_refl _
    | succ j ih =>
      intro i hi hf
      obtain ⟨c1, c2, c3⟩ := hS.2 i (by omega)
      obtain ⟨b1, b2, b3⟩ := hI.2 i (by omega)
      refine W_X6_fit_2 hq ⟨fun h => ?_, fun _ => ⟨inB_nI (by omega) (by decide), ?_⟩⟩
      · rw [hS.1, nI_le' (by omega) (by omega)] at h
        omega
      · rw [tN_nI (by omega), c1, c2, c3, wh_nI hT hC hP b1 b2]
        refine ⟨fun h => ?_, fun h => ⟨?_, rfl⟩⟩
        · rw [nI_add1]
          refine ih (i + 1) (by omega) ?_
          show (fitN T E ch I i && _) = true
          rw [hf]
          simp [h]
        · have h1 : fitN T E ch I (i + 1) = false := by
            show (fitN T E ch I i && _) = false
            rw [hf]
            simp [h]
          have h2 := fitN_f h1 j
          rw [show i + 1 + j = I.1 by omega] at h2
          unfold b2I fitB
          rw [if_neg (by rw [h2]; simp)]
  exact key I.1 0 (by omega) rfl
