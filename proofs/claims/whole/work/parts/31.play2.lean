/-! play -/
def sumP (T : TT) (E : EE) (ch : Nat) : Nat → Nat
  | 0 => 0
  | m + 1 => sumP T E ch m + pop (sim T E ch (m + 1)).1
/-- the show at k has been played -/
def PlR (σ : Sg) (k : Nat) (T : TT) (E : EE) (ch n : Nat) : Prop := ShS σ k T (sim T E ch n) ∧ (∀ m, m < n → σ (k + 1) m = nI (sim T E ch (m + 1)).1) ∧ σ k 10 = nI (sumP T E ch n) ∧ (k = 18 → ∀ m, m < n → ∀ a, a < tn T → ∀ y, y < 4 → σ (25 + m) (4 * a + y) = nI (fac T (sim T E ch (m + 1)) (ldAt T E ch m (sim T E ch m)) m a y))
def inSh (k a : Nat) : Prop := (k ≤ a ∧ a ≤ k + 5) ∨ (k = 18 ∧ 25 ≤ a ∧ a ≤ 48)
theorem inSh_tr {k q : Nat} (hk : isSw k) (hq : isTr q) {j : Nat} (hj : j ≤ 6) : ¬ inSh k (q + j) := by
  unfold inSh
  rcases hk with rfl | rfl | rfl | rfl | rfl <;> rcases hq with rfl | rfl | rfl <;> omega
theorem inSh_ev {k v : Nat} (hk : isSw k) (hv : isEv v) {j : Nat} (hj : j ≤ 3) : ¬ inSh k (v + j) := by
  unfold inSh
  rcases hk with rfl | rfl | rfl | rfl | rfl <;> rcases hv with rfl | rfl <;> omega
theorem dia_len {k : Nat} (hk : isSw k) : Int32.ofNat (S0 (k + 6)).2 = if k = 18 then nI 24 else nI 0 := by
  rcases hk with rfl | rfl | rfl | rfl | rfl <;> rfl
theorem ct_play_ (scr : ScA) {k q v : Nat} (hk : isSw k) (hq : isTr q) (hv : isEv v) (σ : Sg) {T : TT} (hT : TW T) (hC : TrC σ q T) {E : EE} (hE : EW E) (hV : EvC σ v E) {ch : Nat} (hch : ch < 2 ^ 31) (x4 : Int32) (P : Sg → Prop) (h0 : x4 = 0 → ∀ σ', PlR σ' k T E ch 24 → (∀ a, ¬ inSh k a → σ' a = σ a) → P σ') (h1 : ¬ x4 = 0 → ∀ σ', σ' k 12 = nI (sim T E ch 24).2.2.2.2.2 → (∀ a, ¬ inSh k a → σ' a = σ a) → P σ') : CvA scr 3 mX5_play [.ref k, .ref q, .ref v, .int (nI ch), .int x4] σ P := by
  refine E_X5_play (W_X5_play_0 hk hq hv ((ct_begin scr hk σ T hT).weak fun s0 ⟨S0', z10, f0⟩ => W_X5_play_4 hk hq hv ?_))
  have key : ∀ (j m : Nat) (s : Sg), m + j = 24 → PlR s k T E ch m → (∀ a, ¬ inSh k a → s a = σ a) → K_X5_play_7 scr k q v (nI ch) x4 (nI m) s P := by
    intro j
    induction j with
    | zero =>
      intro m s hm hP hf
      have : m = 24 := by omega
      subst this
      refine W_X5_play_7 hk hq hv ⟨fun _ => ?_, fun h => absurd (Int32.le_refl _) h⟩
      by_cases hx : x4 = 0
      · exact h0 hx s hP hf
      · exact h1 hx s hP.1.2.2.2 hf
    | succ j ih =>
      intro m s hm ⟨hS, htk, h10, hdi⟩ hf
      have hBm := sim_B hT E ch m (by omega)
      have hBm1 := sim_B hT E ch (m + 1) (by omega)
      refine play_body scr hk hq hv hT (hC.fr fun y hy => hf _ (inSh_tr hk hq hy)) hE (hV.fr fun y hy => hf _ (inSh_ev hk hv hy)) hch (by omega) (by omega) hBm hS (fun s7 S7 L7 f7 t7 k7 => ?_)
      have S7' : ShS s7 k T (sim T E ch (m + 1)) := S7
      have hf7 : ∀ a, ¬ inSh k a → s7 a = σ a := fun a ha => by rw [f7 a (fun z => ha (Or.inl z))]; exact hf a ha
      have step : inB (nI m) 24 = true ∧ (∀ σ1, σ1 = (su s7 (k + 1) (Int32.toNatClampNeg (nI m)) (s7 k 6)) → ∀ σ2, σ2 = (su σ1 k 10 ((σ1 k 10) + (bcV (σ1 k 6)))) → ((Int32.ofNat (S0 (k + 6)).2) ≤ nI m → K_X5_play_7 scr k q v (nI ch) x4 (nI m + 1) σ2 P) ∧ (¬ (Int32.ofNat (S0 (k + 6)).2) ≤ nI m → CvA scr 2 mX5_keepFacts [.ref k, .ref q, .int (nI m)] σ2 (fun σ' => K_X5_play_120 scr k q v (nI ch) x4 (nI m) σ' P))) := by
        refine ⟨inB_nI (by omega) (by decide), fun σ1 e1 σ2 e2 => ?_⟩
        rw [tN_nI (by omega), S7'.1] at e1
        have w6 : σ1 k 6 = nI (sim T E ch (m + 1)).1 := by rw [e1, su_nr _ _ _ _ (by omega)]; exact S7'.1
        have w10 : σ1 k 10 = nI (sumP T E ch m) := by rw [e1, su_nr _ _ _ _ (by omega), k7]; exact h10
        rw [w6, w10, bcV_nI _ hBm1.1, nI_add] at e2
        have g2 : ∀ a, a ≠ k → a ≠ k + 1 → σ2 a = s7 a := fun a z1 z2 => by rw [e2, e1, su_off _ _ _ _ z1, su_off _ _ _ _ z2]
        have S2 : ShS σ2 k T (sim T E ch (m + 1)) := by
          refine ⟨?_, fun a ha => ?_, ?_, ?_⟩
          · rw [e2, su_nc _ _ _ _ (by omega)]; exact w6
          · rw [g2 (k + 2) (by omega) (by omega), g2 (k + 3) (by omega) (by omega), g2 (k + 4) (by omega) (by omega)]
            exact S7'.2.1 a ha
          · rw [e2, su_nc _ _ _ _ (by omega), e1, su_nr _ _ _ _ (by omega)]; exact S7'.2.2.1
          · rw [e2, su_nc _ _ _ _ (by omega), e1, su_nr _ _ _ _ (by omega)]; exact S7'.2.2.2
        have tk2 : ∀ i, i < m + 1 → σ2 (k + 1) i = nI (sim T E ch (i + 1)).1 := fun i hi => by
          rw [e2, su_nr _ _ _ _ (by omega), e1]
          by_cases him : i = m
          · rw [him, su_eq]
          · rw [su_nc _ _ _ _ him, t7]
            exact htk i (by omega)
        have t10 : σ2 k 10 = nI (sumP T E ch (m + 1)) := by rw [e2, su_eq]; rfl
        have hf2 : ∀ a, ¬ inSh k a → σ2 a = σ a := fun a ha => by
          rw [g2 a (fun z => ha (Or.inl (by omega))) (fun z => ha (Or.inl (by omega)))]
          exact hf7 a ha
        rw [dia_len hk]
        refine ⟨fun h => ?_, fun h => ?_⟩
        · have hk18 : ¬ k = 18 := fun z => by
            rw [if_pos z, nI_le' (by omega) (by omega)] at h
            omega
          rw [nI_add1]
          exact ih (m + 1) σ2 (by omega) ⟨S2, tk2, t10, fun z => absurd z hk18⟩ hf2
        · have hk18 : k = 18 := by
            by_cases z : k = 18
            · exact z
            · rw [if_neg z, nI_le' (by omega) (by omega)] at h
              omega
          subst hk18
          have C2 : TrC σ2 q T := hC.fr fun y hy => hf2 _ (inSh_tr hk hq hy)
          refine (ct_keepFacts scr hq σ2 hT C2 hBm1 S2 (ldAt T E ch m (sim T E ch m)) (fun p hp => ?_) (by omega)).weak fun s9 ⟨d9, f9⟩ => W_X5_play_120 hk hq hv ?_
          · rw [g2 23 (by omega) (by omega)]
            exact L7 p hp
          · rw [nI_add1]
            have S9 : ShS s9 18 T (sim T E ch (m + 1)) := by
              unfold ShS
              rw [f9 18 (by omega), f9 (18 + 2) (by omega), f9 (18 + 3) (by omega), f9 (18 + 4) (by omega)]
              exact S2
            refine ih (m + 1) s9 (by omega) ⟨S9, ?_, ?_, fun _ i hi a ha y hy => ?_⟩ (fun a ha => ?_)
            · rw [f9 (18 + 1) (by omega)]
              exact tk2
            · rw [f9 18 (by omega)]
              exact t10
            · by_cases him : i = m
              · rw [him]
                exact d9 a ha y hy
              · rw [f9 (25 + i) (by omega), g2 (25 + i) (by omega) (by omega), f7 (25 + i) (by omega)]
                exact hdi rfl i (by omega) a ha y hy
            · rw [f9 a (fun z => ha (Or.inr (by omega)))]
              exact hf2 a ha
      refine W_X5_play_63 hk hq hv ⟨fun _ => step, fun hx => ⟨fun _ => step, fun hp => ?_⟩⟩
      rw [S7'.2.2.1, show (0 : Int32) = nI 0 from rfl, nI_le' (by have := hBm1.2.2.1; omega) (by omega)] at hp
      refine h1 hx s7 ?_ hf7
      have := (sim_ff hT E ch (m + 1) (by omega) (24 - (m + 1)) (by omega)).2
      rw [show m + 1 + (24 - (m + 1)) = 24 by omega] at this
      rw [this]
      exact S7'.2.2.2
  refine key 24 0 s0 (by omega) ⟨S0', fun m h => by omega, z10, fun _ m h => by omega⟩ (fun a ha => f0 a ?_)
  unfold inSh at ha
  omega
theorem ct_play (scr : ScA) {k q v : Nat} (hk : isSw k) (hq : isTr q) (hv : isEv v) (σ : Sg) {T : TT} (hT : TW T) (hC : TrC σ q T) {E : EE} (hE : EW E) (hV : EvC σ v E) {ch : Nat} (hch : ch < 2 ^ 31) : CvA scr 3 mX5_play [.ref k, .ref q, .ref v, .int (nI ch), .int 0] σ (fun σ' => PlR σ' k T E ch 24 ∧ ∀ a, ¬ inSh k a → σ' a = σ a) :=
  ct_play_ scr hk hq hv σ hT hC hE hV hch 0 _ (fun _ σ' h1 h2 => ⟨h1, h2⟩) (fun h => absurd rfl h)
theorem ct_playF (scr : ScA) {k q v : Nat} (hk : isSw k) (hq : isTr q) (hv : isEv v) (σ : Sg) {T : TT} (hT : TW T) (hC : TrC σ q T) {E : EE} (hE : EW E) (hV : EvC σ v E) {ch : Nat} (hch : ch < 2 ^ 31) : CvA scr 3 mX5_play [.ref k, .ref q, .ref v, .int (nI ch), .int 1] σ (fun σ' => σ' k 12 = nI (sim T E ch 24).2.2.2.2.2 ∧ ∀ a, ¬ inSh k a → σ' a = σ a) :=
  ct_play_ scr hk hq hv σ hT hC hE hV hch 1 _ (fun h => absurd h (by decide)) (fun _ σ' h1 h2 => ⟨h1, h2⟩)
