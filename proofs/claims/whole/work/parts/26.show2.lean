/-! sneezing, applaud, climb, bear, tire, topple -/
theorem ct_sneezing (scr : ScA) {k q : Nat} (hk : isSw k) (hq : isTr q) (σ : Sg) {T : TT} (hT : TW T) (hC : TrC σ q T) {sn : Nat} (hsn : sn < 1024) (h7 : σ k 7 = nI sn) : CiA scr 1 mX5_sneezing [.ref k, .ref q] σ (fun r σ' => r = nI (szB T sn (tn T)) ∧ σ' = σ) := by
  refine E_X5_sneezing (W_X5_sneezing_0 hk hq ?_)
  have hn := hT.1
  have key : ∀ (j i : Nat), i + j = tn T → K_X5_sneezing_4 scr k q (nI (szB T sn i)) (nI i) σ (fun r σ' => r = nI (szB T sn (tn T)) ∧ σ' = σ) := by
    intro j
    induction j with
    | zero =>
      intro i hi
      have : i = tn T := by omega
      subst this
      refine W_X5_sneezing_4 hk hq ⟨fun _ => ⟨rfl, rfl⟩, fun _ => ⟨fun _ => ⟨rfl, rfl⟩, fun h => absurd ?_ h⟩⟩
      rw [hC.1]
      exact Int32.le_refl _
    | succ j ih =>
      intro i hi
      obtain ⟨-, -, -, -, hpl⟩ := hC.2.1 i (by omega)
      have hp := (hT.2.1 i (by omega)).2.2.2.2.2.2
      refine W_X5_sneezing_4 hk hq ⟨fun h0 => ?_, fun _ => ⟨fun h => ?_, fun _ => ⟨fun _ => inB_nI (by omega) (by omega), ?_⟩⟩⟩
      · rw [h7, show (0 : Int32) = nI 0 from rfl, nI_inj (by omega) (by omega)] at h0
        rw [h0, szB_0, szB_0]
        exact ⟨rfl, rfl⟩
      · rw [hC.1, nI_le' (by omega) (by omega)] at h
        omega
      · have e : (if hbV (σ k 7) (nI i) = 0 then nI (szB T sn i) else nI (szB T sn i) ||| (1 : Int32) <<< (σ (q + 5) (Int32.toNatClampNeg (nI i)) &&& 31) : Int32) = nI (szB T sn (i + 1)) := by
          rw [h7, tN_nI (by omega), hpl, shl1 (by omega), or_nI]
          show _ = nI (if sn.testBit i = true then szB T sn i ||| 2 ^ (tpl T i) else szB T sn i)
          by_cases hb : sn.testBit i = true
          · rw [if_pos hb, if_neg (by rw [hbV_0 (by omega) (by omega), hb]; decide)]
          · rw [if_neg hb, if_pos (by rw [hbV_0 (by omega) (by omega)]; exact Bool.eq_false_iff.mpr hb)]
        rw [e, nI_add1]
        exact ih (i + 1) (by omega)
  exact key (tn T) 0 (by omega)
theorem ct_applaud (scr : ScA) {k q : Nat} (hk : isSw k) (hq : isTr q) (σ : Sg) {T : TT} (hT : TW T) (hC : TrC σ q T) {rl : Nat} (hrl : rl < 1000) (h9 : σ k 9 = nI rl) (ti : Nat → Nat) (hti : ∀ a, a < tn T → σ (k + 2) a = nI (ti a) ∧ ti a < 1000000) : CvA scr 1 mX5_applaud [.ref k, .ref q] σ (fun σ' => ∃ f, σ' = sr σ (k + 2) f ∧ ∀ a, a < tn T → f a = nI (ti a - rl)) := by
  refine E_X5_applaud (W_X5_applaud_0 hk hq ?_)
  have hn := hT.1
  have key : ∀ (j i : Nat) (f : Nat → Int32), i + j = tn T → (∀ a, a < i → f a = nI (ti a - rl)) → (∀ a, i ≤ a → a < tn T → f a = nI (ti a)) → K_X5_applaud_2 scr k q (nI i) (sr σ (k + 2) f) (fun σ' => ∃ f, σ' = sr σ (k + 2) f ∧ ∀ a, a < tn T → f a = nI (ti a - rl)) := by
    intro j
    induction j with
    | zero =>
      intro i f hi h1 h2
      have e : sr σ (k + 2) f q 6 = nI (tn T) := by
        rw [sr_ne _ _ _ (by have := swtr hk hq (i := 2) (j := 0) (by omega) (by omega); omega)]
        exact hC.1
      refine W_X5_applaud_2 hk hq ⟨fun _ => ⟨f, rfl, fun a ha => h1 a (by omega)⟩, fun _ => ⟨fun _ => ⟨f, rfl, fun a ha => h1 a (by omega)⟩, fun h => absurd ?_ h⟩⟩
      rw [e, show i = tn T by omega]
      exact Int32.le_refl _
    | succ j ih =>
      intro i f hi h1 h2
      have e : sr σ (k + 2) f q 6 = nI (tn T) := by
        rw [sr_ne _ _ _ (by have := swtr hk hq (i := 2) (j := 0) (by omega) (by omega); omega)]
        exact hC.1
      have e9 : sr σ (k + 2) f k 9 = nI rl := by rw [sr_ne _ _ _ (by omega)]; exact h9
      refine W_X5_applaud_2 hk hq ⟨fun h => ?_, fun hpos => ⟨fun h => ?_, fun _ => ⟨inB_nI (by omega) (by omega), fun σ1 e1 => ?_⟩⟩⟩
      · rw [e9, show (0 : Int32) = nI 0 from rfl, nI_le' (by omega) (by omega)] at h
        refine ⟨f, rfl, fun a ha => ?_⟩
        rcases Nat.lt_or_ge a i with q1 | q1
        · exact h1 a q1
        · rw [h2 a q1 ha, show ti a - rl = ti a by omega]
      · rw [e, nI_le' (by omega) (by omega)] at h
        omega
      · have hb := (hti i (by omega)).2
        have ev : (if 0 < sr σ (k + 2) f (k + 2) (Int32.toNatClampNeg (nI i)) - sr σ (k + 2) f k 9 then sr σ (k + 2) f (k + 2) (Int32.toNatClampNeg (nI i)) - sr σ (k + 2) f k 9 else 0 : Int32) = nI (ti i - rl) := by
          rw [e9, sr_at, tN_nI (by omega), h2 i (Nat.le_refl _) (by omega)]
          rcases Nat.lt_or_ge rl (ti i) with g | g
          · rw [pk_sub (by omega), if_pos]
            rw [show (0 : Int32) = nI 0 from rfl, nI_lt' (by omega) (by omega)]
            omega
          · rw [show ti i - rl = 0 by omega, if_neg]
            · rfl
            · intro hlt
              rcases Nat.lt_or_ge (ti i) rl with g2 | g2
              · have hneg := pk_sneg (a := ti i) (b := rl) (by omega) g2
                rw [Int32.lt_iff_toInt_lt] at hlt hneg
                have : (0 : Int32).toInt = 0 := by decide
                omega
              · rw [show ti i = rl by omega, pk_sub (Nat.le_refl _), Nat.sub_self] at hlt
                exact absurd hlt (by decide)
        rw [ev, tN_nI (by omega), su_sr] at e1
        rw [e1, nI_add1]
        refine ih (i + 1) _ (by omega) (fun a ha => ?_) (fun a ha1 ha2 => ?_)
        · rcases Nat.lt_or_ge a i with q1 | q1
          · rw [upd_ne _ _ (by omega)]; exact h1 a q1
          · rw [show a = i by omega, upd_eq]
        · rw [upd_ne _ _ (by omega)]; exact h2 a (by omega) ha2
  have h0 := key (tn T) 0 (σ (k + 2)) (by omega) (fun a ha => by omega) (fun a _ ha => (hti a ha).1)
  rw [sr_id] at h0
  exact h0
theorem ct_climb (scr : ScA) {k q : Nat} (hk : isSw k) (hq : isTr q) (σ : Sg) {T : TT} (hT : TW T) (hC : TrC σ q T) {m he b : Nat} (hm : m < 24) (hhe : he < 1024) (hb : b < 1024) (ll : Nat → Nat) (h6 : σ k 6 = nI b) (h8 : σ k 8 = nI he) (hll : ∀ a, a < tn T → σ (k + 4) a = lyI (ll a) ∧ ll a < 1000) : CvA scr 1 mX5_climb [.ref k, .ref q, .int (nI m)] σ (fun σ' => σ' = su σ k 6 (nI (clB T ll he m b (tn T)))) := by
  refine E_X5_climb (W_X5_climb_0 hk hq ?_)
  have hn := hT.1
  have key : ∀ (j i : Nat), i + j = tn T → K_X5_climb_2 scr k q (nI m) (nI i) (su σ k 6 (nI (clB T ll he m b i))) (fun σ' => σ' = su σ k 6 (nI (clB T ll he m b (tn T)))) := by
    intro j
    induction j with
    | zero =>
      intro i hi
      have e : su σ k 6 (nI (clB T ll he m b i)) q 6 = nI (tn T) := by
        rw [su_nr _ _ _ _ (by have := swtr hk hq (i := 0) (j := 0) (by omega) (by omega); omega)]
        exact hC.1
      have : i = tn T := by omega
      subst this
      refine W_X5_climb_2 hk hq ⟨fun _ => rfl, fun h => absurd ?_ h⟩
      rw [e]
      exact Int32.le_refl _
    | succ j ih =>
      intro i hi
      generalize hs : su σ k 6 (nI (clB T ll he m b i)) = s
      have hqn : ∀ x y, x ≤ 6 → s (q + x) y = σ (q + x) y := fun x y hx => by rw [← hs]; exact su_nr _ _ _ _ (swtr hk hq (i := 0) (j := x) (by omega) hx)
      have hq0 : s q 6 = nI (tn T) := by have := hqn 0 6 (by omega); rw [Nat.add_zero] at this; rw [this]; exact hC.1
      obtain ⟨-, -, -, c4, c5⟩ := hC.2.1 i (by omega)
      obtain ⟨-, -, -, -, -, hco, hp⟩ := hT.2.1 i (by omega)
      have hbl := clB_lt hT ll he m hb i (by omega)
      have r4 : s (q + 4) (Int32.toNatClampNeg (nI i)) = nI (tco T i) := by rw [tN_nI (by omega), hqn 4 i (by omega), c4]
      have r5 : s (q + 5) (Int32.toNatClampNeg (nI i)) = nI (tpl T i) := by rw [tN_nI (by omega), hqn 5 i (by omega), c5]
      have rl : s (k + 4) (Int32.toNatClampNeg (nI i)) = lyI (ll i) := by rw [tN_nI (by omega), ← hs, su_nr _ _ _ _ (by omega)]; exact (hll i (by omega)).1
      have r8 : s k 8 = nI he := by rw [← hs, su_nc _ _ _ _ (by omega)]; exact h8
      have r6 : s k 6 = nI (clB T ll he m b i) := by rw [← hs, su_eq]
      have hlb := (hll i (by omega)).2
      have hkeep : clB T ll he m b (i + 1) = clB T ll he m b i → K_X5_climb_2 scr k q (nI m) (nI i + 1) s (fun σ' => σ' = su σ k 6 (nI (clB T ll he m b (tn T)))) := fun e => by
        rw [nI_add1, ← hs, ← e]
        exact ih (i + 1) (by omega)
      have hcond : ((if nI m < s (q + 4) (Int32.toNatClampNeg (nI i)) then 0 else (if nI m ≤ s (k + 4) (Int32.toNatClampNeg (nI i)) then 0 else (if ¬ hbV (s k 8) (nI i) = 0 then 0 else 1 : Int32) : Int32) : Int32) = 0) ↔ ¬ (tco T i ≤ m ∧ ll i ≤ m ∧ he.testBit i = false) := by
        rw [r4, rl, r8]
        have q1 : nI m < nI (tco T i) ↔ m < tco T i := nI_lt' (by omega) (by omega)
        have q2 := lyI_le (m := m) (l := ll i) (by omega) hlb
        have q3 : hbV (nI he) (nI i) = 0 ↔ he.testBit i = false := hbV_0 (by omega) (by omega)
        by_cases g1 : m < tco T i
        · rw [if_pos (q1.mpr g1)]
          exact ⟨fun _ g => by omega, fun _ => rfl⟩
        · rw [if_neg (fun g => g1 (q1.mp g))]
          by_cases g2 : m < ll i
          · rw [if_pos (q2.mpr g2)]
            exact ⟨fun _ g => by omega, fun _ => rfl⟩
          · rw [if_neg (fun g => g2 (q2.mp g))]
            by_cases g3 : he.testBit i = false
            · rw [if_neg (not_not_intro (q3.mpr g3))]
              exact ⟨fun g => absurd g (by decide), fun g => absurd ⟨by omega, by omega, g3⟩ g⟩
            · rw [if_pos (fun g => g3 (q3.mp g))]
              exact ⟨fun _ g => g3 g.2.2, fun _ => rfl⟩
      refine W_X5_climb_2 hk hq ⟨fun h => ?_, fun _ => ⟨inB_nI (by omega) (by omega), fun h => ?_, fun h => ⟨fun hw => ?_, fun _ => ⟨?_, fun hsu => ?_, fun hsu σ1 e1 => ?_⟩⟩⟩⟩
      · rw [hq0, nI_le' (by omega) (by omega)] at h
        omega
      · refine hkeep ?_
        rw [hcond] at h
        rw [clB, if_neg (fun g => h ⟨g.1, g.2.1, g.2.2.1⟩)]
      · rw [r5, show (10 : Int32) = nI 10 from rfl, isW_nI (by omega) (by omega), if_pos hp] at hw
        exact absurd hw (by decide)
      · rw [r5]; exact inB_nI hp (by omega)
      · refine hkeep ?_
        rw [r5, tN_nI (by omega), tb1 scr hp, r6, and_nI, nI_inj (Nat.lt_trans (and_lt (n := 10) _ hbl) (by decide)) (Nat.lt_trans (sup_lt _) (by decide))] at hsu
        rw [clB, if_neg (fun g => hsu g.2.2.2)]
      · rw [r5, tN_nI (by omega), tb1 scr hp, r6, and_nI, nI_inj (Nat.lt_trans (and_lt (n := 10) _ hbl) (by decide)) (Nat.lt_trans (sup_lt _) (by decide))] at hsu
        have hc : tco T i ≤ m ∧ ll i ≤ m ∧ he.testBit i = false := Decidable.not_not.mp (fun g => h (hcond.mpr g))
        have e : clB T ll he m b (i + 1) = clB T ll he m b i ||| 2 ^ (tpl T i) := by rw [clB, if_pos ⟨hc.1, hc.2.1, hc.2.2, hsu⟩]
        rw [r5, r6, shl1 (by omega), or_nI, ← e, ← hs, su_su] at e1
        rw [e1, nI_add1]
        exact ih (i + 1) (by omega)
  have h0 := key (tn T) 0 (by omega)
  have e0 : su σ k 6 (nI (clB T ll he m b 0)) = σ := by
    funext x y
    by_cases h : x = k ∧ y = 6
    · obtain ⟨rfl, rfl⟩ := h
      rw [su_eq]
      exact h6.symm
    · exact frS x y h
  rw [e0] at h0
  exact h0
