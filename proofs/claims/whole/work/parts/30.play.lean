/-! a whole show -/
theorem play_body (scr : ScA) {k q v : Nat} (hk : isSw k) (hq : isTr q) (hv : isEv v) {σ : Sg} {T : TT} (hT : TW T) (hC : TrC σ q T) {E : EE} (hE : EW E) (hV : EvC σ v E) {ch m M : Nat} (hch : ch < 2 ^ 31) (hm : m < 24) {S : SS} (hM : M ≤ 90000) (hB : SB T M S) (hS : ShS σ k T S) {x4 : Int32} {P : Sg → Prop}
    (H : ∀ σ', ShS σ' k T (stp1 T E ch m S) → (∀ p, p < 10 → σ' (k + 5) p = nI (ldAt T E ch m S p)) → (∀ a, ¬ (k ≤ a ∧ a ≤ k + 5) → σ' a = σ a) → σ' (k + 1) = σ (k + 1) → σ' k 10 = σ k 10 → K_X5_play_63 scr k q v (nI ch) x4 (nI m) σ' P) : K_X5_play_7 scr k q v (nI ch) x4 (nI m) σ P := by
  have hE8 := hE.1
  have hout : ∀ {j : Nat}, j ≤ 6 → ¬ (k ≤ q + j ∧ q + j ≤ k + 5) := fun {j} hj z => absurd rfl (fun h : q + j = q + j => by
    have := swtr hk hq (i := q + j - k) (j := j) (by omega) hj
    omega)
  have houv : ∀ {j : Nat}, j ≤ 3 → ¬ (k ≤ v + j ∧ v + j ≤ k + 5) := fun {j} hj z => absurd rfl (fun h : v + j = v + j => by
    have := swev hk hv (i := v + j - k) (j := j) (by omega) hj
    omega)
  have trf : ∀ s : Sg, (∀ a, ¬ (k ≤ a ∧ a ≤ k + 5) → s a = σ a) → TrC s q T := fun s hs => hC.fr fun y hy => hs _ (hout hy)
  refine W_X5_play_7 hk hq hv ⟨fun h => ?_, fun _ => ?_⟩
  · rw [show (24 : Int32) = nI 24 from rfl, nI_le' (by omega) (by omega)] at h
    omega
  refine (ct_gather scr hk hv σ hE hV hch hm).weak fun s1 ⟨g7, g8, g9, gf⟩ => W_X5_play_22 hk hq hv ?_
  have n1 : ∀ a, ¬ (k ≤ a ∧ a ≤ k + 5) → s1 a = σ a := fun a ha => funext fun b => gf a b (fun z => ha (by omega))
  have n1' : ∀ a, a ≠ k → s1 a = σ a := fun a ha => funext fun b => gf a b (fun z => ha z.1)
  have S1 : ShS s1 k T S := by
    refine ⟨by rw [gf k 6 (by omega)]; exact hS.1, fun a ha => ?_, by rw [gf k 11 (by omega)]; exact hS.2.2.1, by rw [gf k 12 (by omega)]; exact hS.2.2.2⟩
    rw [n1' (k + 2) (by omega), n1' (k + 3) (by omega), n1' (k + 4) (by omega)]
    exact hS.2.1 a ha
  refine (ct_sneezing scr hk hq s1 hT (trf s1 n1) (gaS_lt hE ch m _ (Nat.le_refl _)) g7).weak fun r s1' ⟨hr, hs1⟩ => ?_
  subst hr hs1
  refine W_X5_play_29 hk hq hv ((ct_topple scr hk hq s1' hT (trf s1' n1) (by omega) hB S1 (szB_lt hT (gaS E ch m E.1) _ (Nat.le_refl _)) hm).weak fun s2 ⟨S2, f2⟩ => W_X5_play_34 hk hq hv ?_)
  have n2 : ∀ a, ¬ (k ≤ a ∧ a ≤ k + 5) → s2 a = σ a := fun a ha => by
    rw [← n1 a ha]
    funext b
    exact f2 a b (fun z => ha (by omega)) (fun z => ha (by omega)) (fun z => ha (by omega)) (fun z => ha (by omega))
  have B2 := hB.to_ (szB T (gaS E ch m E.1) (tn T)) hm
  have hgr := gaR_le E ch m E.1
  refine (ct_applaud scr hk hq s2 hT (trf s2 n2) (rl := gaR E ch m E.1) (by omega) (by rw [f2 k 9 (by omega) (by omega) (by omega) (by omega)]; exact g9) _ (fun a ha => ⟨(S2.2.1 a ha).1, by have := (B2.2.1 a ha).1; omega⟩)).weak fun s3 ⟨f, e3, hf⟩ => W_X5_play_39 hk hq hv ?_
  have n3 : ∀ a, ¬ (k ≤ a ∧ a ≤ k + 5) → s3 a = σ a := fun a ha => by
    rw [← n2 a ha, e3]
    funext b
    exact sr_ne _ _ _ (by omega)
  have n3' : ∀ a, a ≠ k + 2 → s3 a = s2 a := fun a ha => by rw [e3]; funext b; exact sr_ne _ _ _ ha
  have S3 : ShS s3 k T (st1 T E ch m S) := by
    refine ⟨by rw [n3' k (by omega)]; exact S2.1, fun a ha => ?_, by rw [n3' k (by omega)]; exact S2.2.2.1, by rw [n3' k (by omega)]; exact S2.2.2.2⟩
    rw [n3' (k + 3) (by omega), n3' (k + 4) (by omega)]
    refine ⟨?_, (S2.2.1 a ha).2⟩
    rw [e3, sr_at]
    exact hf a ha
  have B3 : SB T (M + 10) (st1 T E ch m S) := hB.s1 E ch hm
  have k8 : s3 k 8 = nI (gaH E ch m E.1) := by rw [n3' k (by omega), f2 k 8 (by omega) (by omega) (by omega) (by omega)]; exact g8
  refine (ct_climb scr hk hq s3 hT (trf s3 n3) hm (gaH_lt hE ch m _ (Nat.le_refl _)) B3.1 _ S3.1 k8 (fun a ha => ⟨(S3.2.1 a ha).2.2, by have := (B3.2.1 a ha).2.2; omega⟩)).weak fun s4 e4 => W_X5_play_46 hk hq hv ?_
  have n4' : ∀ a, a ≠ k → s4 a = s3 a := fun a ha => by rw [e4, su_off _ _ _ _ ha]
  have n4 : ∀ a, ¬ (k ≤ a ∧ a ≤ k + 5) → s4 a = σ a := fun a ha => by rw [n4' a (by omega)]; exact n3 a ha
  have S4 : ShS s4 k T (st2 T E ch m (st1 T E ch m S)) := by
    refine ⟨by rw [e4, su_eq]; rfl, fun a ha => ?_, by rw [e4, su_nc _ _ _ _ (by omega)]; exact S3.2.2.1, by rw [e4, su_nc _ _ _ _ (by omega)]; exact S3.2.2.2⟩
    rw [n4' (k + 2) (by omega), n4' (k + 3) (by omega), n4' (k + 4) (by omega)]
    exact S3.2.1 a ha
  have B4 : SB T (M + 10) (st2 T E ch m (st1 T E ch m S)) := B3.s2 hT E ch m
  generalize hS4 : st2 T E ch m (st1 T E ch m S) = S' at S4 B4
  refine (ct_bear scr hk hq s4 hT (trf s4 n4) B4.1 S4.1).weak fun s5 ⟨fl, e5, hl⟩ => W_X5_play_51 hk hq hv ?_
  have n5' : ∀ a, a ≠ k + 5 → s5 a = s4 a := fun a ha => by rw [e5]; funext b; exact sr_ne _ _ _ ha
  have n5 : ∀ a, ¬ (k ≤ a ∧ a ≤ k + 5) → s5 a = σ a := fun a ha => by rw [n5' a (by omega)]; exact n4 a ha
  have L5 : ∀ p, p < 10 → s5 (k + 5) p = nI (ldF T S'.1 p) := fun p hp => by rw [e5, sr_at]; exact hl p hp
  refine (ct_tire scr hk hq s5 hT (trf s5 n5) B4.1 (by rw [n5' k (by omega)]; exact S4.1) (ldF T S'.1) S'.2.1 (fun p hp => ⟨L5 p hp, by have := ldF_le hT S'.1 p; omega⟩) (fun a ha => ⟨by rw [n5' (k + 2) (by omega)]; exact (S4.2.1 a ha).1, by have := (B4.2.1 a ha).1; omega⟩)).weak fun r6 s6 ⟨hr6, f6, e6, ht6⟩ => W_X5_play_58 hk hq hv ?_
  subst hr6
  have n6' : ∀ a, a ≠ k + 2 → s6 a = s5 a := fun a ha => by rw [e6]; funext b; exact sr_ne _ _ _ ha
  have n6 : ∀ a, ¬ (k ≤ a ∧ a ≤ k + 5) → s6 a = σ a := fun a ha => by rw [n6' a (by omega)]; exact n5 a ha
  have S6 : ShS s6 k T (S'.1, trT T S'.1 (ldF T S'.1) S'.2.1, S'.2.2) := by
    refine ⟨by rw [n6' k (by omega), n5' k (by omega)]; exact S4.1, fun a ha => ?_, by rw [n6' k (by omega), n5' k (by omega)]; exact S4.2.2.1, by rw [n6' k (by omega), n5' k (by omega)]; exact S4.2.2.2⟩
    rw [n6' (k + 3) (by omega), n6' (k + 4) (by omega), n5' (k + 3) (by omega), n5' (k + 4) (by omega)]
    refine ⟨?_, (S4.2.1 a ha).2⟩
    rw [e6, sr_at]
    exact ht6 a ha
  refine (ct_topple scr hk hq s6 hT (trf s6 n6) (by omega) (B4.tr hT) S6 (gvB_lt hT S'.1 (ldF T S'.1) S'.2.1 _ (Nat.le_refl _)) hm).weak fun s7 ⟨S7, f7⟩ => H s7 ?_ ?_ ?_ ?_ ?_
  · unfold stp1 st3
    rw [hS4]
    exact S7
  · intro p hp
    rw [f7 (k + 5) p (by omega) (by omega) (by omega) (by omega), n6' (k + 5) (by omega), L5 p hp]
    unfold ldAt
    rw [hS4]
  · intro a ha
    rw [← n6 a ha]
    funext b
    exact f7 a b (fun z => ha (by omega)) (fun z => ha (by omega)) (fun z => ha (by omega)) (fun z => ha (by omega))
  · funext b
    rw [f7 (k + 1) b (by omega) (by omega) (by omega) (by omega), n6' _ (by omega), n5' _ (by omega), n4' _ (by omega), n3' _ (by omega), f2 (k + 1) b (by omega) (by omega) (by omega) (by omega), n1' _ (by omega)]
  · rw [f7 k 10 (by omega) (by omega) (by omega) (by omega), n6' _ (by omega), n5' _ (by omega), e4, su_nc _ _ _ _ (by omega), n3' _ (by omega), f2 k 10 (by omega) (by omega) (by omega) (by omega), gf k 10 (by omega)]
/-- falls and the first fall -/
theorem pop_pos : ∀ x, x < 1024 → x ≠ 0 → 0 < pop x := by decide +kernel
theorem flL_ne {b x : Nat} (hx : x ≠ 0) : ∀ i, flL b x i ≠ 0
  | 0 => hx
  | i + 1 => by
    have ih := flL_ne (b := b) hx i
    rw [flL_bit]
    split
    · intro h
      have : flL b x i ≤ flL b x i ||| 2 ^ (4 + i) := Nat.left_le_or
      omega
    · exact ih
def FR (m : Nat) (S : SS) : Prop := (S.2.2.2.2.1 = 0 ∧ S.2.2.2.2.2 = 24) ∨ (0 < S.2.2.2.2.1 ∧ S.2.2.2.2.2 ≤ m)
theorem FR.to_ {T : TT} {m g : Nat} {S : SS} (h : FR m S) (hm : m < 24) (hb : S.1 < 1024) : FR m (toS T S g m) ∧ (0 < S.2.2.2.2.1 → (toS T S g m).2.2.2.2.2 = S.2.2.2.2.2) := by
  unfold toS
  split
  · exact ⟨h, fun _ => rfl⟩
  · rename_i hne
    have hx0 : g &&& S.1 < 1024 := by rw [Nat.and_comm]; exact and_lt (n := 10) _ hb
    have hp := pop_pos _ (flL_lt hx0 6 (by omega)) (flL_ne (b := S.1) hne 6)
    refine ⟨Or.inr ⟨?_, ?_⟩, fun hp => ?_⟩
    · show 0 < S.2.2.2.2.1 + pop (flN S.1 (g &&& S.1))
      unfold flN
      omega
    · show (if m < S.2.2.2.2.2 then m else S.2.2.2.2.2) ≤ m
      split <;> omega
    · show (if m < S.2.2.2.2.2 then m else S.2.2.2.2.2) = S.2.2.2.2.2
      rcases h with h | h
      · omega
      · rw [if_neg (by omega)]
theorem FR.stp {T : TT} (hT : TW T) (E : EE) (ch : Nat) {M m : Nat} {S : SS} (hB : SB T M S) (h : FR m S) (hm : m < 24) : FR m (stp1 T E ch m S) ∧ (0 < S.2.2.2.2.1 → (stp1 T E ch m S).2.2.2.2.2 = S.2.2.2.2.2 ∧ 0 < (stp1 T E ch m S).2.2.2.2.1) := by
  have h1 := h.to_ (T := T) (g := szB T (gaS E ch m E.1) (tn T)) hm hB.1
  have B3 := (hB.s1 E ch hm).s2 hT E ch m
  have h2 : FR m ((st2 T E ch m (st1 T E ch m S)).1, trT T (st2 T E ch m (st1 T E ch m S)).1 (ldF T (st2 T E ch m (st1 T E ch m S)).1) (st2 T E ch m (st1 T E ch m S)).2.1, (st2 T E ch m (st1 T E ch m S)).2.2) := h1.1
  have h3 := h2.to_ (T := T) (g := gvB T (st2 T E ch m (st1 T E ch m S)).1 (ldF T (st2 T E ch m (st1 T E ch m S)).1) (st2 T E ch m (st1 T E ch m S)).2.1 (tn T)) hm B3.1
  refine ⟨h3.1, fun hp => ?_⟩
  have a1 := h1.2 hp
  have p1 : 0 < (toS T S (szB T (gaS E ch m E.1) (tn T)) m).2.2.2.2.1 := by
    rcases h1.1 with z | z
    · rcases h with y | y
      · omega
      · omega
    · exact z.1
  have a2 := h3.2 p1
  have e2 : (stp1 T E ch m S).2.2.2.2.2 = S.2.2.2.2.2 := a2.trans a1
  refine ⟨e2, ?_⟩
  rcases h3.1 with z | z
  · have : (stp1 T E ch m S).2.2.2.2.2 = 24 := z.2
    rcases h with y | y <;> omega
  · exact z.1
theorem FR.mono {m n : Nat} {S : SS} (h : FR m S) (hn : m ≤ n) : FR n S := h.elim Or.inl fun z => Or.inr ⟨z.1, by omega⟩
theorem sim_FR {T : TT} (hT : TW T) (E : EE) (ch : Nat) : ∀ m, m ≤ 24 → FR m (sim T E ch m)
  | 0, _ => Or.inl ⟨rfl, rfl⟩
  | m + 1, h => ((FR.stp hT E ch (sim_B hT E ch m (by omega)) (sim_FR hT E ch m (by omega)) (by omega)).1).mono (by omega)
theorem sim_ff {T : TT} (hT : TW T) (E : EE) (ch m : Nat) (hp : 0 < (sim T E ch m).2.2.2.2.1) : ∀ j, m + j ≤ 24 → 0 < (sim T E ch (m + j)).2.2.2.2.1 ∧ (sim T E ch (m + j)).2.2.2.2.2 = (sim T E ch m).2.2.2.2.2
  | 0, _ => ⟨hp, rfl⟩
  | j + 1, h => by
    have ih := sim_ff hT E ch m hp j (by omega)
    have := (FR.stp hT E ch (sim_B hT E ch (m + j) (by omega)) (sim_FR hT E ch (m + j) (by omega)) (by omega)).2 ih.1
    exact ⟨this.2, this.1.trans ih.2⟩
