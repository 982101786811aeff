/-! the law's loop -/
theorem RC.lo {σ σ' : Sg} {b : AB} (h : RC σ b) (hf : ∀ a, a < 136 → σ' a = σ a) : RC σ' b := by
  obtain ⟨hW, hB, hS, hP, hG, hU⟩ := h
  have h0 := hf 0 (by omega)
  exact ⟨hW, hB.fr (by rw [h0]) (by rw [h0]) (fun a ha => hf a (by omega)), hS.fr (by rw [h0]) (fun a ha => hf a (by omega)), hP.fr hW.T.1 (fun a ha => hf a (by omega)), hG.fr (fun a ha => hf a (by omega)), hU.fr (fun a ha => hf a (by omega))⟩
theorem RM.hi {σ σ' : Sg} {b : AB} (h : RM σ b) (hf : ∀ a, 136 ≤ a → σ' a = σ a) : RM σ' b := by
  unfold RM TxM
  rw [hf 136 (by omega), hf 137 (by omega), hf 143 (by omega), hf 144 (by omega), hf 145 (by omega), hf 163 (by omega), hf 164 (by omega), hf 165 (by omega), hf 167 (by omega), hf 168 (by omega), hf 169 (by omega), hf 170 (by omega)]
  exact h
theorem lw2 {scr : ScA} {d1 d2 : Nat} {M1 M2 : MD} {as1 as2 : List Value} {b : AB} {t : Int32 × AB} {σ : Sg} (h1 : OkC scr d1 M1 as1 b t) (h2 : OkM scr d2 M2 as2 b t) (hC : RC σ b) (hM : RM σ b) {Ka : Int32 → Sg → Prop} {Kb : Int32 → Int32 → Sg → Prop} {N Z : Sg → Prop} (hKa : ∀ y s, CiA scr d2 M2 as2 s (fun r9 σ' => Kb y r9 σ') → Ka y s) (hKb : ∀ y0 y1 s, (y0 = y1 → N s) ∧ (¬ y0 = y1 → Z s) → Kb y0 y1 s) (go : ∀ s b', RC s b' → RM s b' → N s) : CiA scr d1 M1 as1 σ (fun r9 σ' => Ka r9 σ') :=
  (h1 σ hC).weak fun r s ⟨e, R, f⟩ => hKa r s ((h2 s (hM.hi f)).weak fun r2 s2 ⟨e2, R2, f2⟩ => hKb r r2 s2 ⟨fun _ => go s2 t.2 (R.lo f2) R2, fun n => absurd (e.trans e2.symm) n⟩)
theorem lw2L {scr : ScA} {d1 d2 : Nat} {M1 M2 : MD} {as1 as2 : List Value} {b : AB} {t : Int64} {σ : Sg} (h1 : OkL scr d1 M1 as1 b t) (h2 : OmL scr d2 M2 as2 b t) (hC : RC σ b) (hM : RM σ b) {Ka : Int64 → Sg → Prop} {Kb : Int64 → Int64 → Sg → Prop} {N Z : Sg → Prop} (hKa : ∀ y s, ClA scr d2 M2 as2 s (fun r9 σ' => Kb y r9 σ') → Ka y s) (hKb : ∀ y0 y1 s, (lg_cmp y0 y1 = 0 → N s) ∧ (¬ lg_cmp y0 y1 = 0 → Z s) → Kb y0 y1 s) (go : ∀ s b', RC s b' → RM s b' → N s) : ClA scr d1 M1 as1 σ (fun r9 σ' => Ka r9 σ') :=
  (h1 σ hC).weak fun r s ⟨e, R, f⟩ => hKa r s ((h2 s (hM.hi f)).weak fun r2 s2 ⟨e2, R2, f2⟩ => hKb r r2 s2 ⟨fun _ => go s2 b (R.lo f2) R2, fun n => absurd ((lg_cmp_eq _ _).mpr (e.trans e2.symm)) n⟩)
theorem lw_cmp {n k : Nat} (hn : n < 2 ^ 31) (hk : k < 2 ^ 31) : nI n - 6 < nI k ↔ n < k + 6 := by
  rcases Nat.lt_or_ge n 6 with q | q
  · have h1 : nI n - 6 < 0 := (by decide : ∀ n, n < 6 → nI n - 6 < 0) n q
    exact ⟨fun _ => by omega, fun _ => Int32.lt_of_lt_of_le h1 (nI_pos' hk)⟩
  · rw [show (6 : Int32) = nI 6 from rfl, pk_sub q, nI_lt' (by omega) hk]
    omega
/-- the run of calls: all answers are the same -/
theorem law_run (scr : ScA) (hn : scr.1 < 2 ^ 31) : ∀ (f k : Nat) (σ : Sg) (b : AB), scr.1 ≤ k + f → k ≤ scr.1 → RC σ b → RM σ b → K_L_law_18 scr (nI k) σ (fun r _ => r = 1) := by
  intro f
  induction f with
  | zero =>
    intro k σ b hf hk hC hM
    refine W_L_law_18 ⟨fun _ => rfl, fun h => absurd ?_ h⟩
    show nI scr.1 - 6 < nI k
    rw [lw_cmp hn (by omega)]
    omega
  | succ f ih =>
    intro k σ b hf hk hC hM
    refine W_L_law_18 ⟨fun _ => rfl, fun h => ?_⟩
    have h6 : k + 6 ≤ scr.1 := by
      have h' : ¬ nI scr.1 - 6 < nI k := h
      rw [lw_cmp hn (by omega)] at h'
      omega
    have go : ∀ s b', RC s b' → RM s b' → K_L_law_18 scr (nI k + 6) s (fun r _ => r = 1) := fun s b' h1 h2 => by
      rw [show (6 : Int32) = nI 6 from rfl, nI_add]
      exact ih (k + 6) s b' (by omega) h6 h1 h2
    have i0 : inB (nI k) scr.1 = true := inB_nI (by omega) hn
    have i1 : inB (nI k + 1) scr.1 = true := by rw [nI_add1]; exact inB_nI (by omega) hn
    have i2 : inB (nI k + 2) scr.1 = true := by rw [c2, nI_add]; exact inB_nI (by omega) hn
    have i3 : inB (nI k + 3) scr.1 = true := by rw [c3, nI_add]; exact inB_nI (by omega) hn
    have i4 : inB (nI k + 4) scr.1 = true := by rw [c4, nI_add]; exact inB_nI (by omega) hn
    have i5 : inB (nI k + 5) scr.1 = true := by rw [show (5 : Int32) = nI 5 from rfl, nI_add]; exact inB_nI (by omega) hn
    refine ⟨i0, fun _ => ⟨i1, lw2 (ok_type scr b _) (om_type scr b _) hC hM (fun y s h => W_L_law_197 ⟨i1, h⟩) (fun y0 y1 s h => W_L_law_206 h) go⟩,
      fun _ => lw2 (ok_wipe scr b) (om_wipe scr b) hC hM (fun y s h => W_L_law_215 h) (fun y0 y1 s h => W_L_law_219 h) go,
      fun _ => lw2 (ok_undo scr b) (om_undo scr b) hC hM (fun y s h => W_L_law_228 h) (fun y0 y1 s h => W_L_law_232 h) go,
      fun _ => lw2 (ok_fault scr b) (om_fault scr b) hC hM (fun y s h => W_L_law_241 h) (fun y0 y1 s h => W_L_law_245 h) go,
      fun _ => ⟨i1, i2, lw2 (ok_acrobat scr b _ _) (om_acrobat scr b _ _) hC hM (fun y s h => W_L_law_264 ⟨i1, i2, h⟩) (fun y0 y1 s h => W_L_law_278 h) go⟩,
      fun _ => ⟨i1, i2, i3, lw2 (ok_event scr b _ _ _) (om_event scr b _ _ _) hC hM (fun y s h => W_L_law_302 ⟨i1, i2, i3, h⟩) (fun y0 y1 s h => W_L_law_321 h) go⟩,
      fun _ => lw2 (ok_back scr b) (om_back scr b) hC hM (fun y s h => W_L_law_330 h) (fun y0 y1 s h => W_L_law_334 h) go,
      fun _ => ⟨i1, lw2 (ok_read scr b _) (om_read scr b _) hC hM (fun y s h => W_L_law_348 ⟨i1, h⟩) (fun y0 y1 s h => W_L_law_357 h) go⟩,
      fun _ => ⟨i1, i2, i3, lw2 (ok_at scr b _ _ _) (om_at scr b _ _ _) hC hM (fun y s h => W_L_law_381 ⟨i1, i2, i3, h⟩) (fun y0 y1 s h => W_L_law_400 h) go⟩,
      fun _ => ⟨i1, i2, lw2 (ok_stands scr b _ _) (om_stands scr b _ _) hC hM (fun y s h => W_L_law_419 ⟨i1, i2, h⟩) (fun y0 y1 s h => W_L_law_433 h) go⟩,
      fun _ => ⟨i1, i2, lw2 (ok_tower scr b _ _) (om_tower scr b _ _) hC hM (fun y s h => W_L_law_452 ⟨i1, i2, h⟩) (fun y0 y1 s h => W_L_law_466 h) go⟩,
      fun _ => ⟨i1, lw2 (ok_sum scr b _) (om_sum scr b _) hC hM (fun y s h => W_L_law_480 ⟨i1, h⟩) (fun y0 y1 s h => W_L_law_489 h) go⟩,
      fun _ => ⟨i1, lw2 (ok_top scr b _) (om_top scr b _) hC hM (fun y s h => W_L_law_503 ⟨i1, h⟩) (fun y0 y1 s h => W_L_law_512 h) go⟩,
      fun _ => ⟨i1, lw2 (ok_most scr b _) (om_most scr b _) hC hM (fun y s h => W_L_law_526 ⟨i1, h⟩) (fun y0 y1 s h => W_L_law_535 h) go⟩,
      fun _ => lw2 (ok_clumsy scr b) (om_clumsy scr b) hC hM (fun y s h => W_L_law_544 h) (fun y0 y1 s h => W_L_law_548 h) go,
      fun _ => lw2 (ok_down scr b) (om_down scr b) hC hM (fun y s h => W_L_law_557 h) (fun y0 y1 s h => W_L_law_561 h) go,
      fun _ => ⟨i1, lw2 (ok_swap scr b _) (om_swap scr b _) hC hM (fun y s h => W_L_law_575 ⟨i1, h⟩) (fun y0 y1 s h => W_L_law_584 h) go⟩,
      fun _ => ⟨i1, i2, lw2 (ok_come scr b _ _) (om_come scr b _ _) hC hM (fun y s h => W_L_law_603 ⟨i1, i2, h⟩) (fun y0 y1 s h => W_L_law_617 h) go⟩,
      fun _ => ⟨i1, lw2 (ok_train scr b _) (om_train scr b _) hC hM (fun y s h => W_L_law_631 ⟨i1, h⟩) (fun y0 y1 s h => W_L_law_640 h) go⟩,
      fun _ => ⟨i1, lw2 (ok_spare scr b _) (om_spare scr b _) hC hM (fun y s h => W_L_law_654 ⟨i1, h⟩) (fun y0 y1 s h => W_L_law_663 h) go⟩,
      fun _ => ⟨i1, i2, i3, lw2 (ok_seen scr b _ _ _) (om_seen scr b _ _ _) hC hM (fun y s h => W_L_law_687 ⟨i1, i2, i3, h⟩) (fun y0 y1 s h => W_L_law_706 h) go⟩,
      fun _ => lw2 (ok_forget scr b) (om_forget scr b) hC hM (fun y s h => W_L_law_715 h) (fun y0 y1 s h => W_L_law_719 h) go,
      fun _ => lw2 (ok_never scr b) (om_never scr b) hC hM (fun y s h => W_L_law_728 h) (fun y0 y1 s h => W_L_law_732 h) go,
      fun _ => ⟨i1, i2, lw2 (ok_was scr b _ _) (om_was scr b _ _) hC hM (fun y s h => W_L_law_751 ⟨i1, i2, h⟩) (fun y0 y1 s h => W_L_law_765 h) go⟩,
      fun _ => ⟨i1, lw2 (ok_ask scr b _) (om_ask scr b _) hC hM (fun y s h => W_L_law_779 ⟨i1, h⟩) (fun y0 y1 s h => W_L_law_788 h) go⟩,
      fun _ => ⟨i1, i2, i3, lw2L (ok_chance scr b _ _ _) (om_chance scr b _ _ _) hC hM (fun y s h => W_L_law_812 ⟨i1, i2, i3, h⟩) (fun y0 y1 s h => W_L_law_831 h) go⟩,
      fun _ => ⟨i1, i2, i3, lw2 (ok_years scr b _ _ _) (om_years scr b _ _ _) hC hM (fun y s h => W_L_law_856 ⟨i1, i2, i3, h⟩) (fun y0 y1 s h => W_L_law_875 h) go⟩,
      fun _ => ⟨i1, i2, i3, lw2 (ok_sheet scr b _ _ _) (om_sheet scr b _ _ _) hC hM (fun y s h => W_L_law_899 ⟨i1, i2, i3, h⟩) (fun y0 y1 s h => W_L_law_918 h) go⟩,
      fun _ => ⟨i1, lw2 (ok_lose scr b _) (om_lose scr b _) hC hM (fun y s h => W_L_law_932 ⟨i1, h⟩) (fun y0 y1 s h => W_L_law_941 h) go⟩,
      fun _ => ⟨i1, i2, i3, i4, lw2 (ok_put scr b _ _ _ _) (om_put scr b _ _ _ _) hC hM (fun y s h => W_L_law_970 ⟨i1, i2, i3, i4, h⟩) (fun y0 y1 s h => W_L_law_994 h) go⟩,
      fun _ => ⟨i1, i2, i3, lw2 (ok_get scr b _ _ _) (om_get scr b _ _ _) hC hM (fun y s h => W_L_law_1018 ⟨i1, i2, i3, h⟩) (fun y0 y1 s h => W_L_law_1037 h) go⟩,
      fun _ => ⟨i1, i2, i3, i4, i5, lw2 (ok_copy scr b _ _ _ _ _) (om_copy scr b _ _ _ _ _) hC hM (fun y s h => W_L_law_1071 ⟨i1, i2, i3, i4, i5, h⟩) (fun y0 y1 s h => W_L_law_1100 h) go⟩,
      fun _ => ⟨i1, i2, lw2 (ok_write scr b _ _) (om_write scr b _ _) hC hM (fun y s h => W_L_law_1119 ⟨i1, i2, h⟩) (fun y0 y1 s h => W_L_law_1133 h) go⟩,
      fun _ => ⟨i1, lw2 (ok_count scr b _) (om_count scr b _) hC hM (fun y s h => W_L_law_1147 ⟨i1, h⟩) (fun y0 y1 s h => W_L_law_1156 h) go⟩,
      fun _ => lw2L (ok_digest scr b) (om_digest scr b) hC hM (fun y s h => W_L_law_1165 h) (fun y0 y1 s h => W_L_law_1169 h) go,
      fun _ _ _ _ _ _ _ _ _ _ _ _ _ _ _ _ _ _ _ _ _ _ _ _ _ _ _ _ _ _ _ _ _ _ _ => go σ b hC hM⟩
