/-! the reference reads -/
def TxM (σ : Sg) (by' : Nat → Nat) (len : Nat) : Prop := σ 136 0 = nI len ∧ ∀ i, i < len → σ 137 i = nI (by' i)
theorem by_at {σ : Sg} {by' : Nat → Nat} {len : Nat} (h : TxM σ by' len) (hl : len ≤ 59) {i : Nat} (hi : i < 100) : byV σ (nI i) = if i < len then nI (by' i) else -1 := by
  unfold byV
  rw [h.1, tN_nI (by omega)]
  have q : nI len ≤ nI i ↔ ¬ i < len := by rw [nI_le' (by omega) (by omega)]; omega
  by_cases z : i < len
  · rw [if_neg (fun y => q.mp y z), if_pos z, h.2 i z]
  · rw [if_pos (q.mpr z), if_neg z]
theorem ct_isTaken (scr : ScA) (σ : Sg) {by' : Nat → Nat} {n p : Nat} (hn : n ≤ 10) (hp : p < 10) (hr : ∀ a, a < n → σ 142 a = nI (plB by' a)) (hb : ∀ a, a < n → plB by' a < 10) : CiA scr 0 mX11_isTaken [.ref 136, .int (nI n), .int (nI p)] σ (fun r σ' => r = (if (hdF (plB by') p n).isNone = true then 0 else 1) ∧ σ' = σ) := by
  refine E_X11_isTaken (W_X11_isTaken_0 ?_)
  have key : ∀ (j k : Nat), k + j = n → K_X11_isTaken_5 scr (nI n) (nI p) (if (hdF (plB by') p k).isNone = true then 0 else 1) (nI k) σ (fun r σ' => r = (if (hdF (plB by') p n).isNone = true then 0 else 1) ∧ σ' = σ) := by
    intro j
    induction j with
    | zero =>
      intro k hk
      have : k = n := by omega
      subst this
      exact W_X11_isTaken_5 ⟨fun _ => ⟨by split <;> simp, rfl, rfl⟩, fun h => absurd (Int32.le_refl _) h⟩
    | succ j ih =>
      intro k hk
      have hbk := hb k (by omega)
      refine W_X11_isTaken_5 ⟨fun h => ?_, fun _ => ⟨fun _ => inB_nI (by omega) (by decide), ?_⟩⟩
      · rw [nI_le' (by omega) (by omega)] at h
        omega
      rw [tN_nI (by omega), hr k (by omega), nI_add1]
      have i1 := ih (k + 1) (by omega)
      have es : hdF (plB by') p (k + 1) = match hdF (plB by') p k with | some a => some a | none => if plB by' k = p then some k else none := rfl
      have q : nI (plB by' k) = nI p ↔ plB by' k = p := nI_inj (by omega) (by omega)
      have ev : (if ¬ (if (hdF (plB by') p k).isNone = true then 0 else 1 : Int32) = 0 then 1 else (if ¬ nI (plB by' k) = nI p then 0 else 1 : Int32) : Int32) = (if (hdF (plB by') p (k + 1)).isNone = true then 0 else 1) := by
        rw [es]
        cases hx : hdF (plB by') p k with
        | some a => simp
        | none =>
          by_cases y : plB by' k = p
          · simp [y]
          · have : ¬ nI (plB by' k) = nI p := fun x => y (q.mp x)
            simp [y, this]
      rw [ev]
      exact i1
  exact key n 0 (by omega)
