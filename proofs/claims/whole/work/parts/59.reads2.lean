/-! one acrobat read -/
def okN (by' : Nat → Nat) (len n p : Nat) : Bool := decide (6 * n + p < len) && gpP by' n p (by' (6 * n + p))
def gdN (by' : Nat → Nat) (len n : Nat) : Nat := if okN by' len n 0 = true then (if okN by' len n 1 = true then (if okN by' len n 2 = true then (if okN by' len n 3 = true then (if okN by' len n 4 = true then 5 else 4) else 3) else 2) else 1) else 0
def e0 (x : Int32) : Int32 := if ¬ x = 115 then (if ¬ x = 116 then (if ¬ x = 99 then (-1) else 2 : Int32) else 1 : Int32) else 0
theorem e0_b : ∀ b, b < 256 → e0 (nI b) = if b = 115 ∨ b = 116 ∨ b = 99 then nI (so3 b) else -1 := by decide +kernel
theorem e0_m : e0 (-1) = -1 := by decide
theorem so3_ne : ∀ b, b < 256 → ¬ nI (so3 b) = -1 := by decide +kernel
theorem i1_b : ∀ b, b < 256 → (inV (nI b - 48) 1 9 = 0 ↔ ¬ (49 ≤ b ∧ b ≤ 57)) := by decide +kernel
theorem i3_b : ∀ b, b < 256 → (inV (nI b - 97) 0 23 = 0 ↔ ¬ (97 ≤ b ∧ b ≤ 120)) := by decide +kernel
theorem i4_b : ∀ b, b < 256 → (inV (nI b - 48) 0 9 = 0 ↔ ¬ (48 ≤ b ∧ b ≤ 57)) := by decide +kernel
theorem i_m : inV (-1 - 48) 1 9 = 0 ∧ inV (-1 - 97) 0 23 = 0 ∧ inV (-1 - 48) 0 9 = 0 := by decide
theorem ok_0 {σ : Sg} {by' : Nat → Nat} {len n : Nat} (h : TxM σ by' len) (hl : len ≤ 59) (hb : ∀ i, i < len → by' i < 256) (hn : n < 10) : e0 (byV σ (nI (6 * n))) = if okN by' len n 0 = true then nI (so3 (by' (6 * n))) else -1 := by
  rw [by_at h hl (by omega)]
  unfold okN
  by_cases z : 6 * n < len
  · rw [if_pos z, e0_b _ (hb _ z)]
    simp [gpP, z]
  · rw [if_neg z, e0_m]
    simp [z]
theorem ok_1 {σ : Sg} {by' : Nat → Nat} {len n p : Nat} (h : TxM σ by' len) (hl : len ≤ 59) (hb : ∀ i, i < len → by' i < 256) (hn : n < 10) (hp : p = 1 ∨ p = 2) : inV (byV σ (nI (6 * n + p)) - 48) 1 9 = 0 ↔ ¬ okN by' len n p = true := by
  rw [by_at h hl (by omega)]
  unfold okN
  by_cases z : 6 * n + p < len
  · rw [if_pos z, i1_b _ (hb _ z)]
    rcases hp with rfl | rfl <;> simp [gpP, z]
  · rw [if_neg z]
    simp [z]
    decide
theorem ok_3 {σ : Sg} {by' : Nat → Nat} {len n : Nat} (h : TxM σ by' len) (hl : len ≤ 59) (hb : ∀ i, i < len → by' i < 256) (hn : n < 10) : inV (byV σ (nI (6 * n + 3)) - 97) 0 23 = 0 ↔ ¬ okN by' len n 3 = true := by
  rw [by_at h hl (by omega)]
  unfold okN
  by_cases z : 6 * n + 3 < len
  · rw [if_pos z, i3_b _ (hb _ z)]
    simp [gpP, z]
  · rw [if_neg z]
    simp [z]
    decide
