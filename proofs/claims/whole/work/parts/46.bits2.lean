/-! bits, decided -/
theorem sup_0 : ∀ i, i < 6 → ∀ x, x < 1024 → (x &&& sup (4 + i) = 0 ↔ (x.testBit (lbN (4 + i)) = false ∧ x.testBit (lbN (4 + i) + 1) = false)) := by decide +kernel
theorem sup_1 : ∀ i, i < 6 → ∀ x, x < 1024 → (x &&& sup (4 + i) = sup (4 + i) ↔ (x.testBit (lbN (4 + i)) = true ∧ x.testBit (lbN (4 + i) + 1) = true)) := by decide +kernel
theorem pop_dif : ∀ p, p < 10 → ∀ y, y < 1024 → pop (dif y (2 ^ p)) + (if y.testBit p = true then 1 else 0) = pop y := by decide +kernel
