/-! only the bits of events that are told count -/
theorem ga_cg {E : EE} {ch c2 : Nat} (h : ∀ i, i < E.1 → ch.testBit i = c2.testBit i) (m : Nat) : ∀ i, i ≤ E.1 → gaS E ch m i = gaS E c2 m i ∧ gaH E ch m i = gaH E c2 m i ∧ gaR E ch m i = gaR E c2 m i
  | 0, _ => ⟨rfl, rfl, rfl⟩
  | i + 1, hi => by
    obtain ⟨h1, h2, h3⟩ := ga_cg h m i (by omega)
    have e : evI E ch m i = evI E c2 m i := by unfold evI; rw [h i (by omega)]
    unfold gaS gaH gaR
    rw [h1, h2, h3, e]
    exact ⟨rfl, rfl, rfl⟩
theorem stp1_cg {T : TT} {E : EE} {ch c2 : Nat} (h : ∀ i, i < E.1 → ch.testBit i = c2.testBit i) (m : Nat) (S : SS) : stp1 T E ch m S = stp1 T E c2 m S := by
  obtain ⟨h1, h2, h3⟩ := ga_cg h m E.1 (Nat.le_refl _)
  unfold stp1 st2 st1
  rw [h1, h2, h3]
theorem sim_cg {T : TT} {E : EE} {ch c2 : Nat} (h : ∀ i, i < E.1 → ch.testBit i = c2.testBit i) : ∀ m, sim T E ch m = sim T E c2 m
  | 0 => rfl
  | m + 1 => by
    show stp1 T E ch m (sim T E ch m) = stp1 T E c2 m (sim T E c2 m)
    rw [sim_cg h m, stp1_cg h]
theorem ffN_cg {T : TT} {E : EE} {ch c2 : Nat} (h : ∀ i, i < E.1 → ch.testBit i = c2.testBit i) : ffN T E ch = ffN T E c2 := by
  unfold ffN
  rw [sim_cg h]
