/-! the reference: a whole show -/
def tkO (T : TT) (E : EE) (ch m : Nat) : Nat := (sim T E ch (m + 1)).1
def evrO (T : TT) (E : EE) (ch : Nat) : Nat → Nat
  | 0 => 0
  | m + 1 => evrO T E ch m ||| tkO T E ch m
def moO (T : TT) (E : EE) (ch : Nat) : Nat → Nat
  | 0 => 0
  | j + 1 => if pop (tkO T E ch (moO T E ch j)) < pop (tkO T E ch (j + 1)) then j + 1 else moO T E ch j
def tpO (T : TT) (E : EE) (ch : Nat) : Nat → Option Nat
  | 0 => none
  | m + 1 => if (tkO T E ch m).testBit 9 = true then (match tpO T E ch m with
    | some x => some x
    | none => some m) else tpO T E ch m
def tcO (T : TT) (E : EE) (ch : Nat) : Nat → Nat
  | 0 => 0
  | m + 1 => if (tkO T E ch m).testBit 9 = true then tcO T E ch m + 1 else tcO T E ch m
theorem upN_or (T : TT) (b c : Nat) : ∀ n, upN T (b ||| c) n = upN T b n ||| upN T c n := fun n => by
  apply Nat.eq_of_testBit_eq
  intro a
  rw [Nat.testBit_or, upN_bit, upN_bit, upN_bit, Nat.testBit_or]
  cases decide (a < n) <;> simp
theorem sim_G {T : TT} (hT : TW T) (E : EE) (ch : Nat) : ∀ m, m ≤ 24 → GS T (sim T E ch m)
  | 0, _ => ⟨fun p hp h => absurd h (by show ¬ (0 : Nat).testBit p = true; rw [Nat.zero_testBit]; simp), fun i hi h => absurd h (by show ¬ (0 : Nat).testBit (4 + i) = true; rw [Nat.zero_testBit]; simp), fun a ha h => rfl, fun a ha => Or.inl rfl⟩
  | m + 1, h => by
    have ih := sim_G hT E ch m (by omega)
    have hB := sim_B hT E ch m (by omega)
    have g1 : GS T (st1 T E ch m (sim T E ch m)) := (ih.to_ hB.1 _ m).ap _
    have b1 := hB.s1 E ch (show m < 24 by omega)
    have g2 : GS T (st2 T E ch m (st1 T E ch m (sim T E ch m))) := GS.cl hT g1 b1.1 _ m (tn T) (Nat.le_refl _)
    have b2 := b1.s2 hT E ch m
    have g3 : GS T ((st2 T E ch m (st1 T E ch m (sim T E ch m))).1, trT T (st2 T E ch m (st1 T E ch m (sim T E ch m))).1 (ldF T (st2 T E ch m (st1 T E ch m (sim T E ch m))).1) (st2 T E ch m (st1 T E ch m (sim T E ch m))).2.1, (st2 T E ch m (st1 T E ch m (sim T E ch m))).2.2) := by
      refine ⟨g2.1, g2.2.1, fun a ha hb => ?_, g2.2.2.2⟩
      show trT T _ _ _ a = 0
      unfold trT
      rw [if_neg (show ¬ (st2 T E ch m (st1 T E ch m (sim T E ch m))).1.testBit (tpl T a) = true by rw [show (st2 T E ch m (st1 T E ch m (sim T E ch m))).1.testBit (tpl T a) = false from hb]; simp)]
      exact g2.2.2.1 a ha hb
    exact g3.to_ b2.1 _ m
/-- what is noted of n moments -/
def NT (σ : Sg) (T : TT) (E : EE) (ch n : Nat) : Prop := (∀ m, m < n → σ 155 m = nI (pop (tkO T E ch m)) ∧ σ 156 m = nI (tkO T E ch m) ∧ (∀ p, p < 10 → σ 157 (10 * m + p) = wsI T E ch m p) ∧ ∀ a, a < tn T → σ 158 (10 * m + a) = nI (faS T (sim T E ch (m + 1)) m a) ∧ σ 159 (10 * m + a) = nI (ldAt T E ch m (sim T E ch m) (tpl T a)) ∧ σ 160 (10 * m + a) = nI ((sim T E ch (m + 1)).2.1 a) ∧ σ 161 (10 * m + a) = nI ((sim T E ch (m + 1)).2.2.1 a)) ∧ σ 136 24 = nI (upN T (evrO T E ch n) (tn T)) ∧ σ 136 17 = nI (sumP T E ch n) ∧ (n = 0 → σ 136 21 = 0 ∧ σ 136 20 = -1) ∧ (∀ k, n = k + 1 → σ 136 21 = nI (moO T E ch k) ∧ σ 136 20 = nI (pop (tkO T E ch (moO T E ch k)))) ∧ σ 136 22 = oI (tpO T E ch n) ∧ σ 136 23 = nI (tcO T E ch n)
theorem NT.fr {σ σ' : Sg} {T : TT} {E : EE} {ch n : Nat} (h : NT σ T E ch n) (hf : frM σ σ') : NT σ' T E ch n := by
  have g : ∀ a, 155 ≤ a → a ≤ 161 → σ' a = σ a := fun a z1 z2 => funext fun c => hf a c (by omega) (by omega) (by omega) (by omega) (by omega) (by omega) (by omega)
  have g0 : ∀ c, c = 17 ∨ c = 20 ∨ c = 21 ∨ c = 22 ∨ c = 23 ∨ c = 24 → σ' 136 c = σ 136 c := fun c z => hf 136 c (by omega) (by omega) (by omega) (by omega) (by omega) (by omega) (by omega)
  unfold NT
  rw [g 155 (by omega) (by omega), g 156 (by omega) (by omega), g 157 (by omega) (by omega), g 158 (by omega) (by omega), g 159 (by omega) (by omega), g 160 (by omega) (by omega), g 161 (by omega) (by omega), g0 17 (by omega), g0 20 (by omega), g0 21 (by omega), g0 22 (by omega), g0 23 (by omega), g0 24 (by omega)]
  exact h
