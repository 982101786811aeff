/-! the reference's show: what it holds -/
def cnX (T : TT) (x : Nat) : Nat → Nat
  | 0 => 0
  | a + 1 => if x.testBit (tpl T a) = true then cnX T x a + 1 else cnX T x a
def rsX (T : TT) (x : Nat) : Nat → Nat
  | 0 => x
  | a + 1 => dif (rsX T x a) (2 ^ tpl T a)
theorem rsX_lt {T : TT} {x : Nat} (hx : x < 1024) : ∀ n, rsX T x n < 1024
  | 0 => hx
  | n + 1 => dif_lt _ (rsX_lt hx n)
theorem rsX_bit {T : TT} {x : Nat} : ∀ (n : Nat) {p : Nat}, p < 10 → (rsX T x n).testBit p = (x.testBit p && decide (∀ a, a < n → tpl T a ≠ p))
  | 0, p, _ => by simp [rsX]
  | n + 1, p, hp => by
    unfold rsX
    rw [dif_bit _ _ hp, rsX_bit n hp, Nat.testBit_two_pow]
    by_cases h : tpl T n = p
    · have : ¬ ∀ a, a < n + 1 → tpl T a ≠ p := fun z => z n (by omega) h
      simp [h, this]
    · have e : (∀ a, a < n + 1 → tpl T a ≠ p) ↔ ∀ a, a < n → tpl T a ≠ p := ⟨fun z a ha => z a (by omega), fun z a ha => by
        rcases Nat.lt_or_ge a n with q | q
        · exact z a q
        · rw [show a = n by omega]; exact h⟩
      simp [h, e]
theorem cnX_rs {T : TT} (hT : TW T) {x : Nat} (hx : x < 1024) : ∀ n, n ≤ tn T → cnX T x n + pop (rsX T x n) = pop x
  | 0, _ => by simp [cnX, rsX]
  | n + 1, h => by
    have ih := cnX_rs hT hx n (by omega)
    have hp := (hT.2.1 n (by omega)).2.2.2.2.2.2
    have h1 := pop_dif (tpl T n) hp (rsX T x n) (rsX_lt hx n)
    have h2 : (rsX T x n).testBit (tpl T n) = x.testBit (tpl T n) := by
      rw [rsX_bit n hp]
      have : ∀ a, a < n → tpl T a ≠ tpl T n := fun a ha z => by
        have := hT.2.2 a n (by omega) (by omega) z
        omega
      rw [decide_eq_true this, Bool.and_true]
    rw [h2] at h1
    unfold cnX rsX
    split
    · rename_i z
      rw [if_pos z] at h1
      omega
    · rename_i z
      rw [if_neg z] at h1
      omega
theorem cnX_pop {T : TT} (hT : TW T) {x : Nat} (hx : x < 1024) (hh : ∀ p, p < 10 → x.testBit p = true → ∃ a, a < tn T ∧ tpl T a = p) : cnX T x (tn T) = pop x := by
  have h := cnX_rs hT hx (tn T) (Nat.le_refl _)
  have h0 : rsX T x (tn T) = 0 := by
    apply Nat.eq_of_testBit_eq
    intro p
    rw [Nat.zero_testBit]
    rcases Nat.lt_or_ge p 10 with q | q
    · rw [rsX_bit _ q]
      cases hb : x.testBit p with
      | false => rfl
      | true =>
        obtain ⟨a, ha, hp⟩ := hh p q hb
        have : ¬ ∀ a, a < tn T → tpl T a ≠ p := fun z => z a ha hp
        simp [this]
    · cases hb : (rsX T x (tn T)).testBit p with
      | false => rfl
      | true => exact absurd (bit_lt (rsX_lt hx _) hb) (by omega)
  rw [h0] at h
  have hp0 : pop 0 = 0 := by decide
  omega
/-- the acrobats who are up, by number -/
def upN (T : TT) (b : Nat) : Nat → Nat
  | 0 => 0
  | a + 1 => if b.testBit (tpl T a) = true then upN T b a ||| 2 ^ a else upN T b a
theorem upN_lt (T : TT) (b : Nat) : ∀ n, n ≤ 10 → upN T b n < 1024
  | 0, _ => (show 0 < 1024 by omega)
  | n + 1, h => by
    have ih := upN_lt T b n (by omega)
    unfold upN
    split
    · exact or_lt (n := 10) ih (pow_lt (n := 10) (by omega))
    · exact ih
theorem upN_bit (T : TT) (b : Nat) : ∀ n a, (upN T b n).testBit a = (decide (a < n) && b.testBit (tpl T a))
  | 0, a => by simp [upN]
  | n + 1, a => by
    have ih := upN_bit T b n a
    unfold upN
    split
    · rename_i z
      rw [or_bit, ih]
      by_cases h : n = a
      · subst h; simp [z]
      · have : a < n + 1 ↔ a < n := by omega
        simp [h, this]
    · rename_i z
      rw [ih]
      by_cases h : n = a
      · subst h
        simp at z
        simp [z]
      · have : a < n + 1 ↔ a < n := by omega
        simp [this]
theorem upN_of {T : TT} {b u : Nat} (hn : tn T ≤ 10) (hu : u < 1024) (h : ∀ a, a < 10 → u.testBit a = (decide (a < tn T) && b.testBit (tpl T a))) : u = upN T b (tn T) := by
  apply Nat.eq_of_testBit_eq
  intro a
  rcases Nat.lt_or_ge a 10 with q | q
  · rw [h a q, upN_bit]
  · have e1 : u.testBit a = false := by
      cases hb : u.testBit a with
      | false => rfl
      | true => exact absurd (bit_lt hu hb) (by omega)
    rw [e1, upN_bit]
    have : ¬ a < tn T := by omega
    simp [this]
def faI (l : Nat) : Int32 := if l = 0 then -1 else nI (l - 3)
def ffI (f : Nat) : Int32 := if f = 24 then -1 else nI f
def woI (T : TT) (b p : Nat) : Int32 := if b.testBit p = true then hcI T p else -1
/-- the troupe, the events, the state -/
def MT (σ : Sg) (T : TT) : Prop := σ 136 2 = nI (tn T) ∧ ∀ a, a < tn T → σ 138 a = nI (tso T a) ∧ σ 139 a = nI (twe T a) ∧ σ 140 a = nI (tst T a) ∧ σ 141 a = nI (tco T a) ∧ σ 142 a = nI (tpl T a)
theorem MT.fr {σ σ' : Sg} {T : TT} (h : MT σ T) (h0 : σ' 136 2 = σ 136 2) (hf : ∀ a, 138 ≤ a → a ≤ 142 → σ' a = σ a) : MT σ' T := by
  unfold MT
  rw [h0, hf 138 (by omega) (by omega), hf 139 (by omega) (by omega), hf 140 (by omega) (by omega), hf 141 (by omega) (by omega), hf 142 (by omega) (by omega)]
  exact h
def ME (σ : Sg) (E : EE) (N : Nat) : Prop := σ 136 12 = nI E.1 ∧ σ 136 16 = nI N ∧ ∀ i, i < E.1 → σ 146 i = nI (E.2.1 i) ∧ σ 147 i = nI (E.2.2.1 i) ∧ σ 148 i = nI (E.2.2.2 i)
theorem ME.fr {σ σ' : Sg} {E : EE} {N : Nat} (h : ME σ E N) (h0 : σ' 136 12 = σ 136 12) (h1 : σ' 136 16 = σ 136 16) (hf : ∀ a, 146 ≤ a → a ≤ 148 → σ' a = σ a) : ME σ' E N := by
  unfold ME
  rw [h0, h1, hf 146 (by omega) (by omega), hf 147 (by omega) (by omega), hf 148 (by omega) (by omega)]
  exact h
/-- a state that can be -/
def GS (T : TT) (S : SS) : Prop := (∀ p, p < 10 → S.1.testBit p = true → ∃ a, a < tn T ∧ tpl T a = p) ∧ (∀ i, i < 6 → S.1.testBit (4 + i) = true → S.1.testBit (lbN (4 + i)) = true ∧ S.1.testBit (lbN (4 + i) + 1) = true) ∧ (∀ a, a < tn T → S.1.testBit (tpl T a) = false → S.2.1 a = 0) ∧ ∀ a, a < tn T → S.2.2.2.1 a = 0 ∨ 3 ≤ S.2.2.2.1 a
/-- the state, with x falling -/
def MS (σ : Sg) (T : TT) (S : SS) (x : Nat) : Prop := (∀ p, p < 10 → σ 149 p = woI T S.1 p) ∧ σ 136 25 = nI (upN T S.1 (tn T)) ∧ (∀ a, a < tn T → σ 150 a = nI (S.2.1 a) ∧ σ 152 a = nI (S.2.2.1 a) ∧ σ 153 a = faI (S.2.2.2.1 a) ∧ σ 154 a = if x.testBit (tpl T a) = true then 1 else 0) ∧ σ 136 18 = nI S.2.2.2.2.1 ∧ σ 136 19 = ffI S.2.2.2.2.2
theorem wo_m1 {T : TT} (hT : TW T) {b p : Nat} (hh : b.testBit p = true → ∃ a, a < tn T ∧ tpl T a = p) : woI T b p = -1 ↔ b.testBit p = false := by
  unfold woI
  have h10 := hT.1
  cases hb : b.testBit p with
  | false => simp
  | true =>
    obtain ⟨a, ha, hp⟩ := hh hb
    rw [if_pos rfl, hc_of hT ha hp]
    exact ⟨fun z => absurd z (nI_m1_ne (by omega)), fun z => by cases z⟩
theorem bl_nI {i : Nat} (h : i < 6) : blV (nI (4 + i)) = nI (lbN (4 + i)) := (by decide +kernel : ∀ i, i < 6 → blV (nI (4 + i)) = nI (lbN (4 + i))) i h
theorem flL_sub {b x : Nat} (hx : ∀ p, x.testBit p = true → b.testBit p = true) : ∀ i p, (flL b x i).testBit p = true → b.testBit p = true
  | 0, p, h => hx p h
  | i + 1, p, h => by
    rw [flL_bit] at h
    split at h
    · rename_i z
      rw [or_bit] at h
      rcases Bool.or_eq_true_iff.mp h with h | h
      · exact flL_sub hx i p h
      · have : 4 + i = p := by simpa using h
        rw [← this]; exact z.1
    · exact flL_sub hx i p h
