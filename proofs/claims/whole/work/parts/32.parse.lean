/-! what is typed, read -/
def so3 (b : Nat) : Nat := if b = 115 then 0 else if b = 116 then 1 else 2
def plB (by' : Nat → Nat) (a : Nat) : Nat := by' (6 * a + 4) - 48
def TB (by' : Nat → Nat) (n : Nat) : TT := (n, fun a => so3 (by' (6 * a)), fun a => by' (6 * a + 1) - 48, fun a => by' (6 * a + 2) - 48, fun a => by' (6 * a + 3) - 97, plB by')
/-- the part of an acrobat that a byte is, is good -/
def gpP (by' : Nat → Nat) (n part b : Nat) : Bool := match part with
  | 0 => decide (b = 115 ∨ b = 116 ∨ b = 99)
  | 1 => decide (49 ≤ b ∧ b ≤ 57)
  | 2 => decide (49 ≤ b ∧ b ≤ 57)
  | 3 => decide (97 ≤ b ∧ b ≤ 120)
  | 4 => decide (48 ≤ b ∧ b ≤ 57) && (hdF (plB by') (b - 48) n).isNone
  | _ => decide (b = 59)
def gp (by' : Nat → Nat) (i : Nat) : Bool := gpP by' (i / 6) (i % 6) (by' i)
def ffl (by' : Nat → Nat) : Nat → Option Nat
  | 0 => none
  | i + 1 => match ffl by' i with
    | some j => some j
    | none => if gp by' i = true then none else some i
def fau (by' : Nat → Nat) (len : Nat) : Option Nat := match ffl by' len with
  | some j => some j
  | none => if len = 0 ∨ len % 6 = 5 then none else some len
def fauI (by' : Nat → Nat) (len : Nat) : Int32 := match fau by' len with
  | some j => nI j
  | none => -1
def TX (by' : Nat → Nat) (len : Nat) : TT := match fau by' len with
  | some _ => TB by' 0
  | none => TB by' ((len + 1) / 6)
theorem ffl_lt {by' : Nat → Nat} : ∀ {n i : Nat}, ffl by' n = some i → i < n ∧ gp by' i = false
  | 0, i, h => by cases h
  | n + 1, i, h => by
    unfold ffl at h
    cases h1 : ffl by' n with
    | some j => rw [h1] at h; cases h; have := ffl_lt h1; exact ⟨by omega, this.2⟩
    | none =>
      rw [h1] at h
      by_cases hg : gp by' n = true
      · simp only [if_pos hg] at h; cases h
      · simp only [if_neg hg] at h; cases h; exact ⟨by omega, by cases hh : gp by' n with | true => exact absurd hh hg | false => rfl⟩
theorem ffl_none {by' : Nat → Nat} : ∀ {n : Nat}, ffl by' n = none → ∀ i, i < n → gp by' i = true
  | 0, _, i, h => by omega
  | n + 1, h, i, hi => by
    unfold ffl at h
    cases h1 : ffl by' n with
    | some j => rw [h1] at h; cases h
    | none =>
      rw [h1] at h
      by_cases hg : gp by' n = true
      · rcases Nat.lt_or_ge i n with h2 | h2
        · exact ffl_none h1 i h2
        · rw [show i = n by omega]; exact hg
      · simp only [if_neg hg] at h; cases h
theorem ffl_of {by' : Nat → Nat} : ∀ {n : Nat}, (∀ i, i < n → gp by' i = true) → ffl by' n = none
  | 0, _ => rfl
  | n + 1, h => by
    unfold ffl
    rw [ffl_of (n := n) fun i hi => h i (by omega)]
    simp only [if_pos (h n (by omega))]
theorem ffl_at {by' : Nat → Nat} {i : Nat} (h : ∀ j, j < i → gp by' j = true) (hi : gp by' i = false) : ∀ {n : Nat}, i < n → ffl by' n = some i
  | 0, h0 => by omega
  | n + 1, h0 => by
    unfold ffl
    rcases Nat.lt_or_ge i n with h2 | h2
    · rw [ffl_at h hi h2]
    · have : i = n := by omega
      subst this
      rw [ffl_of h]
      simp only [if_neg (show ¬ gp by' i = true by rw [hi]; simp)]
/-- the parts of one acrobat -/
theorem gp_at (by' : Nat → Nat) (a : Nat) {p : Nat} (hp : p < 6) : gp by' (6 * a + p) = gpP by' a p (by' (6 * a + p)) := by
  unfold gp
  rw [show (6 * a + p) / 6 = a by omega, show (6 * a + p) % 6 = p by omega]
theorem TB_W {by' : Nat → Nat} {n : Nat} (hn : n ≤ 10) (h : ∀ i, i < 6 * n - 1 → gp by' i = true) : TW (TB by' n) := by
  have hg : ∀ a p, a < n → p < 5 → gpP by' a p (by' (6 * a + p)) = true := fun a p ha hp => by
    rw [← gp_at by' a (by omega)]
    exact h _ (by omega)
  have h4 : ∀ a, a < n → (48 ≤ by' (6 * a + 4) ∧ by' (6 * a + 4) ≤ 57) ∧ hdF (plB by') (by' (6 * a + 4) - 48) a = none := fun a ha => by
    have := hg a 4 ha (by omega)
    simp only [gpP, Bool.and_eq_true, decide_eq_true_eq, Option.isNone_iff_eq_none] at this
    exact this
  refine ⟨hn, fun a ha => ?_, fun a b ha hb hab => ?_⟩
  · have h1 := hg a 1 ha (by omega)
    have h2 := hg a 2 ha (by omega)
    have h3 := hg a 3 ha (by omega)
    have h4' := h4 a ha
    simp only [gpP, decide_eq_true_eq] at h1 h2 h3
    show so3 (by' (6 * a)) < 3 ∧ 1 ≤ by' (6 * a + 1) - 48 ∧ by' (6 * a + 1) - 48 ≤ 9 ∧ 1 ≤ by' (6 * a + 2) - 48 ∧ by' (6 * a + 2) - 48 ≤ 9 ∧ by' (6 * a + 3) - 97 < 24 ∧ by' (6 * a + 4) - 48 < 10
    refine ⟨?_, by omega, by omega, by omega, by omega, by omega, by omega⟩
    unfold so3
    split
    · omega
    · split <;> omega
  · have hab' : plB by' a = plB by' b := hab
    rcases Nat.lt_trichotomy a b with q | q | q
    · exact absurd hab' (hdF_none (h4 b hb).2 a q)
    · exact q
    · exact absurd hab'.symm (hdF_none (h4 a ha).2 b q)
theorem TX_W {by' : Nat → Nat} {len : Nat} (hl : len ≤ 59) : TW (TX by' len) := by
  have w0 : TW (TB by' 0) := TB_W (by omega) fun i hi => by omega
  unfold TX fau
  cases h : ffl by' len with
  | some j => exact w0
  | none =>
    by_cases h2 : len = 0 ∨ len % 6 = 5
    · rw [if_pos h2]
      exact TB_W (by omega) fun i hi => ffl_none h i (by omega)
    · rw [if_neg h2]
      exact w0
