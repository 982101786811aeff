/-! who falls: the least set that is closed -/
theorem flL_high {b x : Nat} : ∀ i p, i ≤ 6 → 4 + i ≤ p → (flL b x i).testBit p = x.testBit p
  | 0, p, _, _ => rfl
  | i + 1, p, h, hp => by
    have ih := flL_high (b := b) (x := x) i p (by omega) (by omega)
    rw [flL_bit]
    split
    · rw [or_bit, ih]
      have : ¬ 4 + i = p := by omega
      simp [this]
    · exact ih
theorem flL_low {b x : Nat} (i : Nat) : ∀ j p, i + j ≤ 6 → p < 4 + i → (flL b x (i + j)).testBit p = (flL b x i).testBit p
  | 0, p, _, _ => rfl
  | j + 1, p, h, hp => by
    have ih := flL_low (b := b) (x := x) i j p (by omega) hp
    rw [show i + (j + 1) = (i + j) + 1 by omega, flL_bit]
    split
    · rw [or_bit, ih]
      have : ¬ 4 + (i + j) = p := by omega
      simp [this]
    · exact ih
theorem lb_lo : ∀ i, i < 6 → lbN (4 + i) + 1 < 4 + i := by decide
/-- one place -/
theorem flN_lo {b x p : Nat} (hp : p < 4) : (flN b x).testBit p = x.testBit p := by
  have := flL_low (b := b) (x := x) 0 6 p (by omega) (by omega)
  rw [Nat.zero_add] at this
  exact this
theorem flN_hi {b x i : Nat} (hx : x < 1024) (hi : i < 6) : (flN b x).testBit (4 + i) = (x.testBit (4 + i) || (b.testBit (4 + i) && ((flN b x).testBit (lbN (4 + i)) || (flN b x).testBit (lbN (4 + i) + 1)))) := by
  have hlb := lb_lo i hi
  have h1 : (flN b x).testBit (4 + i) = (flL b x (i + 1)).testBit (4 + i) := by
    have := flL_low (b := b) (x := x) (i + 1) (6 - (i + 1)) (4 + i) (by omega) (by omega)
    rw [show i + 1 + (6 - (i + 1)) = 6 by omega] at this
    exact this
  have hlow : ∀ q, q < 4 + i → (flN b x).testBit q = (flL b x i).testBit q := fun q hq => by
    have := flL_low (b := b) (x := x) i (6 - i) q (by omega) hq
    rw [show i + (6 - i) = 6 by omega] at this
    exact this
  have hl := hlow (lbN (4 + i)) (by omega)
  have hr := hlow (lbN (4 + i) + 1) (by omega)
  have hs := sup_0 i hi (flL b x i) (flL_lt hx i (by omega))
  have hh := flL_high (b := b) (x := x) i (4 + i) (by omega) (by omega)
  rw [h1, hl, hr, flL_bit]
  by_cases c : b.testBit (4 + i) = true ∧ ¬ flL b x i &&& sup (4 + i) = 0
  · rw [if_pos c, or_bit, hh, c.1]
    have : ((flL b x i).testBit (lbN (4 + i)) || (flL b x i).testBit (lbN (4 + i) + 1)) = true := by
      cases q1 : (flL b x i).testBit (lbN (4 + i)) with
      | true => rfl
      | false =>
        cases q2 : (flL b x i).testBit (lbN (4 + i) + 1) with
        | true => rfl
        | false => exact absurd (hs.mpr ⟨q1, q2⟩) c.2
    rw [this]
    simp
  · rw [if_neg c, hh]
    cases hb : b.testBit (4 + i) with
    | false => simp
    | true =>
      have h0 : flL b x i &&& sup (4 + i) = 0 := Decidable.byContradiction fun z => c ⟨hb, z⟩
      rw [(hs.mp h0).1, (hs.mp h0).2]
      simp
theorem pl_ind {P : Nat → Prop} (h0 : ∀ p, p < 4 → P p) (h1 : ∀ i, i < 6 → P (lbN (4 + i)) → P (lbN (4 + i) + 1) → P (4 + i)) : ∀ p, p < 10 → P p := by
  intro p
  induction p using Nat.strongRecOn with
  | _ p ih =>
    intro hp
    rcases Nat.lt_or_ge p 4 with q | q
    · exact h0 p q
    · have hl := lb_lo (p - 4) (by omega)
      have e : 4 + (p - 4) = p := by omega
      have := h1 (p - 4) (by omega) (ih _ (by omega) (by omega)) (ih _ (by omega) (by omega))
      rw [e] at this
      exact this
/-- one more falls -/
theorem flN_or {b x y : Nat} (hx : x < 1024) (hy : y < 1024) : ∀ p, p < 10 → (flN b (x ||| y)).testBit p = ((flN b x).testBit p || (flN (dif b (flN b x)) y).testBit p) := by
  have hxy : x ||| y < 1024 := or_lt (n := 10) hx hy
  refine pl_ind (fun p hp => ?_) (fun i hi hl hr => ?_)
  · rw [flN_lo hp, flN_lo hp, flN_lo hp, Nat.testBit_or]
  · rw [flN_hi hxy hi, hl, hr, flN_hi hy hi, flN_hi hx hi, Nat.testBit_or, dif_bit _ _ (by omega), flN_hi hx hi]
    cases x.testBit (4 + i) <;> cases y.testBit (4 + i) <;> cases b.testBit (4 + i) <;> cases (flN b x).testBit (lbN (4 + i)) <;> cases (flN b x).testBit (lbN (4 + i) + 1) <;> simp
/-- one more, who has fallen -/
theorem flN_in {b x y : Nat} (hx : x < 1024) (hy : y < 1024) (h : ∀ p, y.testBit p = true → (flN b x).testBit p = true) : ∀ p, p < 10 → (flN b (x ||| y)).testBit p = (flN b x).testBit p := by
  have hxy : x ||| y < 1024 := or_lt (n := 10) hx hy
  refine pl_ind (fun p hp => ?_) (fun i hi hl hr => ?_)
  · rw [flN_lo hp, flN_lo hp, Nat.testBit_or]
    cases q : y.testBit p with
    | false => simp
    | true =>
      have := h p q
      rw [flN_lo hp] at this
      rw [this]
      rfl
  · have e := flN_hi (b := b) hx hi
    rw [flN_hi hxy hi, hl, hr, Nat.testBit_or]
    cases q : y.testBit (4 + i) with
    | false => rw [Bool.or_false, ← e]
    | true => rw [h _ q]; simp
theorem bits10 {u v : Nat} (hu : u < 1024) (hv : v < 1024) (h : ∀ p, p < 10 → u.testBit p = v.testBit p) : u = v := by
  apply Nat.eq_of_testBit_eq
  intro p
  rcases Nat.lt_or_ge p 10 with q | q
  · exact h p q
  · have e : ∀ y, y < 1024 → y.testBit p = false := fun y hy => by
      cases hb : y.testBit p with
      | false => rfl
      | true => exact absurd (bit_lt hy hb) (by omega)
    rw [e _ hu, e _ hv]
theorem flN_lt {b x : Nat} (hx : x < 1024) : flN b x < 1024 := flL_lt hx 6 (by omega)
theorem cnX_or {T : TT} {x y : Nat} (h : ∀ p, ¬ (x.testBit p = true ∧ y.testBit p = true)) : ∀ n, cnX T (x ||| y) n = cnX T x n + cnX T y n
  | 0 => rfl
  | n + 1 => by
    have ih := cnX_or (T := T) h n
    have hn := h (tpl T n)
    unfold cnX
    rw [Nat.testBit_or, ih]
    cases q1 : x.testBit (tpl T n) <;> cases q2 : y.testBit (tpl T n)
    · simp
    · simp; omega
    · simp; omega
    · exact absurd ⟨q1, q2⟩ hn
/-- twice falling in a moment is falling once -/
theorem toS2_2 {T : TT} (hT : TW T) {S : SS} (hb : S.1 < 1024) (hh : ∀ p, p < 10 → S.1.testBit p = true → ∃ a, a < tn T ∧ tpl T a = p) {m X Y : Nat} (hX : X < 1024) (hY : Y < 1024) (hXs : ∀ p, X.testBit p = true → S.1.testBit p = true) (hYs : ∀ p, Y.testBit p = true → (dif S.1 X).testBit p = true) (hF : FR m S) (hm : m < 24) : toS2 T (toS2 T S X m) Y m = toS2 T S (X ||| Y) m := by
  have hXY : X ||| Y < 1024 := or_lt (n := 10) hX hY
  have hYp : ∀ p, Y.testBit p = true → p < 10 ∧ S.1.testBit p = true ∧ X.testBit p = false := fun p h => by
    have hp := bit_lt hY h
    have := hYs p h
    rw [dif_bit _ _ hp] at this
    simp at this
    exact ⟨hp, this.1, this.2⟩
  have hdis : ∀ p, ¬ (X.testBit p = true ∧ Y.testBit p = true) := fun p ⟨h1, h2⟩ => by
    rw [(hYp p h2).2.2] at h1
    cases h1
  have hpop : pop (X ||| Y) = pop X + pop Y := by
    rw [← cnX_pop hT hX (fun p hp h => hh p hp (hXs p h)), ← cnX_pop hT hY (fun p hp h => hh p hp (hYp p h).2.1), ← cnX_pop hT hXY (fun p hp h => ?_), cnX_or hdis]
    rw [Nat.testBit_or] at h
    rcases Bool.or_eq_true_iff.mp h with h | h
    · exact hh p hp (hXs p h)
    · exact hh p hp (hYp p h).2.1
  have e1 : dif (dif S.1 X) Y = dif S.1 (X ||| Y) := bits10 (dif_lt _ (dif_lt _ hb)) (dif_lt _ hb) fun p hp => by
    rw [dif_bit _ _ hp, dif_bit _ _ hp, dif_bit _ _ hp, Nat.testBit_or]
    cases S.1.testBit p <;> cases X.testBit p <;> cases Y.testBit p <;> rfl
  unfold toS2
  simp only [e1, hpop, Nat.testBit_or, Nat.add_assoc]
  have e2 : (fun a => if Y.testBit (tpl T a) = true then 0 else if X.testBit (tpl T a) = true then 0 else S.2.1 a) = fun a => if (X.testBit (tpl T a) || Y.testBit (tpl T a)) = true then 0 else S.2.1 a := by
    funext a
    cases X.testBit (tpl T a) <;> cases Y.testBit (tpl T a) <;> rfl
  have e3 : (fun a => if Y.testBit (tpl T a) = true then (if X.testBit (tpl T a) = true then S.2.2.1 a + 1 else S.2.2.1 a) + 1 else if X.testBit (tpl T a) = true then S.2.2.1 a + 1 else S.2.2.1 a) = fun a => if (X.testBit (tpl T a) || Y.testBit (tpl T a)) = true then S.2.2.1 a + 1 else S.2.2.1 a := by
    funext a
    have := hdis (tpl T a)
    cases q1 : X.testBit (tpl T a) <;> cases q2 : Y.testBit (tpl T a)
    · rfl
    · rfl
    · rfl
    · exact absurd ⟨q1, q2⟩ this
  have e4 : (fun a => if Y.testBit (tpl T a) = true then m + 3 else if X.testBit (tpl T a) = true then m + 3 else S.2.2.2.1 a) = fun a => if (X.testBit (tpl T a) || Y.testBit (tpl T a)) = true then m + 3 else S.2.2.2.1 a := by
    funext a
    cases X.testBit (tpl T a) <;> cases Y.testBit (tpl T a) <;> rfl
  have e5 : (if pop Y = 0 then (if pop X = 0 then S.2.2.2.2.2 else if m < S.2.2.2.2.2 then m else S.2.2.2.2.2) else if m < (if pop X = 0 then S.2.2.2.2.2 else if m < S.2.2.2.2.2 then m else S.2.2.2.2.2) then m else (if pop X = 0 then S.2.2.2.2.2 else if m < S.2.2.2.2.2 then m else S.2.2.2.2.2)) = if pop X + pop Y = 0 then S.2.2.2.2.2 else if m < S.2.2.2.2.2 then m else S.2.2.2.2.2 := by
    by_cases q1 : pop X = 0 <;> by_cases q2 : pop Y = 0
    · simp [q1, q2]
    · simp [q1, q2]
    · simp [q1, q2]
    · rw [if_neg q2, if_neg q1, if_neg (show ¬ pop X + pop Y = 0 by omega)]
      by_cases q3 : m < S.2.2.2.2.2
      · simp [q3]
      · simp [q3]
  rw [e2, e3, e4, e5]
