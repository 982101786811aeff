/-! events one by one are events together -/
theorem toS_3 {T : TT} {S : SS} {g m : Nat} (hb : S.1 < 1024) : toS T S g m = toS2 T S (flN S.1 (g &&& S.1)) m := by
  have hx : g &&& S.1 < 1024 := by rw [Nat.and_comm]; exact and_lt (n := 10) _ hb
  have hs : ∀ p, (g &&& S.1).testBit p = true → S.1.testBit p = true := fun p h => by
    rw [Nat.testBit_and] at h
    exact (Bool.and_eq_true_iff.mp h).2
  rw [← toS_2 hb hx hs]
  unfold toS
  rw [and_sub hs]
theorem szB_bit {T : TT} (sn : Nat) : ∀ n p, (szB T sn n).testBit p = true ↔ ∃ a, a < n ∧ sn.testBit a = true ∧ tpl T a = p
  | 0, p => by simp [szB]
  | n + 1, p => by
    have ih := szB_bit (T := T) sn n p
    unfold szB
    split
    · rename_i z
      rw [or_bit, Bool.or_eq_true_iff, ih]
      constructor
      · rintro (⟨a, h1, h2, h3⟩ | h)
        · exact ⟨a, by omega, h2, h3⟩
        · exact ⟨n, by omega, z, by simpa using h⟩
      · rintro ⟨a, h1, h2, h3⟩
        rcases Nat.lt_or_ge a n with q | q
        · exact Or.inl ⟨a, q, h2, h3⟩
        · right
          rw [show a = n by omega] at h3
          simpa using h3
    · rename_i z
      rw [ih]
      constructor
      · rintro ⟨a, h1, h2, h3⟩
        exact ⟨a, by omega, h2, h3⟩
      · rintro ⟨a, h1, h2, h3⟩
        refine ⟨a, ?_, h2, h3⟩
        rcases Nat.lt_or_ge a n with q | q
        · exact q
        · rw [show a = n by omega] at h2
          exact absurd h2 z
theorem bool_iff {u v : Bool} (h : u = true ↔ v = true) : u = v := by cases u <;> cases v <;> simp_all
theorem szB_or {T : TT} (hT : TW T) {sn k : Nat} (hk : k < tn T) : szB T (sn ||| 2 ^ k) (tn T) = szB T sn (tn T) ||| 2 ^ (tpl T k) := by
  have hp := (hT.2.1 k hk).2.2.2.2.2.2
  refine bits10 (szB_lt hT _ _ (Nat.le_refl _)) (or_lt (n := 10) (szB_lt hT _ _ (Nat.le_refl _)) (pow_lt (n := 10) hp)) fun p _ => bool_iff ?_
  rw [szB_bit, or_bit, Bool.or_eq_true_iff, szB_bit]
  constructor
  · rintro ⟨a, h1, h2, h3⟩
    rw [or_bit, Bool.or_eq_true_iff] at h2
    rcases h2 with h2 | h2
    · exact Or.inl ⟨a, h1, h2, h3⟩
    · right
      have : k = a := by simpa using h2
      rw [this, h3]
      simp
  · rintro (⟨a, h1, h2, h3⟩ | h)
    · exact ⟨a, h1, by rw [or_bit, h2]; rfl, h3⟩
    · exact ⟨k, hk, by rw [or_bit]; simp, by simpa using h⟩
theorem szB_no {T : TT} (hT : TW T) {sn k : Nat} (hk : tn T ≤ k) : szB T (sn ||| 2 ^ k) (tn T) = szB T sn (tn T) := by
  refine bits10 (szB_lt hT _ _ (Nat.le_refl _)) (szB_lt hT _ _ (Nat.le_refl _)) fun p _ => bool_iff ?_
  rw [szB_bit, szB_bit]
  have e : ∀ a, a < tn T → (sn ||| 2 ^ k).testBit a = sn.testBit a := fun a ha => by
    rw [or_bit]
    have : ¬ k = a := by omega
    simp [this]
  exact ⟨fun ⟨a, h1, h2, h3⟩ => ⟨a, h1, by rw [e a h1] at h2; exact h2, h3⟩, fun ⟨a, h1, h2, h3⟩ => ⟨a, h1, by rw [e a h1]; exact h2, h3⟩⟩
theorem GS.fall {T : TT} {S : SS} (h : GS T S) (hb : S.1 < 1024) {x m : Nat} (hx : x < 1024) : GS T (toS2 T S (flN S.1 x) m) := by
  refine ⟨fun p hp hbit => ?_, fun i hi hbit => ?_, fun a ha hbit => ?_, fun a ha => ?_⟩
  · have hbit' : (dif S.1 (flN S.1 x)).testBit p = true := hbit
    rw [dif_bit _ _ hp] at hbit'
    exact h.1 p hp (Bool.and_eq_true_iff.mp hbit').1
  · have hbit' : (dif S.1 (flN S.1 x)).testBit (4 + i) = true := hbit
    rw [dif_bit _ _ (by omega)] at hbit'
    obtain ⟨h1, h2⟩ := Bool.and_eq_true_iff.mp hbit'
    obtain ⟨h3, h4⟩ := h.2.1 i hi h1
    have hlb := lb_lo i hi
    have hn : (flN S.1 x).testBit (4 + i) = false := by simpa using h2
    rw [flN_hi hx hi, h1] at hn
    simp at hn
    show (dif S.1 (flN S.1 x)).testBit (lbN (4 + i)) = true ∧ (dif S.1 (flN S.1 x)).testBit (lbN (4 + i) + 1) = true
    rw [dif_bit _ _ (by omega), dif_bit _ _ (by omega), h3, h4, hn.2.1, hn.2.2]
    exact ⟨rfl, rfl⟩
  · show (if (flN S.1 x).testBit (tpl T a) = true then 0 else S.2.1 a) = 0
    by_cases z : (flN S.1 x).testBit (tpl T a) = true
    · rw [if_pos z]
    · rw [if_neg z]
      refine h.2.2.1 a ha ?_
      have hbit' : (dif S.1 (flN S.1 x)).testBit (tpl T a) = false := hbit
      cases q : S.1.testBit (tpl T a) with
      | false => rfl
      | true =>
        obtain ⟨c, hc⟩ : ∃ c, c = tpl T a := ⟨_, rfl⟩
        have hlt := bit_lt hb q
        rw [dif_bit _ _ hlt, q] at hbit'
        simp at hbit'
        exact absurd hbit' z
  · show (if (flN S.1 x).testBit (tpl T a) = true then m + 3 else S.2.2.2.1 a) = 0 ∨ 3 ≤ (if (flN S.1 x).testBit (tpl T a) = true then m + 3 else S.2.2.2.1 a)
    split
    · right; omega
    · exact h.2.2.2 a ha
theorem GS.ap {T : TT} {S : SS} (h : GS T S) (r : Nat) : GS T (apS S r) := ⟨h.1, h.2.1, fun a ha hb => by
  show S.2.1 a - r = 0
  rw [h.2.2.1 a ha hb]
  omega, h.2.2.2⟩
theorem GS.to_ {T : TT} {S : SS} (h : GS T S) (hb : S.1 < 1024) (g m : Nat) : GS T (toS T S g m) := by
  rw [toS_3 hb]
  exact h.fall hb (by rw [Nat.and_comm]; exact and_lt (n := 10) _ hb)
theorem toS2_ap {T : TT} {S : SS} {y m r : Nat} : toS2 T (apS S r) y m = apS (toS2 T S y m) r := by
  unfold toS2 apS
  have e : (fun a => if y.testBit (tpl T a) = true then 0 else S.2.1 a - r) = fun a => (if y.testBit (tpl T a) = true then 0 else S.2.1 a) - r := by
    funext a
    split <;> omega
  simp only [e]
/-- one more sneezes, who stands -/
theorem toS_up {T : TT} (hT : TW T) {S : SS} (hb : S.1 < 1024) (hG : GS T S) {g m p r : Nat} (hp : p < 10) (hF : FR m S) (hm : m < 24) (hup : (toS T S g m).1.testBit p = true) : toS T (apS (toS T S g m) r) (2 ^ p) m = apS (toS T S (g ||| 2 ^ p) m) r := by
  have hx : g &&& S.1 < 1024 := by rw [Nat.and_comm]; exact and_lt (n := 10) _ hb
  have hs : ∀ q, (g &&& S.1).testBit q = true → S.1.testBit q = true := fun q h => by
    rw [Nat.testBit_and] at h
    exact (Bool.and_eq_true_iff.mp h).2
  have h2p : 2 ^ p < 1024 := pow_lt (n := 10) hp
  have eg : toS T S g m = toS2 T S (flN S.1 (g &&& S.1)) m := toS_3 hb
  have hup' : (dif S.1 (flN S.1 (g &&& S.1))).testBit p = true := by rw [eg] at hup; exact hup
  have hbp : S.1.testBit p = true := by rw [dif_bit _ _ hp] at hup'; exact (Bool.and_eq_true_iff.mp hup').1
  have e1 : (apS (toS T S g m) r).1 = dif S.1 (flN S.1 (g &&& S.1)) := by rw [eg]; rfl
  have hsub : ∀ q, (2 ^ p).testBit q = true → (dif S.1 (flN S.1 (g &&& S.1))).testBit q = true := fun q h => by
    rw [Nat.testBit_two_pow] at h
    have : p = q := by simpa using h
    rw [← this]; exact hup'
  rw [toS_3 (S := apS (toS T S g m) r) (by rw [e1]; exact dif_lt _ hb), e1, and_sub hsub, toS2_ap, eg, toS_3 hb (g := g ||| 2 ^ p)]
  have e2 : (g ||| 2 ^ p) &&& S.1 = (g &&& S.1) ||| 2 ^ p := by
    apply Nat.eq_of_testBit_eq
    intro q
    rw [Nat.testBit_and, Nat.testBit_or, Nat.testBit_or, Nat.testBit_and, Nat.testBit_two_pow]
    by_cases z : p = q
    · subst z; simp [hbp]
    · simp [z]
  have e3 : flN S.1 ((g &&& S.1) ||| 2 ^ p) = flN S.1 (g &&& S.1) ||| flN (dif S.1 (flN S.1 (g &&& S.1))) (2 ^ p) := bits10 (flN_lt (or_lt (n := 10) hx h2p)) (or_lt (n := 10) (flN_lt hx) (flN_lt h2p)) fun q hq => by
    rw [flN_or hx h2p q hq, Nat.testBit_or]
  rw [e2, e3, toS2_2 hT hb hG.1 (flN_lt hx) (flN_lt h2p) (flL_sub hs 6) (flL_sub hsub 6) hF hm]
/-- one more sneezes, who doesn't stand -/
theorem toS_dn {T : TT} {S : SS} (hb : S.1 < 1024) {g m p : Nat} (hp : p < 10) (hdn : (toS T S g m).1.testBit p = false) : toS T S (g ||| 2 ^ p) m = toS T S g m := by
  have hx : g &&& S.1 < 1024 := by rw [Nat.and_comm]; exact and_lt (n := 10) _ hb
  have h2p : 2 ^ p < 1024 := pow_lt (n := 10) hp
  rw [toS_3 hb, toS_3 hb]
  have hdn' : (dif S.1 (flN S.1 (g &&& S.1))).testBit p = false := by rw [toS_3 hb] at hdn; exact hdn
  rw [dif_bit _ _ hp] at hdn'
  by_cases hbp : S.1.testBit p = true
  · have hin : (flN S.1 (g &&& S.1)).testBit p = true := by rw [hbp] at hdn'; simpa using hdn'
    have e2 : (g ||| 2 ^ p) &&& S.1 = (g &&& S.1) ||| 2 ^ p := by
      apply Nat.eq_of_testBit_eq
      intro q
      rw [Nat.testBit_and, Nat.testBit_or, Nat.testBit_or, Nat.testBit_and, Nat.testBit_two_pow]
      by_cases z : p = q
      · subst z; simp [hbp]
      · simp [z]
    rw [e2]
    congr 1
    refine bits10 (flN_lt (or_lt (n := 10) hx h2p)) (flN_lt hx) (flN_in hx h2p fun q h => ?_)
    rw [Nat.testBit_two_pow] at h
    have : p = q := by simpa using h
    rw [← this]; exact hin
  · have e2 : (g ||| 2 ^ p) &&& S.1 = g &&& S.1 := by
      apply Nat.eq_of_testBit_eq
      intro q
      rw [Nat.testBit_and, Nat.testBit_or, Nat.testBit_and, Nat.testBit_two_pow]
      by_cases z : p = q
      · subst z
        have : S.1.testBit p = false := by simpa using hbp
        simp [this]
      · simp [z]
    rw [e2]
