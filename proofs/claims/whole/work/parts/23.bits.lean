/-! numbers and bits -/
theorem tN_nI {n : Nat} (h : n < 2 ^ 31) : Int32.toNatClampNeg (nI n) = n := nI_clamp h
theorem inB_nI {i n : Nat} (h : i < n) (hn : n < 2 ^ 31) : inB (nI i) n = true := inB_iff.mpr (vp_in_nI h hn)
theorem nI_le' {a b : Nat} (ha : a < 2 ^ 31) (hb : b < 2 ^ 31) : nI a ≤ nI b ↔ a ≤ b := nI_leI ha hb
theorem nI_lt' {a b : Nat} (ha : a < 2 ^ 31) (hb : b < 2 ^ 31) : nI a < nI b ↔ a < b := nI_ltI ha hb
theorem nI_inj {a b : Nat} (ha : a < 2 ^ 31) (hb : b < 2 ^ 31) : nI a = nI b ↔ a = b := nI_eq ha hb
theorem nI_m1_ne {a : Nat} (ha : a < 2 ^ 31) : ¬ nI a = (-1) := fun h => by
  have h1 := congrArg Int32.toInt h
  rw [nI_toInt ha] at h1
  have h2 : (-1 : Int32).toInt = -1 := by decide
  rw [h2] at h1
  omega
theorem s_l9 : ∀ n, n < 32 → ((nI n &&& 31).toBitVec.smod 32).toNat = n := by decide +kernel
theorem shl1 {p : Nat} (hp : p < 31) : (1 : Int32) <<< (nI p &&& 31) = nI (2 ^ p) := by
  have h := pk_shlN (n := 1) (nI p &&& 31) p (s_l9 p (by omega)) (by
    have : 2 ^ p < 2 ^ 31 := Nat.pow_lt_pow_right (by decide) hp
    omega)
  rw [Nat.one_mul] at h
  exact h
theorem bit_nI {b p : Nat} (hb : b < 2 ^ 31) (hp : p < 31) : (nI b >>> (nI p &&& 31)) &&& 1 = nI (b / 2 ^ p % 2) := by
  rw [pk_shrN hb (nI p &&& 31) p (s_l9 p (by omega))]
  have h := pk_andN (n := b / 2 ^ p) (m := 1) (by
    have := Nat.div_le_self b (2 ^ p)
    omega) 1 (by decide)
  exact h
theorem tb_div (b p : Nat) : b.testBit p = decide (b / 2 ^ p % 2 = 1) := Nat.testBit_eq_decide_div_mod_eq
theorem hbV_nI {b p : Nat} (hb : b < 2 ^ 31) (hp : p < 31) : hbV (nI b) (nI p) = if b.testBit p then 1 else 0 := by
  unfold hbV
  rw [bit_nI hb hp, tb_div]
  have h2 : b / 2 ^ p % 2 = 0 ∨ b / 2 ^ p % 2 = 1 := by omega
  rcases h2 with h | h
  · rw [h]; rfl
  · rw [h]; rfl
theorem hbV_0 {b p : Nat} (hb : b < 2 ^ 31) (hp : p < 31) : hbV (nI b) (nI p) = 0 ↔ b.testBit p = false := by
  rw [hbV_nI hb hp]
  cases b.testBit p <;> decide
theorem iiV_nI {b p : Nat} (hb : b < 2 ^ 31) (hp : p < 31) : iiV (nI b) (nI p) = if b.testBit p then 1 else 0 := by
  unfold iiV
  rw [bit_nI hb hp, tb_div]
  have h2 : b / 2 ^ p % 2 = 0 ∨ b / 2 ^ p % 2 = 1 := by omega
  rcases h2 with h | h
  · rw [h]; rfl
  · rw [h]; rfl
theorem iiV_0 {b p : Nat} (hb : b < 2 ^ 31) (hp : p < 31) : iiV (nI b) (nI p) = 0 ↔ b.testBit p = false := by
  rw [iiV_nI hb hp]
  cases b.testBit p <;> decide
theorem or_nI (a b : Nat) : nI a ||| nI b = nI (a ||| b) := by
  apply Int32.toBitVec_inj.1
  show BitVec.ofNat 32 a ||| BitVec.ofNat 32 b = BitVec.ofNat 32 (a ||| b)
  exact (BitVec.ofNat_or).symm
theorem and_nI (a b : Nat) : nI a &&& nI b = nI (a &&& b) := by
  apply Int32.toBitVec_inj.1
  show BitVec.ofNat 32 a &&& BitVec.ofNat 32 b = BitVec.ofNat 32 (a &&& b)
  exact (BitVec.ofNat_and).symm
theorem xor_nI (a b : Nat) : nI a ^^^ nI b = nI (a ^^^ b) := by
  apply Int32.toBitVec_inj.1
  show BitVec.ofNat 32 a ^^^ BitVec.ofNat 32 b = BitVec.ofNat 32 (a ^^^ b)
  exact (BitVec.ofNat_xor).symm
theorem m1_nI : (-1 : Int32) = nI 4294967295 := by decide
theorem or_lt {a b n : Nat} (ha : a < 2 ^ n) (hb : b < 2 ^ n) : a ||| b < 2 ^ n := Nat.or_lt_two_pow ha hb
theorem pow_lt {p n : Nat} (h : p < n) : 2 ^ p < 2 ^ n := Nat.pow_lt_pow_right (by decide) h
theorem and_lt {a n : Nat} (b : Nat) (ha : a < 2 ^ n) : a &&& b < 2 ^ n := Nat.lt_of_le_of_lt Nat.and_le_left ha
/-- b without the bits of x -/
def dif (b x : Nat) : Nat := b &&& (1023 ^^^ x)
theorem dif_nI {b x : Nat} (hb : b < 1024) (hx : x < 1024) : nI b &&& (nI x ^^^ (-1)) = nI (dif b x) := by
  rw [m1_nI, xor_nI, and_nI]
  unfold dif
  congr 1
  apply Nat.eq_of_testBit_eq
  intro i
  rw [Nat.testBit_and, Nat.testBit_and, Nat.testBit_xor, Nat.testBit_xor]
  by_cases hi : i < 10
  · have h1 : ∀ i, i < 10 → (4294967295 : Nat).testBit i = true ∧ (1023 : Nat).testBit i = true := by decide
    rw [(h1 i hi).1, (h1 i hi).2]
    cases x.testBit i <;> rfl
  · have hb2 : b.testBit i = false := Nat.testBit_lt_two_pow (Nat.lt_of_lt_of_le hb (Nat.pow_le_pow_right (n := 2) (by decide) (show 10 ≤ i by omega)))
    rw [hb2]
    rfl
theorem dif_bit (b x : Nat) {i : Nat} (hi : i < 10) : (dif b x).testBit i = (b.testBit i && !x.testBit i) := by
  unfold dif
  rw [Nat.testBit_and, Nat.testBit_xor]
  have h1 : ∀ i, i < 10 → (1023 : Nat).testBit i = true := by decide
  rw [h1 i hi]
  cases x.testBit i <;> rfl
theorem dif_lt {b : Nat} (x : Nat) (hb : b < 1024) : dif b x < 1024 := and_lt (n := 10) _ hb
theorem bit_lt {x i : Nat} (hx : x < 1024) (h : x.testBit i = true) : i < 10 := by
  rcases Nat.lt_or_ge i 10 with h1 | h1
  · exact h1
  · rw [Nat.testBit_lt_two_pow (Nat.lt_of_lt_of_le hx (Nat.pow_le_pow_right (n := 2) (by decide) h1))] at h
    cases h
theorem or_bit (a p i : Nat) : (a ||| 2 ^ p).testBit i = (a.testBit i || decide (p = i)) := by
  rw [Nat.testBit_or, Nat.testBit_two_pow]
/-- how many of ten bits -/
def pop (b : Nat) : Nat := (List.range 10).countP (fun i => b.testBit i)
theorem pop_le (b : Nat) : pop b ≤ 10 := by
  have := List.countP_le_length (p := fun i => b.testBit i) (l := List.range 10)
  rw [List.length_range] at this
  exact this
theorem bcV_nI : ∀ b, b < 1024 → bcV (nI b) = nI (pop b) := by decide +kernel
theorem htV_nI : ∀ b, b < 1024 → htV (nI b) = nI ((if b &&& 15 = 0 then 0 else 1) + (if b &&& 112 = 0 then 0 else 1) + (if b &&& 384 = 0 then 0 else 1) + (if b &&& 512 = 0 then 0 else 1)) := by decide +kernel
theorem isW_nI {i n : Nat} (hi : i < 2 ^ 31) (hn : n < 2 ^ 31) : isW (nI i) (nI n) = if i < n then 1 else 0 := by
  unfold isW
  rw [if_neg (nI_pos hi)]
  by_cases h : i < n
  · rw [if_pos h, if_neg (fun q => by rw [nI_le' hn hi] at q; omega)]
  · rw [if_neg h, if_pos ((nI_le' hn hi).mpr (by omega))]
theorem isW_m1 (n : Int32) : isW (-1) n = 0 := by unfold isW; rw [if_pos (by decide)]
theorem nI_add1 (i : Nat) : nI i + 1 = nI (i + 1) := nI_1 i
theorem frS {σ : Sg} {k j : Nat} {v : Int32} (a b : Nat) (h : ¬ (a = k ∧ b = j)) : su σ k j v a b = σ a b := if_neg h
