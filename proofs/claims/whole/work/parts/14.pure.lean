/-! the small functions: what they answer -/
abbrev Sg : Type := Nat → Nat → Int32
def isW (i b : Int32) : Int32 := if i < 0 then 0 else if b ≤ i then 0 else 1
def hbV (x i : Int32) : Int32 := if ((x >>> (i &&& 31)) &&& 1) = 0 then 0 else 1
def inV (v lo hi : Int32) : Int32 := if v < lo then 0 else if hi < v then 0 else 1
def iiV (b k : Int32) : Int32 := if ¬ ((b >>> (k &&& 31)) &&& 1) = 1 then 0 else 1
def blV (p : Int32) : Int32 := if 7 ≤ p then if 9 ≤ p then 7 else p - 3 else p - 4
def tiV (s l : Int32) : Int32 := if s = 1 then (l / 8) + 1 else if s = 2 then (if (l / 8) ≤ 0 then 0 else (l / 8) - 1) else l / 8
def htV (t : Int32) : Int32 := (((if (t &&& 15) = 0 then 0 else 0 + 1) |> fun x => if (t &&& 112) = 0 then x else x + 1) |> fun x => if (t &&& 384) = 0 then x else x + 1) |> fun x => if (t &&& 512) = 0 then x else x + 1
def us (x : Int32) (k : Int32) : Int32 := (x.toUInt32 >>> (k.toUInt32 &&& Int32.toUInt32 31)).toInt32
def bc1 (x : Int32) : Int32 := x - (us x 1 &&& 1431655765)
def bc2 (x : Int32) : Int32 := (x &&& 858993459) + (us x 2 &&& 858993459)
def bc3 (x : Int32) : Int32 := (x + us x 4) &&& 252645135
def bc4 (x : Int32) : Int32 := x + us x 8
def bc5 (x : Int32) : Int32 := x + us x 16
def bcV (x : Int32) : Int32 := bc5 (bc4 (bc3 (bc2 (bc1 x)))) &&& 63
theorem isW01 (i b : Int32) : isW i b = 0 ∨ isW i b = 1 := by unfold isW; split; exact Or.inl rfl; split; exact Or.inl rfl; exact Or.inr rfl
theorem hbV01 (i b : Int32) : hbV i b = 0 ∨ hbV i b = 1 := by unfold hbV; split; exact Or.inl rfl; exact Or.inr rfl
theorem inV01 (i b c : Int32) : inV i b c = 0 ∨ inV i b c = 1 := by unfold inV; split; exact Or.inl rfl; split; exact Or.inl rfl; exact Or.inr rfl
theorem iiV01 (i b : Int32) : iiV i b = 0 ∨ iiV i b = 1 := by unfold iiV; split; exact Or.inl rfl; exact Or.inr rfl
theorem pu_X10_isWithin (scr : ScA) (σ : Sg) (i b : Int32) : CpI scr 0 mX10_isWithin [.int i, .int b] σ (isW i b) := CpI.of (E_X10_isWithin (W_X10_isWithin_0 ⟨isW01 i b, rfl, rfl⟩))
theorem pu_X10_hasBit (scr : ScA) (σ : Sg) (i b : Int32) : CpI scr 0 mX10_hasBit [.int i, .int b] σ (hbV i b) := CpI.of (E_X10_hasBit (W_X10_hasBit_0 ⟨hbV01 i b, rfl, rfl⟩))
theorem pu_X11_in (scr : ScA) (σ : Sg) (i b c : Int32) : CpI scr 0 mX11_in [.int i, .int b, .int c] σ (inV i b c) := CpI.of (E_X11_in (W_X11_in_0 ⟨inV01 i b c, rfl, rfl⟩))
theorem pu_X11_isIn (scr : ScA) (σ : Sg) (i b : Int32) : CpI scr 0 mX11_isIn [.int i, .int b] σ (iiV i b) := CpI.of (E_X11_isIn (W_X11_isIn_0 ⟨iiV01 i b, rfl, rfl⟩))
theorem pu_X11_below (scr : ScA) (σ : Sg) (i : Int32) : CpI scr 0 mX11_below [.int i] σ (blV i) := CpI.of (E_X11_below (W_X11_below_0 ⟨rfl, rfl⟩))
theorem pu_X11_no (scr : ScA) (σ : Sg) (i : Int32) : CpJ scr 0 mX11_no [.int i] σ ((-9223372036854775808) - (Int32.toInt64 i)) := CpJ.of (E_X11_no (W_X11_no_0 ⟨rfl, rfl⟩))
theorem pu_X10_mixed (scr : ScA) (σ : Sg) (h x : Int64) : CpJ scr 0 mX10_mixed [.long h, .long x] σ ((31 * h) + x) := CpJ.of (E_X10_mixed (W_X10_mixed_0 ⟨rfl, rfl⟩))
theorem pu_X5_tiring (scr : ScA) (σ : Sg) (i b : Int32) : CpI scr 0 mX5_tiring [.int i, .int b] σ (tiV i b) := CpI.of (E_X5_tiring (W_X5_tiring_0 ⟨fun h => ⟨by unfold tiV; rw [if_pos h], rfl⟩, fun h => ⟨by subst h; unfold tiV; rw [if_neg (show ¬ (2 : Int32) = 1 by decide), if_pos rfl], rfl⟩, fun h1 h2 => ⟨by unfold tiV; rw [if_neg h1, if_neg h2], rfl⟩⟩))
theorem pu_X1_following (scr : ScA) (σ : Sg) (i : Int32) : CpI scr 0 mX1_following [.int i] σ ((1103515245 * i) + 12345) := CpI.of (E_X1_following (W_X1_following_0 ⟨rfl, rfl⟩))
theorem pu_X1_allBits (scr : ScA) (σ : Sg) {v : Nat} (hv : isEv v) : CpI scr 0 mX1_allBits [.ref v] σ ((1 <<< ((σ v 3) &&& 31)) - 1) := CpI.of (E_X1_allBits (W_X1_allBits_0 hv ⟨rfl, rfl⟩))
theorem pu_J6_bitCount_0f7a4 (scr : ScA) (σ : Sg) (i : Int32) : CpI scr 0 mJ6_bitCount_0f7a4 [.int i] σ (bcV i) := CpI.of (E_J6_bitCount_0f7a4 (W_J6_bitCount_0f7a4_0 ⟨rfl, rfl⟩))
theorem pu_X10_height (scr : ScA) (σ : Sg) (i : Int32) : CpI scr 0 mX10_height [.int i] σ (htV i) := by
  refine CpI.of (E_X10_height (W_X10_height_0 (W_X10_height_12 ⟨fun h => absurd h (by decide), fun _ => ⟨by decide, W_X10_height_12 ⟨fun h => absurd h (by decide), fun _ => ⟨by decide, W_X10_height_12 ⟨fun h => absurd h (by decide), fun _ => ⟨by decide, W_X10_height_12 ⟨fun h => absurd h (by decide), fun _ => ⟨by decide, W_X10_height_12 ⟨fun _ => ⟨?_, rfl⟩, fun h => absurd (by decide) h⟩⟩⟩⟩⟩⟩⟩⟩⟩)))
  rfl
theorem pu_X0_part (scr : ScA) (σ : Sg) {k : Nat} (hk : isBe k) (i : Int32) : CpI scr 0 mX0_part [.ref k, .int i] σ (if i = 0 then σ k 0 else if i = 1 then σ k 1 else σ k 2) := CpI.of (E_X0_part (W_X0_part_0 hk ⟨fun h => ⟨by rw [if_pos h], rfl⟩, fun h => ⟨by rw [if_neg (by rw [h]; decide), if_pos h], rfl⟩, fun h1 h2 => ⟨by rw [if_neg h1, if_neg h2], rfl⟩⟩))
def hrV (σ : Sg) (k : Nat) (i n : Int32) : Int32 := if i < 0 then 0 else if n < 0 then 0 else if (σ k 2) < i then 0 else if ((σ k 2) - i) < n then 0 else 1
theorem hrV01 (σ : Sg) (k : Nat) (i n : Int32) : hrV σ k i n = 0 ∨ hrV σ k i n = 1 := by unfold hrV; repeat (first | exact Or.inl rfl | exact Or.inr rfl | split)
theorem pu_X4_hasRange (scr : ScA) (σ : Sg) {k : Nat} (hk : isSe k) (i n : Int32) : CpI scr 0 mX4_hasRange [.ref k, .int i, .int n] σ (hrV σ k i n) := CpI.of (E_X4_hasRange (W_X4_hasRange_0 hk ⟨hrV01 σ k i n, rfl, rfl⟩))
def byV (σ : Sg) (i : Int32) : Int32 := if (σ 136 0) ≤ i then (-1) else σ 137 (Int32.toNatClampNeg i)
theorem pu_X11_byteAt (scr : ScA) (σ : Sg) (i : Int32) (h : ¬ (σ 136 0) ≤ i → inB i 59 = true) : CpI scr 0 mX11_byteAt [.ref 136, .int i] σ (byV σ i) := CpI.of (E_X11_byteAt (W_X11_byteAt_0 ⟨h, rfl, rfl⟩))
def aoV (σ : Sg) (k w : Int32) : Int32 := if ¬ w = 0 then if ¬ w = 1 then if ¬ w = 2 then if ¬ w = 3 then σ 142 (Int32.toNatClampNeg k) else σ 141 (Int32.toNatClampNeg k) else σ 140 (Int32.toNatClampNeg k) else σ 139 (Int32.toNatClampNeg k) else σ 138 (Int32.toNatClampNeg k)
theorem pu_X11_acrobatOf (scr : ScA) (σ : Sg) (k w : Int32) (h : inB k 11 = true) : CpI scr 0 mX11_acrobatOf [.ref 136, .int k, .int w] σ (aoV σ k w) := CpI.of (E_X11_acrobatOf (W_X11_acrobatOf_0 ⟨fun _ => ⟨fun _ => ⟨fun _ => ⟨fun _ => h, fun _ => h⟩, fun _ => h⟩, fun _ => h⟩, fun _ => h, rfl, rfl⟩))
def liV (σ : Sg) (k m : Int32) : Int32 := if (σ 153 (Int32.toNatClampNeg k)) = (-1) then 0 else if 3 ≤ (m - (σ 153 (Int32.toNatClampNeg k))) then 0 else 1
theorem liV01 (σ : Sg) (k m : Int32) : liV σ k m = 0 ∨ liV σ k m = 1 := by unfold liV; repeat (first | exact Or.inl rfl | exact Or.inr rfl | split)
theorem pu_X11_lies (scr : ScA) (σ : Sg) (k m : Int32) (h : inB k 10 = true) : CpI scr 0 mX11_lies [.ref 136, .int k, .int m] σ (liV σ k m) := CpI.of (E_X11_lies (W_X11_lies_0 ⟨h, liV01 σ k m, rfl, rfl⟩))
def orV (σ : Sg) (n i : Int32) : Int32 := if ¬ i = (-1) then if n ≤ i then (-1) else σ 162 (Int32.toNatClampNeg i) else n
theorem pu_X11_ofRow (scr : ScA) (σ : Sg) (n i : Int32) (h : ¬ i = (-1) → (¬ n ≤ i → inB i 2 = true)) : CpI scr 0 mX11_ofRow [.ref 136, .int n, .int i] σ (orV σ n i) := CpI.of (E_X11_ofRow (W_X11_ofRow_0 ⟨h, rfl, rfl⟩))
