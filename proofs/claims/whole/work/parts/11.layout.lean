/-! the cells behind both constructors: shapes and references stay, ints change -/
def S0L : List (Nat × Nat) := [(0, 10), (0, 7), (1, 59), (0, 8), (1, 10), (1, 10), (1, 10), (1, 10), (1, 10), (1, 10), (0, 1), (1, 8), (1, 8), (1, 8), (0, 6), (1, 8), (1, 8), (1, 8), (0, 5), (1, 24), (1, 10), (1, 10), (1, 10), (1, 10), (5, 24), (1, 40), (1, 40), (1, 40), (1, 40), (1, 40), (1, 40), (1, 40), (1, 40), (1, 40), (1, 40), (1, 40), (1, 40), (1, 40), (1, 40), (1, 40), (1, 40), (1, 40), (1, 40), (1, 40), (1, 40), (1, 40), (1, 40), (1, 40), (1, 40), (0, 3), (0, 8), (1, 10), (1, 10), (1, 10), (1, 10), (1, 10), (1, 10), (0, 5), (1, 24), (1, 10), (1, 10), (1, 10), (1, 10), (5, 0), (0, 0), (0, 0), (3, 10), (0, 0), (0, 0), (0, 0), (0, 0), (0, 0), (0, 0), (0, 0), (0, 0), (0, 0), (0, 0), (0, 2), (0, 8), (1, 10), (1, 10), (1, 10), (1, 10), (1, 10), (1, 10), (0, 5), (1, 24), (1, 10), (1, 10), (1, 10), (1, 10), (5, 0), (1, 10), (1, 10), (1, 10), (5, 10), (1, 24), (1, 24), (1, 24), (1, 24), (1, 24), (1, 24), (1, 24), (1, 24), (1, 24), (1, 24), (0, 9), (0, 5), (1, 24), (1, 10), (1, 10), (1, 10), (1, 10), (5, 0), (1, 256), (0, 0), (0, 1), (1, 8), (1, 8), (1, 8), (0, 5), (1, 24), (1, 10), (1, 10), (1, 10), (1, 10), (5, 0), (4, 4), (0, 4), (1, 60), (0, 4), (1, 60), (0, 4), (1, 60), (0, 4), (1, 60), (0, 11), (1, 59), (1, 11), (1, 11), (1, 11), (1, 11), (1, 11), (1, 8), (1, 8), (1, 8), (1, 8), (1, 8), (1, 8), (1, 10), (1, 10), (1, 10), (1, 10), (1, 10), (1, 10), (1, 24), (1, 24), (1, 240), (1, 240), (1, 240), (1, 240), (1, 240), (1, 2), (1, 8), (1, 8), (1, 8), (1, 240), (2, 4), (1, 4), (1, 4), (1, 240), (1, 60)]
def S0 (k : Nat) : Nat × Nat := S0L.getD k (0, 99)
def R0L : List (List (Option Nat)) := [[some 1, some 3, some 10, some 14, some 18, some 49, some 77, some 106, some 116, some 120, some 127], [some 2], [], [some 4, some 5, some 6, some 7, some 8, some 9], [], [], [], [], [], [], [some 11, some 12, some 13], [], [], [], [some 15, some 16, some 17], [], [], [], [some 19, some 24, some 20, some 21, some 22, some 23], [], [], [], [], [], [some 25, some 26, some 27, some 28, some 29, some 30, some 31, some 32, some 33, some 34, some 35, some 36, some 37, some 38, some 39, some 40, some 41, some 42, some 43, some 44, some 45, some 46, some 47, some 48], [], [], [], [], [], [], [], [], [], [], [], [], [], [], [], [], [], [], [], [], [], [], [], [], [some 50, some 57, some 64, some 65, some 66], [some 51, some 52, some 53, some 54, some 55, some 56], [], [], [], [], [], [], [some 58, some 63, some 59, some 60, some 61, some 62], [], [], [], [], [], [], [], [], [some 67, some 68, some 69, some 70, some 71, some 72, some 73, some 74, some 75, some 76], [], [], [], [], [], [], [], [], [], [], [some 78, some 85, some 92, some 93, some 94, some 95], [some 79, some 80, some 81, some 82, some 83, some 84], [], [], [], [], [], [], [some 86, some 91, some 87, some 88, some 89, some 90], [], [], [], [], [], [], [], [], [], [some 96, some 97, some 98, some 99, some 100, some 101, some 102, some 103, some 104, some 105], [], [], [], [], [], [], [], [], [], [], [some 107, some 114, some 115], [some 108, some 113, some 109, some 110, some 111, some 112], [], [], [], [], [], [], [], [], [some 117, some 118, some 119], [], [], [], [some 121, some 126, some 122, some 123, some 124, some 125], [], [], [], [], [], [], [some 128, some 130, some 132, some 134], [some 129], [], [some 131], [], [some 133], [], [some 135], [], [none, some 137, none, some 138, some 139, some 140, some 141, some 142, none, some 143, some 144, some 145, none, some 146, some 147, some 148, none, none, none, none, none, none, none, none, none, none, none, some 149, some 150, some 151, some 152, some 153, some 154, some 155, some 156, some 157, some 158, some 159, some 160, some 161, none, none, some 162, none, some 163, some 164, some 165, some 166, some 167, some 168, some 169, some 170, some 171], [], [], [], [], [], [], [], [], [], [], [], [], [], [], [], [], [], [], [], [], [], [], [], [], [], [], [], [], [], [], [], [], [], [], []]
def R0 (k j : Nat) : Option Nat := (R0L.getD k []).getD j none
abbrev hs (σ : Nat → Nat → Int32) : Hp := (172, 4705, S0, R0, σ)
def pV (P : (Nat → Nat → Int32) → Prop) : Option Value → Hp → Prop := fun rv h' => ∃ σ', rv = none ∧ h' = hs σ' ∧ P σ'
def pI (P : Int32 → (Nat → Nat → Int32) → Prop) : Option Value → Hp → Prop := fun rv h' => ∃ r σ', rv = some (.int r) ∧ h' = hs σ' ∧ P r σ'
def pJ (P : Int64 → (Nat → Nat → Int32) → Prop) : Option Value → Hp → Prop := fun rv h' => ∃ r σ', rv = some (.long r) ∧ h' = hs σ' ∧ P r σ'
def pR (P : Nat → (Nat → Nat → Int32) → Prop) : Option Value → Hp → Prop := fun rv h' => ∃ r σ', rv = some (.ref r) ∧ h' = hs σ' ∧ P r σ'
def CvA (scr : ScA) (d : Nat) (M : MD) (as : List Value) (σ : Nat → Nat → Int32) (P : (Nat → Nat → Int32) → Prop) : Prop := CtA scr d M as (hs σ) 0 0 (pV P)
def CiA (scr : ScA) (d : Nat) (M : MD) (as : List Value) (σ : Nat → Nat → Int32) (P : Int32 → (Nat → Nat → Int32) → Prop) : Prop := CtA scr d M as (hs σ) 0 0 (pI P)
def ClA (scr : ScA) (d : Nat) (M : MD) (as : List Value) (σ : Nat → Nat → Int32) (P : Int64 → (Nat → Nat → Int32) → Prop) : Prop := CtA scr d M as (hs σ) 0 0 (pJ P)
def CrA (scr : ScA) (d : Nat) (M : MD) (as : List Value) (σ : Nat → Nat → Int32) (P : Nat → (Nat → Nat → Int32) → Prop) : Prop := CtA scr d M as (hs σ) 0 0 (pR P)
theorem QxA.weak {D : va_G} {cy : Nat → ClassId} {tb : Nat → Nat} {z : Nat} {p q : Option Value → Hp → Prop} (h : ∀ r h, p r h → q r h) : ∀ a st oc t, QxA D cy tb z p a st oc t → QxA D cy tb z q a st oc t := fun a st oc t ⟨⟨r, h', g1, g2⟩, g3⟩ => ⟨⟨r, h', h r h' g1, g2⟩, g3⟩
theorem CtA.weak {scr : ScA} {d : Nat} {M : MD} {as : List Value} {h : Hp} {mc ms : Nat} {p q : Option Value → Hp → Prop} (hC : CtA scr d M as h mc ms p) (hpq : ∀ r h, p r h → q r h) : CtA scr d M as h mc ms q := fun l D cy tb z => MetFree.mono (hC l D cy tb z) (fun _ _ h => h) (fun _ _ _ _ _ h => h) (fun a st oc t _ hq => ⟨QxA.weak hpq a st oc t hq.1, hq.2⟩)
theorem CvA.weak {scr : ScA} {d : Nat} {M : MD} {as : List Value} {σ : Nat → Nat → Int32} {P Q : (Nat → Nat → Int32) → Prop} (h : CvA scr d M as σ P) (hpq : ∀ σ', P σ' → Q σ') : CvA scr d M as σ Q := CtA.weak h (fun r h' ⟨s9, g1, g2, g3⟩ => ⟨s9, g1, g2, hpq s9 g3⟩)
theorem CiA.weak {scr : ScA} {d : Nat} {M : MD} {as : List Value} {σ : Nat → Nat → Int32} {P Q : Int32 → (Nat → Nat → Int32) → Prop} (h : CiA scr d M as σ P) (hpq : ∀ r σ', P r σ' → Q r σ') : CiA scr d M as σ Q := CtA.weak h (fun r h' ⟨r9, s9, g1, g2, g3⟩ => ⟨r9, s9, g1, g2, hpq r9 s9 g3⟩)
theorem ClA.weak {scr : ScA} {d : Nat} {M : MD} {as : List Value} {σ : Nat → Nat → Int32} {P Q : Int64 → (Nat → Nat → Int32) → Prop} (h : ClA scr d M as σ P) (hpq : ∀ r σ', P r σ' → Q r σ') : ClA scr d M as σ Q := CtA.weak h (fun r h' ⟨r9, s9, g1, g2, g3⟩ => ⟨r9, s9, g1, g2, hpq r9 s9 g3⟩)
theorem CrA.weak {scr : ScA} {d : Nat} {M : MD} {as : List Value} {σ : Nat → Nat → Int32} {P Q : Nat → (Nat → Nat → Int32) → Prop} (h : CrA scr d M as σ P) (hpq : ∀ r σ', P r σ' → Q r σ') : CrA scr d M as σ Q := CtA.weak h (fun r h' ⟨r9, s9, g1, g2, g3⟩ => ⟨r9, s9, g1, g2, hpq r9 s9 g3⟩)
def CpI (scr : ScA) (d : Nat) (M : MD) (as : List Value) (σ : Nat → Nat → Int32) (e : Int32) : Prop := CtA scr d M as (hs σ) 0 0 (fun rv h' => rv = some (.int e) ∧ h' = hs σ)
def CpJ (scr : ScA) (d : Nat) (M : MD) (as : List Value) (σ : Nat → Nat → Int32) (e : Int64) : Prop := CtA scr d M as (hs σ) 0 0 (fun rv h' => rv = some (.long e) ∧ h' = hs σ)
theorem CpI.of {scr : ScA} {d : Nat} {M : MD} {as : List Value} {σ : Nat → Nat → Int32} {e : Int32} (h : CiA scr d M as σ (fun r σ' => r = e ∧ σ' = σ)) : CpI scr d M as σ e := CtA.weak h (fun rv h' ⟨r9, s9, g1, g2, g3, g4⟩ => ⟨by rw [g1, g3], by rw [g2, g4]⟩)
theorem CpJ.of {scr : ScA} {d : Nat} {M : MD} {as : List Value} {σ : Nat → Nat → Int32} {e : Int64} (h : ClA scr d M as σ (fun r σ' => r = e ∧ σ' = σ)) : CpJ scr d M as σ e := CtA.weak h (fun rv h' ⟨r9, s9, g1, g2, g3, g4⟩ => ⟨by rw [g1, g3], by rw [g2, g4]⟩)
theorem CpI.use {scr : ScA} {d : Nat} {M : MD} {as : List Value} {σ : Nat → Nat → Int32} {e : Int32} (h : CpI scr d M as σ e) : CiA scr d M as σ (fun r σ' => r = e ∧ σ' = σ) := CtA.weak h (fun rv h' ⟨g1, g2⟩ => ⟨e, σ, g1, g2, rfl, rfl⟩)
/-- locals that are not read any more may be forgotten -/
def leL : LsA → LsA → Prop
  | [], _ => True
  | none :: a, [] => leL a []
  | none :: a, _ :: b => leL a b
  | some v :: a, x :: b => x = some v ∧ leL a b
  | some _ :: _, [] => False
theorem leL_get : ∀ (a b : LsA), leL a b → ∀ (i : Nat) (v : Value), a.getD i none = some v → b.getD i none = some v
  | [], b, _, i, v, h => by simp at h
  | none :: a, [], hl, i, v, h => by
    cases i with
    | zero => simp at h
    | succ i =>
      have := leL_get a [] hl i v (by simpa using h)
      simp at this
  | none :: a, x :: b, hl, i, v, h => by
    cases i with
    | zero => simp at h
    | succ i => simpa using leL_get a b hl i v (by simpa using h)
  | some w :: a, x :: b, hl, i, v, h => by
    obtain ⟨rfl, hl⟩ := hl
    cases i with
    | zero => simpa using h
    | succ i => simpa using leL_get a b hl i v (by simpa using h)
  | some w :: a, [], hl, i, v, h => hl.elim
theorem XA.drop {scr : ScA} {d : Nat} {M : MD} {N1 W1 pc : Nat} {ls ls' : LsA} {st : List Value} {h : Hp} {post : Option Value → Hp → Prop} (hl : leL ls ls') (hX : XA scr d M N1 W1 pc ls st h post) : XA scr d M N1 W1 pc ls' st h post := by
  intro D cy tb z p l e R s m args below meth c n0 w0 mc ms Qf E e1 e2 hR H locs A hP hS hL hn hw
  exact hX D cy tb z p l e R s m args below meth c n0 w0 mc ms Qf E e1 e2 hR H locs A hP hS ⟨hL.1, hL.2.1, fun i v hi => hL.2.2 i v (leL_get ls ls' hl i v hi)⟩ hn hw
theorem inB_nat {i : Int32} {n : Nat} (h : inB i n = true) : 0 ≤ i.toInt ∧ i.toNatClampNeg < n ∧ i.toInt = (i.toNatClampNeg : Int) := by
  have hv := inB_iff.mp h
  unfold vp_in at hv
  have h0 : ¬ i < 0 := fun q => hv (Or.inl q)
  have h1 : i.toNatClampNeg < n := Nat.not_le.mp fun q => hv (Or.inr q)
  have h2 : 0 ≤ i.toInt := by
    have := Int32.not_lt.mp h0
    simpa using Int32.le_iff_toInt_le.mp this
  refine ⟨h2, h1, ?_⟩
  show i.toInt = ((i.toInt.toNat : Nat) : Int)
  omega
def isSw (k : Nat) : Prop := k = 18 ∨ k = 57 ∨ k = 85 ∨ k = 107 ∨ k = 120
theorem swO {k : Nat} (h : isSw k) : kO 172 S0 k 5 = true := by rcases h with rfl | rfl | rfl | rfl | rfl <;> rfl
theorem swR0 {k : Nat} (h : isSw k) : kR R0 k 0 (k + 1) = true := by rcases h with rfl | rfl | rfl | rfl | rfl <;> rfl
theorem swA1 {k : Nat} (h : isSw k) (i : Int32) : kA 172 S0 (k + 1) 1 i = inB i 24 := by rcases h with rfl | rfl | rfl | rfl | rfl <;> rfl
theorem swR1 {k : Nat} (h : isSw k) : kR R0 k 1 (k + 6) = true := by rcases h with rfl | rfl | rfl | rfl | rfl <;> rfl
theorem swR2 {k : Nat} (h : isSw k) : kR R0 k 2 (k + 2) = true := by rcases h with rfl | rfl | rfl | rfl | rfl <;> rfl
theorem swA2 {k : Nat} (h : isSw k) (i : Int32) : kA 172 S0 (k + 2) 1 i = inB i 10 := by rcases h with rfl | rfl | rfl | rfl | rfl <;> rfl
theorem swR3 {k : Nat} (h : isSw k) : kR R0 k 3 (k + 3) = true := by rcases h with rfl | rfl | rfl | rfl | rfl <;> rfl
theorem swA3 {k : Nat} (h : isSw k) (i : Int32) : kA 172 S0 (k + 3) 1 i = inB i 10 := by rcases h with rfl | rfl | rfl | rfl | rfl <;> rfl
theorem swR4 {k : Nat} (h : isSw k) : kR R0 k 4 (k + 4) = true := by rcases h with rfl | rfl | rfl | rfl | rfl <;> rfl
theorem swA4 {k : Nat} (h : isSw k) (i : Int32) : kA 172 S0 (k + 4) 1 i = inB i 10 := by rcases h with rfl | rfl | rfl | rfl | rfl <;> rfl
theorem swR5 {k : Nat} (h : isSw k) : kR R0 k 5 (k + 5) = true := by rcases h with rfl | rfl | rfl | rfl | rfl <;> rfl
theorem swA5 {k : Nat} (h : isSw k) (i : Int32) : kA 172 S0 (k + 5) 1 i = inB i 10 := by rcases h with rfl | rfl | rfl | rfl | rfl <;> rfl
def isTr (k : Nat) : Prop := k = 3 ∨ k = 50 ∨ k = 78
theorem trO {k : Nat} (h : isTr k) : kO 172 S0 k 8 = true := by rcases h with rfl | rfl | rfl <;> rfl
theorem trR0 {k : Nat} (h : isTr k) : kR R0 k 0 (k + 1) = true := by rcases h with rfl | rfl | rfl <;> rfl
theorem trA1 {k : Nat} (h : isTr k) (i : Int32) : kA 172 S0 (k + 1) 1 i = inB i 10 := by rcases h with rfl | rfl | rfl <;> rfl
theorem trR1 {k : Nat} (h : isTr k) : kR R0 k 1 (k + 2) = true := by rcases h with rfl | rfl | rfl <;> rfl
theorem trA2 {k : Nat} (h : isTr k) (i : Int32) : kA 172 S0 (k + 2) 1 i = inB i 10 := by rcases h with rfl | rfl | rfl <;> rfl
theorem trR2 {k : Nat} (h : isTr k) : kR R0 k 2 (k + 3) = true := by rcases h with rfl | rfl | rfl <;> rfl
theorem trA3 {k : Nat} (h : isTr k) (i : Int32) : kA 172 S0 (k + 3) 1 i = inB i 10 := by rcases h with rfl | rfl | rfl <;> rfl
theorem trR3 {k : Nat} (h : isTr k) : kR R0 k 3 (k + 4) = true := by rcases h with rfl | rfl | rfl <;> rfl
theorem trA4 {k : Nat} (h : isTr k) (i : Int32) : kA 172 S0 (k + 4) 1 i = inB i 10 := by rcases h with rfl | rfl | rfl <;> rfl
theorem trR4 {k : Nat} (h : isTr k) : kR R0 k 4 (k + 5) = true := by rcases h with rfl | rfl | rfl <;> rfl
theorem trA5 {k : Nat} (h : isTr k) (i : Int32) : kA 172 S0 (k + 5) 1 i = inB i 10 := by rcases h with rfl | rfl | rfl <;> rfl
theorem trR5 {k : Nat} (h : isTr k) : kR R0 k 5 (k + 6) = true := by rcases h with rfl | rfl | rfl <;> rfl
theorem trA6 {k : Nat} (h : isTr k) (i : Int32) : kA 172 S0 (k + 6) 1 i = inB i 10 := by rcases h with rfl | rfl | rfl <;> rfl
def isEv (k : Nat) : Prop := k = 10 ∨ k = 116
theorem evO {k : Nat} (h : isEv k) : kO 172 S0 k 1 = true := by rcases h with rfl | rfl <;> rfl
theorem evR0 {k : Nat} (h : isEv k) : kR R0 k 0 (k + 1) = true := by rcases h with rfl | rfl <;> rfl
theorem evA1 {k : Nat} (h : isEv k) (i : Int32) : kA 172 S0 (k + 1) 1 i = inB i 8 := by rcases h with rfl | rfl <;> rfl
theorem evR1 {k : Nat} (h : isEv k) : kR R0 k 1 (k + 2) = true := by rcases h with rfl | rfl <;> rfl
theorem evA2 {k : Nat} (h : isEv k) (i : Int32) : kA 172 S0 (k + 2) 1 i = inB i 8 := by rcases h with rfl | rfl <;> rfl
theorem evR2 {k : Nat} (h : isEv k) : kR R0 k 2 (k + 3) = true := by rcases h with rfl | rfl <;> rfl
theorem evA3 {k : Nat} (h : isEv k) (i : Int32) : kA 172 S0 (k + 3) 1 i = inB i 8 := by rcases h with rfl | rfl <;> rfl
def isSe (k : Nat) : Prop := k = 128 ∨ k = 130 ∨ k = 132 ∨ k = 134
theorem seO {k : Nat} (h : isSe k) : kO 172 S0 k 4 = true := by rcases h with rfl | rfl | rfl | rfl <;> rfl
theorem seR0 {k : Nat} (h : isSe k) : kR R0 k 0 (k + 1) = true := by rcases h with rfl | rfl | rfl | rfl <;> rfl
theorem seA1 {k : Nat} (h : isSe k) (i : Int32) : kA 172 S0 (k + 1) 1 i = inB i 60 := by rcases h with rfl | rfl | rfl | rfl <;> rfl
theorem swL6 {k : Nat} (h : isSw k) : decide (k + 6 < 172 ∧ 1 ≤ (S0 (k + 6)).1 ∧ (S0 (k + 6)).1 ≤ 5) = true := by rcases h with rfl | rfl | rfl | rfl | rfl <;> rfl
def isAr (a n : Nat) : Prop := a < 172 ∧ S0 a = (1, n)
theorem arA {a n : Nat} (h : isAr a n) (i : Int32) : kA 172 S0 a 1 i = inB i n := by unfold kA; rw [h.2, decide_eq_true ⟨h.1, rfl⟩, Bool.true_and]
theorem arL0 {a n : Nat} (h : isAr a n) : decide (a < 172 ∧ 1 ≤ (S0 a).1 ∧ (S0 a).1 ≤ 5) = true := by rw [h.2]; exact decide_eq_true ⟨h.1, by omega, by omega⟩
def isBe (k : Nat) : Prop := kO 172 S0 k 0 = true
theorem beO {k : Nat} (h : isBe k) : kO 172 S0 k 0 = true := h
theorem beH {i : Int32} (h : inB i 10 = true) : isBe (66 + 1 + 1 * i.toNatClampNeg) := (by decide : ∀ j, j < 10 → kO 172 S0 (66 + 1 + 1 * j) 0 = true) _ (inB_nat h).2.1
theorem beK {i : Int32} (h : inB i 10 = true) : kR R0 66 i.toNatClampNeg (66 + 1 + 1 * i.toNatClampNeg) = true := (by decide : ∀ j, j < 10 → kR R0 66 j (66 + 1 + 1 * j) = true) _ (inB_nat h).2.1
theorem seH {i : Int32} (h : inB i 4 = true) : isSe (127 + 1 + 2 * i.toNatClampNeg) := by have := (inB_nat h).2.1; unfold isSe; omega
theorem seK {i : Int32} (h : inB i 4 = true) : kR R0 127 i.toNatClampNeg (127 + 1 + 2 * i.toNatClampNeg) = true := (by decide : ∀ j, j < 4 → kR R0 127 j (127 + 1 + 2 * j) = true) _ (inB_nat h).2.1
theorem dyH {i : Int32} (h : inB i 24 = true) : inB i 24 = true := h
theorem dyK {i : Int32} (h : inB i 24 = true) : kR R0 24 i.toNatClampNeg (24 + 1 + 1 * i.toNatClampNeg) = true := (by decide : ∀ j, j < 24 → kR R0 24 j (24 + 1 + 1 * j) = true) _ (inB_nat h).2.1
theorem dyA {i : Int32} (h : inB i 24 = true) (x : Int32) : kA 172 S0 (24 + 1 + 1 * i.toNatClampNeg) 1 x = inB x 40 := by
  have e : ∀ j, j < 24 → 24 + 1 + 1 * j < 172 ∧ S0 (24 + 1 + 1 * j) = (1, 40) := by decide
  obtain ⟨e1, e2⟩ := e _ (inB_nat h).2.1
  unfold kA
  rw [e2, decide_eq_true ⟨e1, rfl⟩, Bool.true_and]
theorem tkH {i : Int32} (h : inB i 10 = true) : inB i 10 = true := h
theorem tkK {i : Int32} (h : inB i 10 = true) : kR R0 95 i.toNatClampNeg (95 + 1 + 1 * i.toNatClampNeg) = true := (by decide : ∀ j, j < 10 → kR R0 95 j (95 + 1 + 1 * j) = true) _ (inB_nat h).2.1
theorem tkA {i : Int32} (h : inB i 10 = true) (x : Int32) : kA 172 S0 (95 + 1 + 1 * i.toNatClampNeg) 1 x = inB x 24 := by
  have e : ∀ j, j < 10 → 95 + 1 + 1 * j < 172 ∧ S0 (95 + 1 + 1 * j) = (1, 24) := by decide
  obtain ⟨e1, e2⟩ := e _ (inB_nat h).2.1
  unfold kA
  rw [e2, decide_eq_true ⟨e1, rfl⟩, Bool.true_and]
theorem dyI {i : Int32} (h : inB i 24 = true) : isAr (24 + 1 + 1 * i.toNatClampNeg) 40 := (by decide : ∀ j, j < 24 → 24 + 1 + 1 * j < 172 ∧ S0 (24 + 1 + 1 * j) = (1, 40)) _ (inB_nat h).2.1
theorem tkI {i : Int32} (h : inB i 10 = true) : isAr (95 + 1 + 1 * i.toNatClampNeg) 24 := (by decide : ∀ j, j < 10 → 95 + 1 + 1 * j < 172 ∧ S0 (95 + 1 + 1 * j) = (1, 24)) _ (inB_nat h).2.1
