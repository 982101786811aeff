/-! what a show is, in numbers -/
abbrev TT : Type := Nat × (Nat → Nat) × (Nat → Nat) × (Nat → Nat) × (Nat → Nat) × (Nat → Nat)
def tn (T : TT) : Nat := T.1
def tso (T : TT) : Nat → Nat := T.2.1
def twe (T : TT) : Nat → Nat := T.2.2.1
def tst (T : TT) : Nat → Nat := T.2.2.2.1
def tco (T : TT) : Nat → Nat := T.2.2.2.2.1
def tpl (T : TT) : Nat → Nat := T.2.2.2.2.2
def TW (T : TT) : Prop := tn T ≤ 10 ∧ (∀ a, a < tn T → tso T a < 3 ∧ 1 ≤ twe T a ∧ twe T a ≤ 9 ∧ 1 ≤ tst T a ∧ tst T a ≤ 9 ∧ tco T a < 24 ∧ tpl T a < 10) ∧ ∀ a b, a < tn T → b < tn T → tpl T a = tpl T b → a = b
def hdF (pl : Nat → Nat) (p : Nat) : Nat → Option Nat
  | 0 => none
  | n + 1 => match hdF pl p n with
    | some a => some a
    | none => if pl n = p then some n else none
def hdO (T : TT) (p : Nat) : Option Nat := hdF (tpl T) p (tn T)
theorem hdF_some {pl : Nat → Nat} {p : Nat} : ∀ {n a : Nat}, hdF pl p n = some a → a < n ∧ pl a = p
  | 0, a, h => by cases h
  | n + 1, a, h => by
    unfold hdF at h
    cases h1 : hdF pl p n with
    | some b =>
      rw [h1] at h
      cases h
      have := hdF_some h1
      exact ⟨by omega, this.2⟩
    | none =>
      rw [h1] at h
      by_cases h2 : pl n = p
      · simp only [if_pos h2] at h
        cases h
        exact ⟨by omega, h2⟩
      · simp only [if_neg h2] at h
        cases h
theorem hdF_none {pl : Nat → Nat} {p : Nat} : ∀ {n : Nat}, hdF pl p n = none → ∀ a, a < n → pl a ≠ p
  | 0, _, a, h => by omega
  | n + 1, h, a, ha => by
    unfold hdF at h
    cases h1 : hdF pl p n with
    | some b => rw [h1] at h; cases h
    | none =>
      rw [h1] at h
      by_cases h2 : pl n = p
      · simp only [if_pos h2] at h
        cases h
      · rcases Nat.lt_or_ge a n with h3 | h3
        · exact hdF_none h1 a h3
        · rw [show a = n by omega]; exact h2
theorem hdO_some {T : TT} {p a : Nat} (h : hdO T p = some a) : a < tn T ∧ tpl T a = p := hdF_some h
theorem hdO_of {T : TT} (hT : TW T) {a : Nat} (ha : a < tn T) : hdO T (tpl T a) = some a := by
  cases h : hdO T (tpl T a) with
  | none => exact absurd rfl (hdF_none h a ha)
  | some b => rw [hT.2.2 b a (hdO_some h).1 ha (hdO_some h).2]
def hcI (T : TT) (p : Nat) : Int32 := match hdO T p with
  | some a => nI a
  | none => -1
def TrC (σ : Sg) (q : Nat) (T : TT) : Prop := σ q 6 = nI (tn T) ∧ (∀ a, a < tn T → σ (q + 1) a = nI (tso T a) ∧ σ (q + 2) a = nI (twe T a) ∧ σ (q + 3) a = nI (tst T a) ∧ σ (q + 4) a = nI (tco T a) ∧ σ (q + 5) a = nI (tpl T a)) ∧ ∀ p, p < 10 → σ (q + 6) p = hcI T p
theorem TrC.fr {σ σ' : Sg} {q : Nat} {T : TT} (h : TrC σ q T) (hf : ∀ i, i ≤ 6 → σ' (q + i) = σ (q + i)) : TrC σ' q T := by
  have h0 := hf 0 (by omega)
  rw [Nat.add_zero] at h0
  refine ⟨by rw [h0]; exact h.1, fun a ha => ?_, fun p hp => by rw [hf 6 (by omega)]; exact h.2.2 p hp⟩
  rw [hf 1 (by omega), hf 2 (by omega), hf 3 (by omega), hf 4 (by omega), hf 5 (by omega)]
  exact h.2.1 a ha
/-- events: how many, kinds, moments, numbers -/
abbrev EE : Type := Nat × (Nat → Nat) × (Nat → Nat) × (Nat → Nat)
def EW (E : EE) : Prop := E.1 ≤ 8 ∧ ∀ i, i < E.1 → E.2.1 i < 3 ∧ E.2.2.1 i < 24 ∧ E.2.2.2 i < 10
def EvC (σ : Sg) (v : Nat) (E : EE) : Prop := σ v 3 = nI E.1 ∧ ∀ i, i < E.1 → σ (v + 1) i = nI (E.2.1 i) ∧ σ (v + 2) i = nI (E.2.2.1 i) ∧ σ (v + 3) i = nI (E.2.2.2 i)
theorem EvC.fr {σ σ' : Sg} {v : Nat} {E : EE} (h : EvC σ v E) (hf : ∀ i, i ≤ 3 → σ' (v + i) = σ (v + i)) : EvC σ' v E := by
  have h0 := hf 0 (by omega)
  rw [Nat.add_zero] at h0
  refine ⟨by rw [h0]; exact h.1, fun a ha => ?_⟩
  rw [hf 1 (by omega), hf 2 (by omega), hf 3 (by omega)]
  exact h.2 a ha
/-- which of the events are, of a kind, in a moment -/
def evI (E : EE) (ch m i : Nat) : Bool := decide (E.2.2.1 i = m) && ch.testBit i
def gaS (E : EE) (ch m : Nat) : Nat → Nat
  | 0 => 0
  | i + 1 => if evI E ch m i = true ∧ E.2.1 i = 0 then gaS E ch m i ||| 2 ^ (E.2.2.2 i) else gaS E ch m i
def gaH (E : EE) (ch m : Nat) : Nat → Nat
  | 0 => 0
  | i + 1 => if evI E ch m i = true ∧ ¬ E.2.1 i = 0 ∧ ¬ E.2.1 i = 1 then gaH E ch m i ||| 2 ^ (E.2.2.2 i) else gaH E ch m i
def gaR (E : EE) (ch m : Nat) : Nat → Nat
  | 0 => 0
  | i + 1 => if evI E ch m i = true ∧ E.2.1 i = 1 then gaR E ch m i + 3 else gaR E ch m i
theorem gaS_lt {E : EE} (hE : EW E) (ch m : Nat) : ∀ i, i ≤ E.1 → gaS E ch m i < 1024
  | 0, _ => (show 0 < 1024 by decide)
  | i + 1, h => by
    have ih := gaS_lt hE ch m i (by omega)
    unfold gaS
    split
    · exact or_lt (n := 10) ih (pow_lt (n := 10) (hE.2 i (by omega)).2.2)
    · exact ih
theorem gaH_lt {E : EE} (hE : EW E) (ch m : Nat) : ∀ i, i ≤ E.1 → gaH E ch m i < 1024
  | 0, _ => (show 0 < 1024 by decide)
  | i + 1, h => by
    have ih := gaH_lt hE ch m i (by omega)
    unfold gaH
    split
    · exact or_lt (n := 10) ih (pow_lt (n := 10) (hE.2 i (by omega)).2.2)
    · exact ih
theorem gaR_le (E : EE) (ch m : Nat) : ∀ i, gaR E ch m i ≤ 3 * i
  | 0 => Nat.le_refl _
  | i + 1 => by
    have ih := gaR_le E ch m i
    unfold gaR
    split <;> omega
def sup (p : Nat) : Nat := ([0, 0, 0, 0, 3, 6, 12, 48, 96, 384] : List Nat).getD p 0
def lbN (p : Nat) : Nat := ([0, 0, 0, 0, 0, 1, 2, 4, 5, 7] : List Nat).getD p 0
theorem tb1 (scr : ScA) {p : Nat} (hp : p < 10) : tbV scr 1 p = nI (sup p) := (by decide : ∀ p, p < 10 → (tbL 1).getD p 0 = nI (sup p)) p hp
theorem tb0 (scr : ScA) {p : Nat} (hp : p < 10) : tbV scr 0 p = nI (lbN p) := (by decide : ∀ p, p < 10 → (tbL 0).getD p 0 = nI (lbN p)) p hp
theorem sup_lt (p : Nat) : sup p < 1024 := by
  rcases Nat.lt_or_ge p 10 with h | h
  · exact (by decide : ∀ p, p < 10 → sup p < 1024) p h
  · unfold sup
    rw [List.getD_eq_getElem?_getD, List.getElem?_eq_none (by simpa using h)]
    decide
theorem lb_lt : ∀ p, p < 10 → lbN p < 8 := by decide
/-- places of those who sneeze -/
def szB (T : TT) (sn : Nat) : Nat → Nat
  | 0 => 0
  | a + 1 => if sn.testBit a = true then szB T sn a ||| 2 ^ (tpl T a) else szB T sn a
theorem szB_lt {T : TT} (hT : TW T) (sn : Nat) : ∀ a, a ≤ tn T → szB T sn a < 1024
  | 0, _ => (show 0 < 1024 by decide)
  | a + 1, h => by
    have ih := szB_lt hT sn a (by omega)
    unfold szB
    split
    · exact or_lt (n := 10) ih (pow_lt (n := 10) (hT.2.1 a (by omega)).2.2.2.2.2.2)
    · exact ih
theorem szB_0 (T : TT) : ∀ a, szB T 0 a = 0
  | 0 => rfl
  | a + 1 => by
    unfold szB
    rw [szB_0 T a]
    simp
/-- who falls: from those at x, upwards -/
def flS (b p x : Nat) : Nat := if b.testBit p = true ∧ ¬ x &&& sup p = 0 then x ||| 2 ^ p else x
def flL (b x : Nat) : Nat → Nat
  | 0 => x
  | i + 1 => flS b (4 + i) (flL b x i)
def flN (b x : Nat) : Nat := flL b x 6
theorem flL_lt {b x : Nat} (hx : x < 1024) : ∀ i, i ≤ 6 → flL b x i < 1024
  | 0, _ => hx
  | i + 1, h => by
    have ih := flL_lt (b := b) hx i (by omega)
    unfold flL flS
    split
    · exact or_lt (n := 10) ih (pow_lt (n := 10) (by omega))
    · exact ih
/-- a show's state: places taken, tired, fell, lying, falls, first fall -/
abbrev SS : Type := Nat × (Nat → Nat) × (Nat → Nat) × (Nat → Nat) × Nat × Nat
def toS (T : TT) (S : SS) (g m : Nat) : SS := if g &&& S.1 = 0 then S else
  (dif S.1 (flN S.1 (g &&& S.1)), fun a => if (flN S.1 (g &&& S.1)).testBit (tpl T a) = true then 0 else S.2.1 a, fun a => if (flN S.1 (g &&& S.1)).testBit (tpl T a) = true then S.2.2.1 a + 1 else S.2.2.1 a, fun a => if (flN S.1 (g &&& S.1)).testBit (tpl T a) = true then m + 3 else S.2.2.2.1 a, S.2.2.2.2.1 + pop (flN S.1 (g &&& S.1)), if m < S.2.2.2.2.2 then m else S.2.2.2.2.2)
def apS (S : SS) (rl : Nat) : SS := (S.1, fun a => S.2.1 a - rl, S.2.2.1, S.2.2.2.1, S.2.2.2.2.1, S.2.2.2.2.2)
def clB (T : TT) (ll : Nat → Nat) (he m b : Nat) : Nat → Nat
  | 0 => b
  | a + 1 => if tco T a ≤ m ∧ ll a ≤ m ∧ he.testBit a = false ∧ clB T ll he m b a &&& sup (tpl T a) = sup (tpl T a) then clB T ll he m b a ||| 2 ^ (tpl T a) else clB T ll he m b a
theorem clB_lt {T : TT} (hT : TW T) (ll : Nat → Nat) (he m : Nat) {b : Nat} (hb : b < 1024) : ∀ a, a ≤ tn T → clB T ll he m b a < 1024
  | 0, _ => hb
  | a + 1, h => by
    have ih := clB_lt hT ll he m hb a (by omega)
    unfold clB
    split
    · exact or_lt (n := 10) ih (pow_lt (n := 10) (hT.2.1 a (by omega)).2.2.2.2.2.2)
    · exact ih
/-- loads by place, from the top down: j places done -/
def ldS (T : TT) (b : Nat) : Nat → Nat → Nat
  | 0 => fun _ => 0
  | j + 1 => match hdO T (9 - j) with
    | none => ldS T b j
    | some a => if b.testBit (9 - j) = true then fun p => if p = lbN (9 - j) ∨ p = lbN (9 - j) + 1 then ldS T b j p + (8 * twe T a + ldS T b j (9 - j)) / 2 else ldS T b j p else ldS T b j
def ldF (T : TT) (b : Nat) : Nat → Nat := ldS T b 6
theorem ldS_le {T : TT} (hT : TW T) (b : Nat) : ∀ j p, ldS T b j p ≤ 36 * (2 ^ j - 1)
  | 0, p => by simp [ldS]
  | j + 1, p => by
    have ih := ldS_le hT b j
    have e : 36 * (2 ^ (j + 1) - 1) = 2 * (36 * (2 ^ j - 1)) + 36 := by
      have : 1 ≤ 2 ^ j := Nat.one_le_two_pow
      rw [Nat.pow_succ]
      omega
    have ihp := ih p
    rw [e]
    unfold ldS
    cases ha : hdO T (9 - j) with
    | none =>
      simp only
      omega
    | some a =>
      simp only
      have hw := (hT.2.1 a (hdO_some ha).1).2.2.1
      have ih9 := ih (9 - j)
      by_cases hb : b.testBit (9 - j) = true
      · rw [if_pos hb]
        split <;> omega
      · rw [if_neg hb]
        omega
theorem ldF_le {T : TT} (hT : TW T) (b p : Nat) : ldF T b p ≤ 2268 := ldS_le hT b 6 p
def tiN (so l : Nat) : Nat := if so = 1 then l / 8 + 1 else if so = 2 then l / 8 - 1 else l / 8
theorem tiN_le {so l : Nat} (h : l ≤ 2268) : tiN so l ≤ 284 := by unfold tiN; split; omega; split <;> omega
def trT (T : TT) (b : Nat) (ld ti : Nat → Nat) : Nat → Nat := fun a => if b.testBit (tpl T a) = true then ti a + tiN (tso T a) (ld (tpl T a)) else ti a
def gvB (T : TT) (b : Nat) (ld ti : Nat → Nat) : Nat → Nat
  | 0 => 0
  | a + 1 => if b.testBit (tpl T a) = true ∧ (4 * tst T a < trT T b ld ti a ∨ 16 * tst T a < ld (tpl T a)) then gvB T b ld ti a ||| 2 ^ (tpl T a) else gvB T b ld ti a
theorem gvB_lt {T : TT} (hT : TW T) (b : Nat) (ld ti : Nat → Nat) : ∀ a, a ≤ tn T → gvB T b ld ti a < 1024
  | 0, _ => (show 0 < 1024 by decide)
  | a + 1, h => by
    have ih := gvB_lt hT b ld ti a (by omega)
    unfold gvB
    split
    · exact or_lt (n := 10) ih (pow_lt (n := 10) (hT.2.1 a (by omega)).2.2.2.2.2.2)
    · exact ih
/-- the moment's parts -/
def st1 (T : TT) (E : EE) (ch m : Nat) (S : SS) : SS := apS (toS T S (szB T (gaS E ch m E.1) (tn T)) m) (gaR E ch m E.1)
def st2 (T : TT) (E : EE) (ch m : Nat) (S : SS) : SS := (clB T S.2.2.2.1 (gaH E ch m E.1) m S.1 (tn T), S.2)
def st3 (T : TT) (m : Nat) (S : SS) : SS := toS T (S.1, trT T S.1 (ldF T S.1) S.2.1, S.2.2) (gvB T S.1 (ldF T S.1) S.2.1 (tn T)) m
def stp1 (T : TT) (E : EE) (ch m : Nat) (S : SS) : SS := st3 T m (st2 T E ch m (st1 T E ch m S))
def ldAt (T : TT) (E : EE) (ch m : Nat) (S : SS) : Nat → Nat := ldF T (st2 T E ch m (st1 T E ch m S)).1
def st0 : SS := (0, fun _ => 0, fun _ => 0, fun _ => 0, 0, 24)
/-- behind m moments -/
def sim (T : TT) (E : EE) (ch : Nat) : Nat → SS
  | 0 => st0
  | m + 1 => stp1 T E ch m (sim T E ch m)
/-- bounds -/
def SB (T : TT) (M : Nat) (S : SS) : Prop := S.1 < 1024 ∧ (∀ a, a < tn T → S.2.1 a ≤ M ∧ S.2.2.1 a ≤ M ∧ S.2.2.2.1 a ≤ 26) ∧ S.2.2.2.2.1 ≤ M ∧ S.2.2.2.2.2 ≤ 24
theorem SB.mono {T : TT} {M N : Nat} {S : SS} (h : SB T M S) (hMN : M ≤ N) : SB T N S := ⟨h.1, fun a ha => ⟨Nat.le_trans (h.2.1 a ha).1 hMN, Nat.le_trans (h.2.1 a ha).2.1 hMN, (h.2.1 a ha).2.2⟩, Nat.le_trans h.2.2.1 hMN, h.2.2.2⟩
theorem SB.to_ {T : TT} {M : Nat} {S : SS} (h : SB T M S) (g : Nat) {m : Nat} (hm : m < 24) : SB T (M + 10) (toS T S g m) := by
  unfold toS
  split
  · exact h.mono (by omega)
  · refine ⟨dif_lt _ h.1, fun a ha => ?_, ?_, ?_⟩
    · obtain ⟨h1, h2, h3⟩ := h.2.1 a ha
      dsimp only
      split <;> omega
    · have := pop_le (flN S.1 (g &&& S.1))
      have := h.2.2.1
      dsimp only
      omega
    · have := h.2.2.2
      dsimp only
      split <;> omega
theorem SB.s1 {T : TT} {M : Nat} {S : SS} (E : EE) (ch : Nat) {m : Nat} (h : SB T M S) (hm : m < 24) : SB T (M + 10) (st1 T E ch m S) := by
  have h1 := h.to_ (szB T (gaS E ch m E.1) (tn T)) hm
  exact ⟨h1.1, fun a ha => ⟨Nat.le_trans (Nat.sub_le _ _) (h1.2.1 a ha).1, (h1.2.1 a ha).2⟩, h1.2.2⟩
theorem SB.s2 {T : TT} (hT : TW T) {M : Nat} {S : SS} (E : EE) (ch m : Nat) (h : SB T M S) : SB T M (st2 T E ch m S) := ⟨clB_lt hT _ _ _ h.1 _ (Nat.le_refl _), h.2⟩
theorem SB.tr {T : TT} (hT : TW T) {M : Nat} {S : SS} (h : SB T M S) : SB T (M + 284) (S.1, trT T S.1 (ldF T S.1) S.2.1, S.2.2) := by
  refine ⟨h.1, fun a ha => ?_, Nat.le_trans h.2.2.1 (by omega), h.2.2.2⟩
  obtain ⟨h1, h2, h3⟩ := h.2.1 a ha
  refine ⟨?_, Nat.le_trans h2 (by omega), h3⟩
  show trT T S.1 (ldF T S.1) S.2.1 a ≤ _
  unfold trT
  have := tiN_le (so := tso T a) (ldF_le hT S.1 (tpl T a))
  split <;> omega
theorem SB.s9 {T : TT} (hT : TW T) {M : Nat} {S : SS} (E : EE) (ch : Nat) {m : Nat} (h : SB T M S) (hm : m < 24) : SB T (M + 304) (stp1 T E ch m S) := ((((h.s1 E ch hm).s2 hT E ch m).tr hT).to_ _ hm).mono (by omega)
theorem sim_B {T : TT} (hT : TW T) (E : EE) (ch : Nat) : ∀ m, m ≤ 24 → SB T (304 * m) (sim T E ch m)
  | 0, _ => ⟨(show 0 < 1024 by decide), fun a _ => ⟨Nat.le_refl _, Nat.le_refl _, by show 0 ≤ 26; omega⟩, Nat.le_refl _, by show 24 ≤ 24; omega⟩
  | m + 1, h => (SB.s9 hT E ch (sim_B hT E ch m (by omega)) (by omega)).mono (by omega)
