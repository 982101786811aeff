/-! the class reads anew; troupes on trial -/
theorem TB0 {σ : Sg} {by' : Nat → Nat} {k : Nat} (h6 : σ k 6 = 0) (hh : ∀ p, p < 10 → σ (k + 6) p = -1) : TrC σ k (TB by' 0) := ⟨h6, fun a ha => absurd ha (by show ¬ a < 0; omega), fun p hp => hh p hp⟩
theorem ct_castInto (scr : ScA) (σ : Sg) {by' : Nat → Nat} {len : Nat} (hl : len ≤ 59) (h1 : σ 1 1 = nI len) (h2 : ∀ i, i < len → σ 2 i = nI (by' i) ∧ by' i < 256) : CiA scr 4 mX7_castInto [.ref 1, .ref 3] σ (fun r σ' => r = fauI by' len ∧ TrC σ' 3 (TX by' len) ∧ ∀ a, a < 3 ∨ 9 < a → σ' a = σ a) := by
  refine E_X7_castInto (W_X7_castInto_0 ((ct_dismiss scr (Or.inl rfl) σ).weak fun s0 ⟨d1, d2, d3, d4⟩ => W_X7_castInto_4 ?_))
  have e1 : s0 1 1 = nI len := by rw [d4 1 (by omega) (by omega)]; exact h1
  rw [e1, if_neg (by rw [show (59 : Int32) = nI 59 from rfl, nI_lt' (by omega) (by omega)]; omega)]
  have key : ∀ (j i : Nat) (s : Sg), i + j = len → ffl by' i = none → CI by' i s → (∀ a, a < 3 ∨ 9 < a → s a = σ a) → K_X7_castInto_16 scr (nI len) (nI i) s (fun r σ' => r = fauI by' len ∧ TrC σ' 3 (TX by' len) ∧ ∀ a, a < 3 ∨ 9 < a → σ' a = σ a) := by
    intro j
    induction j with
    | zero =>
      intro i s hi hff hI hf
      have : i = len := by omega
      subst this
      have e5 : (nI i - nI i / 6 * 6 : Int32) = nI (i % 6) := by rw [show (6 : Int32) = nI 6 from rfl, pk_rem (by omega) (by omega) (by omega)]
      have ez : nI i = 0 ↔ i = 0 := by rw [show (0 : Int32) = nI 0 from rfl, nI_inj (by omega) (by omega)]
      have e55 : nI (i % 6) = 5 ↔ i % 6 = 5 := by rw [show (5 : Int32) = nI 5 from rfl, nI_inj (by omega) (by omega)]
      have hc : (if nI i = 0 then 1 else (if ¬ (nI i - nI i / 6 * 6) = 5 then 0 else 1 : Int32) : Int32) = if i = 0 ∨ i % 6 = 5 then 1 else 0 := by
        rw [e5]
        by_cases z : i = 0
        · rw [if_pos (ez.mpr z), if_pos (Or.inl z)]
        · rw [if_neg (fun y => z (ez.mp y))]
          by_cases y : i % 6 = 5
          · rw [if_neg (fun x => x (e55.mpr y)), if_pos (Or.inr y)]
          · rw [if_pos (fun x => y (e55.mp x)), if_neg (by omega)]
      refine W_X7_castInto_16 ⟨fun _ => ⟨fun h => ?_, fun h => ?_⟩, fun h => absurd (Int32.le_refl _) h⟩
      · rw [hc] at h
        have hend : i = 0 ∨ i % 6 = 5 := Decidable.byContradiction fun z => h (if_neg z)
        have hfa : fau by' i = none := by
          unfold fau
          rw [hff]
          exact if_pos hend
        unfold fauI TX
        rw [hfa]
        refine ⟨rfl, ⟨hI.1, fun a ha => ?_, fun p hp => hI.2.2 p hp⟩, hf⟩
        have ha' : a < (i + 1) / 6 := ha
        obtain ⟨r1, r2, r3, r4, r5⟩ := hI.2.1 a (by omega)
        exact ⟨r1 (by omega), r2 (by omega), r3 (by omega), r4 (by omega), r5 (by omega)⟩
      · rw [hc] at h
        have hend : ¬ (i = 0 ∨ i % 6 = 5) := fun z => by rw [if_pos z] at h; exact absurd h (by decide)
        have hfa : fau by' i = some i := by
          unfold fau
          rw [hff]
          exact if_neg hend
        unfold fauI TX
        rw [hfa]
        refine (ct_dismiss scr (Or.inl rfl) s).weak fun s2 ⟨g1, g2, g3, g4⟩ => W_X7_castInto_80 ⟨rfl, TB0 g1 g2, fun a ha => ?_⟩
        rw [g4 a (by omega) (by omega)]
        exact hf a ha
    | succ j ih =>
      intro i s hi hff hI hf
      obtain ⟨b1, b2⟩ := h2 i (by omega)
      have e6 : nI i / 6 = nI (i / 6) := by rw [show (6 : Int32) = nI 6 from rfl, pk_div (by omega) (by omega) (by omega)]
      have e5 : (nI i - nI i / 6 * 6 : Int32) = nI (i % 6) := by rw [show (6 : Int32) = nI 6 from rfl, pk_rem (by omega) (by omega) (by omega)]
      refine W_X7_castInto_16 ⟨fun h => ?_, fun _ => ⟨inB_nI (by omega) (by decide), ?_⟩⟩
      · rw [nI_le' (by omega) (by omega)] at h
        omega
      rw [e5, e6, tN_nI (by omega), hf 2 (by omega), b1]
      refine (ct_takes scr s (by omega) b2 hI).weak fun r s1 ⟨hr, hI1, hf1⟩ => ?_
      have hf1' : ∀ a, a < 3 ∨ 9 < a → s1 a = σ a := fun a ha => by rw [hf1 a ha]; exact hf a ha
      refine W_X7_castInto_39 ⟨fun h => ?_, fun h => ?_⟩
      · have hg : gp by' i = true := Decidable.byContradiction fun z => h (by rw [hr, if_neg z])
        rw [nI_add1]
        refine ih (i + 1) s1 (by omega) ?_ (hI1 hg) hf1'
        unfold ffl
        rw [hff]
        simp only [if_pos hg]
      · have hg : gp by' i = false := by
          cases z : gp by' i with
          | false => rfl
          | true => rw [hr, if_pos z] at h; exact absurd h (by decide)
        have hfa : fau by' len = some i := by
          unfold fau
          rw [ffl_at (ffl_none hff) hg (show i < len by omega)]
        unfold fauI TX
        rw [hfa]
        refine (ct_dismiss scr (Or.inl rfl) s1).weak fun s2 ⟨g1, g2, g3, g4⟩ => W_X7_castInto_46 ⟨rfl, TB0 g1 g2, fun a ha => ?_⟩
        rw [g4 a (by omega) (by omega)]
        exact hf1' a ha
  refine key len 0 s0 (by omega) rfl ⟨d1, fun a ha => ⟨fun z => by omega, fun z => by omega, fun z => by omega, fun z => by omega, fun z => by omega⟩, fun p hp => d2 p hp⟩ (fun a ha => ?_)
  rw [d4 a (by omega) (by omega)]
/-- a troupe on trial -/
def isTq (k : Nat) : Prop := k = 50 ∨ k = 78
theorem isTq.tr {k : Nat} (h : isTq k) : isTr k := Or.inr h
theorem cpy0 (f g : Nat → Int32) {j : Nat} (h : j < 10) : va_cpy f g (Int32.toNatClampNeg 0) (Int32.toNatClampNeg 0) (Int32.toNatClampNeg 10) j = f j := by
  rw [show Int32.toNatClampNeg 0 = 0 from rfl, show Int32.toNatClampNeg 10 = 10 from rfl, pk_cpy_in (by omega) (by omega)]
  congr 1
  omega
theorem ct_become (scr : ScA) {k : Nat} (hk : isTq k) (σ : Sg) {T : TT} (hT : TW T) (hC : TrC σ 3 T) : CvA scr 1 mX8_become [.ref k, .ref 3] σ (fun σ' => TrC σ' k T ∧ ∀ a, a < k ∨ k + 6 < a → σ' a = σ a) := by
  have hk9 : 10 ≤ k := by rcases hk with rfl | rfl <;> omega
  have hn := hT.1
  have d1 : ∀ i, 1 ≤ i → i ≤ 6 → decide ((k + i) < 172 ∧ (S0 (k + i)).1 = 1 ∧ (3 + i) < 172 ∧ (S0 (3 + i)).1 = 1) = true := by
    rcases hk with rfl | rfl <;> intro i h1 h2 <;> rcases (by omega : i = 1 ∨ i = 2 ∨ i = 3 ∨ i = 4 ∨ i = 5 ∨ i = 6) with rfl | rfl | rfl | rfl | rfl | rfl <;> decide
  have d2 : ∀ i, 1 ≤ i → i ≤ 6 → decide (¬ (0 : Int32) < 0 ∧ ¬ (0 : Int32) < 0 ∧ ¬ (10 : Int32) < 0 ∧ Int32.toNatClampNeg (0 : Int32) + Int32.toNatClampNeg (10 : Int32) ≤ (S0 (3 + i)).2 ∧ Int32.toNatClampNeg (0 : Int32) + Int32.toNatClampNeg (10 : Int32) ≤ (S0 (k + i)).2) = true := by
    rcases hk with rfl | rfl <;> intro i h1 h2 <;> rcases (by omega : i = 1 ∨ i = 2 ∨ i = 3 ∨ i = 4 ∨ i = 5 ∨ i = 6) with rfl | rfl | rfl | rfl | rfl | rfl <;> decide
  refine E_X8_become (W_X8_become_0 hk.tr fun s1 e1 => ⟨d1 1 (by omega) (by omega), d2 1 (by omega) (by omega), fun s2 e2 => ⟨d1 2 (by omega) (by omega), d2 2 (by omega) (by omega), fun s3 e3 => ⟨d1 3 (by omega) (by omega), d2 3 (by omega) (by omega), fun s4 e4 => ⟨d1 4 (by omega) (by omega), d2 4 (by omega) (by omega), fun s5 e5 => ⟨d1 5 (by omega) (by omega), d2 5 (by omega) (by omega), fun s6 e6 => ⟨d1 6 (by omega) (by omega), d2 6 (by omega) (by omega), fun s7 e7 => ?_⟩⟩⟩⟩⟩⟩)
  have o1 : ∀ a, a ≠ k → s1 a = σ a := fun a h => by rw [e1, su_off _ _ _ _ h]
  have o2 : ∀ a, a ≠ k + 1 → s2 a = s1 a := fun a h => by rw [e2]; funext b; exact sr_ne _ _ _ h
  have o3 : ∀ a, a ≠ k + 2 → s3 a = s2 a := fun a h => by rw [e3]; funext b; exact sr_ne _ _ _ h
  have o4 : ∀ a, a ≠ k + 3 → s4 a = s3 a := fun a h => by rw [e4]; funext b; exact sr_ne _ _ _ h
  have o5 : ∀ a, a ≠ k + 4 → s5 a = s4 a := fun a h => by rw [e5]; funext b; exact sr_ne _ _ _ h
  have o6 : ∀ a, a ≠ k + 5 → s6 a = s5 a := fun a h => by rw [e6]; funext b; exact sr_ne _ _ _ h
  have o7 : ∀ a, a ≠ k + 6 → s7 a = s6 a := fun a h => by rw [e7]; funext b; exact sr_ne _ _ _ h
  have l1 : ∀ a, a < 10 → s1 a = σ a := fun a h => o1 a (by omega)
  have l2 : ∀ a, a < 10 → s2 a = σ a := fun a h => by rw [o2 a (by omega)]; exact l1 a h
  have l3 : ∀ a, a < 10 → s3 a = σ a := fun a h => by rw [o3 a (by omega)]; exact l2 a h
  have l4 : ∀ a, a < 10 → s4 a = σ a := fun a h => by rw [o4 a (by omega)]; exact l3 a h
  have l5 : ∀ a, a < 10 → s5 a = σ a := fun a h => by rw [o5 a (by omega)]; exact l4 a h
  have l6 : ∀ a, a < 10 → s6 a = σ a := fun a h => by rw [o6 a (by omega)]; exact l5 a h
  refine ⟨⟨?_, fun a ha => ?_, fun p hp => ?_⟩, fun a ha => ?_⟩
  · rw [o7 k (by omega), o6 k (by omega), o5 k (by omega), o4 k (by omega), o3 k (by omega), o2 k (by omega), e1, su_eq]
    exact hC.1
  · obtain ⟨c1, c2, c3, c4, c5⟩ := hC.2.1 a ha
    refine ⟨?_, ?_, ?_, ?_, ?_⟩
    · rw [o7 _ (by omega), o6 _ (by omega), o5 _ (by omega), o4 _ (by omega), o3 _ (by omega), e2, sr_at, cpy0 _ _ (by omega), l1 4 (by omega)]
      exact c1
    · rw [o7 _ (by omega), o6 _ (by omega), o5 _ (by omega), o4 _ (by omega), e3, sr_at, cpy0 _ _ (by omega), l2 5 (by omega)]
      exact c2
    · rw [o7 _ (by omega), o6 _ (by omega), o5 _ (by omega), e4, sr_at, cpy0 _ _ (by omega), l3 6 (by omega)]
      exact c3
    · rw [o7 _ (by omega), o6 _ (by omega), e5, sr_at, cpy0 _ _ (by omega), l4 7 (by omega)]
      exact c4
    · rw [o7 _ (by omega), e6, sr_at, cpy0 _ _ (by omega), l5 8 (by omega)]
      exact c5
  · rw [e7, sr_at, cpy0 _ _ (by omega), l6 9 (by omega)]
    exact hC.2.2 p hp
  · rw [o7 a (by omega), o6 a (by omega), o5 a (by omega), o4 a (by omega), o3 a (by omega), o2 a (by omega), o1 a (by omega)]
/-- changed troupes -/
def swT (T : TT) (a b : Nat) : TT := (tn T, tso T, twe T, tst T, tco T, fun x => if x = a then tpl T b else if x = b then tpl T a else tpl T x)
def stT (T : TT) (a v : Nat) : TT := (tn T, tso T, twe T, fun x => if x = a then v else tst T x, tco T, tpl T)
def weT (T : TT) (a v : Nat) : TT := (tn T, tso T, fun x => if x = a then v else twe T x, tst T, tco T, tpl T)
def coT (T : TT) (a v : Nat) : TT := (tn T, tso T, twe T, tst T, fun x => if x = a then v else tco T x, tpl T)
theorem swT_tpl (T : TT) (a b x : Nat) : tpl (swT T a b) x = if x = a then tpl T b else if x = b then tpl T a else tpl T x := rfl
theorem swT_W {T : TT} (h : TW T) {a b : Nat} (ha : a < tn T) (hb : b < tn T) : TW (swT T a b) := by
  refine ⟨h.1, fun x hx => ?_, fun x y hx hy hxy => ?_⟩
  · have h1 := h.2.1 x hx
    refine ⟨h1.1, h1.2.1, h1.2.2.1, h1.2.2.2.1, h1.2.2.2.2.1, h1.2.2.2.2.2.1, ?_⟩
    rw [swT_tpl]
    split
    · exact (h.2.1 b hb).2.2.2.2.2.2
    · split
      · exact (h.2.1 a ha).2.2.2.2.2.2
      · exact h1.2.2.2.2.2.2
  · rw [swT_tpl, swT_tpl] at hxy
    have hx' : x < tn T := hx
    have hy' : y < tn T := hy
    have q := h.2.2
    have ex : ∀ z, z < tn T → ∃ w, w < tn T ∧ (if z = a then tpl T b else if z = b then tpl T a else tpl T z) = tpl T w ∧ ((z = a ∧ w = b) ∨ (z ≠ a ∧ z = b ∧ w = a) ∨ (z ≠ a ∧ z ≠ b ∧ w = z)) := fun z hz => by
      by_cases z1 : z = a
      · exact ⟨b, hb, by rw [if_pos z1], Or.inl ⟨z1, rfl⟩⟩
      · by_cases z2 : z = b
        · exact ⟨a, ha, by rw [if_neg z1, if_pos z2], Or.inr (Or.inl ⟨z1, z2, rfl⟩)⟩
        · exact ⟨z, hz, by rw [if_neg z1, if_neg z2], Or.inr (Or.inr ⟨z1, z2, rfl⟩)⟩
    obtain ⟨w1, l1, t1, o1⟩ := ex x hx'
    obtain ⟨w2, l2, t2, o2⟩ := ex y hy'
    rw [t1, t2] at hxy
    have := q w1 w2 l1 l2 hxy
    omega
theorem swT_swT {T : TT} {a b : Nat} (hab : a ≠ b) : swT (swT T a b) a b = T := by
  have e : (fun x => if x = a then tpl (swT T a b) b else if x = b then tpl (swT T a b) a else tpl (swT T a b) x) = tpl T := by
    funext x
    simp only [swT_tpl]
    by_cases h1 : x = a
    · subst h1
      simp [Ne.symm hab]
    · by_cases h2 : x = b
      · subst h2
        simp [Ne.symm hab]
      · simp [h1, h2]
  show (tn T, tso T, twe T, tst T, tco T, (fun x => if x = a then tpl (swT T a b) b else if x = b then tpl (swT T a b) a else tpl (swT T a b) x)) = T
  rw [e]
  rfl
theorem stT_W {T : TT} (h : TW T) {a v : Nat} (h1 : 1 ≤ v) (h9 : v ≤ 9) : TW (stT T a v) := by
  refine ⟨h.1, fun x hx => ?_, h.2.2⟩
  obtain ⟨g1, g2, g3, g4, g5, g6, g7⟩ := h.2.1 x hx
  refine ⟨g1, g2, g3, ?_, ?_, g6, g7⟩
  · show 1 ≤ (if x = a then v else tst T x)
    split <;> assumption
  · show (if x = a then v else tst T x) ≤ 9
    split <;> assumption
theorem weT_W {T : TT} (h : TW T) {a v : Nat} (h1 : 1 ≤ v) (h9 : v ≤ 9) : TW (weT T a v) := by
  refine ⟨h.1, fun x hx => ?_, h.2.2⟩
  obtain ⟨g1, g2, g3, g4, g5, g6, g7⟩ := h.2.1 x hx
  refine ⟨g1, ?_, ?_, g4, g5, g6, g7⟩
  · show 1 ≤ (if x = a then v else twe T x)
    split <;> assumption
  · show (if x = a then v else twe T x) ≤ 9
    split <;> assumption
theorem coT_W {T : TT} (h : TW T) {a v : Nat} (h9 : v < 24) : TW (coT T a v) := by
  refine ⟨h.1, fun x hx => ?_, h.2.2⟩
  obtain ⟨g1, g2, g3, g4, g5, g6, g7⟩ := h.2.1 x hx
  refine ⟨g1, g2, g3, g4, g5, ?_, g7⟩
  show (if x = a then v else tco T x) < 24
  split <;> assumption
theorem TrC.st {σ : Sg} {q : Nat} {T : TT} (h : TrC σ q T) (a v : Nat) : TrC (su σ (q + 3) a (nI v)) q (stT T a v) := by
  refine ⟨by rw [su_nr _ _ _ _ (by omega)]; exact h.1, fun x hx => ?_, fun p hp => by rw [su_nr _ _ _ _ (by omega)]; exact h.2.2 p hp⟩
  obtain ⟨c1, c2, c3, c4, c5⟩ := h.2.1 x hx
  refine ⟨by rw [su_nr _ _ _ _ (by omega)]; exact c1, by rw [su_nr _ _ _ _ (by omega)]; exact c2, ?_, by rw [su_nr _ _ _ _ (by omega)]; exact c4, by rw [su_nr _ _ _ _ (by omega)]; exact c5⟩
  show su σ (q + 3) a (nI v) (q + 3) x = nI (if x = a then v else tst T x)
  by_cases z : x = a
  · rw [z, su_eq, if_pos rfl]
  · rw [su_nc _ _ _ _ z, if_neg z]; exact c3
theorem TrC.we {σ : Sg} {q : Nat} {T : TT} (h : TrC σ q T) (a v : Nat) : TrC (su σ (q + 2) a (nI v)) q (weT T a v) := by
  refine ⟨by rw [su_nr _ _ _ _ (by omega)]; exact h.1, fun x hx => ?_, fun p hp => by rw [su_nr _ _ _ _ (by omega)]; exact h.2.2 p hp⟩
  obtain ⟨c1, c2, c3, c4, c5⟩ := h.2.1 x hx
  refine ⟨by rw [su_nr _ _ _ _ (by omega)]; exact c1, ?_, by rw [su_nr _ _ _ _ (by omega)]; exact c3, by rw [su_nr _ _ _ _ (by omega)]; exact c4, by rw [su_nr _ _ _ _ (by omega)]; exact c5⟩
  show su σ (q + 2) a (nI v) (q + 2) x = nI (if x = a then v else twe T x)
  by_cases z : x = a
  · rw [z, su_eq, if_pos rfl]
  · rw [su_nc _ _ _ _ z, if_neg z]; exact c2
theorem TrC.co {σ : Sg} {q : Nat} {T : TT} (h : TrC σ q T) (a v : Nat) : TrC (su σ (q + 4) a (nI v)) q (coT T a v) := by
  refine ⟨by rw [su_nr _ _ _ _ (by omega)]; exact h.1, fun x hx => ?_, fun p hp => by rw [su_nr _ _ _ _ (by omega)]; exact h.2.2 p hp⟩
  obtain ⟨c1, c2, c3, c4, c5⟩ := h.2.1 x hx
  refine ⟨by rw [su_nr _ _ _ _ (by omega)]; exact c1, by rw [su_nr _ _ _ _ (by omega)]; exact c2, by rw [su_nr _ _ _ _ (by omega)]; exact c3, ?_, by rw [su_nr _ _ _ _ (by omega)]; exact c5⟩
  show su σ (q + 4) a (nI v) (q + 4) x = nI (if x = a then v else tco T x)
  by_cases z : x = a
  · rw [z, su_eq, if_pos rfl]
  · rw [su_nc _ _ _ _ z, if_neg z]; exact c4
theorem hdO_no {T : TT} {p : Nat} (h : ∀ a, a < tn T → tpl T a ≠ p) : hdO T p = none := by
  cases hx : hdO T p with
  | none => rfl
  | some x => exact absurd (hdO_some hx).2 (h x (hdO_some hx).1)
theorem hdO_iff {T : TT} (hT : TW T) {p a : Nat} : hdO T p = some a ↔ a < tn T ∧ tpl T a = p := ⟨fun h => hdO_some h, fun h => by rw [← h.2]; exact hdO_of hT h.1⟩
theorem hc_of {T : TT} (hT : TW T) {p a : Nat} (ha : a < tn T) (hp : tpl T a = p) : hcI T p = nI a := by
  unfold hcI
  rw [(hdO_iff hT).mpr ⟨ha, hp⟩]
theorem ct_exchange (scr : ScA) {k : Nat} (hk : isTr k) (σ : Sg) {T : TT} (hT : TW T) (hC : TrC σ k T) {a b : Nat} (ha : a < tn T) (hb : b < tn T) (hab : a ≠ b) : CvA scr 2 mX8_exchange [.ref k, .int (nI a), .int (nI b)] σ (fun σ' => TrC σ' k (swT T a b) ∧ ∀ x, x < k ∨ k + 6 < x → σ' x = σ x) := by
  have hn := hT.1
  obtain ⟨-, -, -, -, c5a⟩ := hC.2.1 a ha
  obtain ⟨-, -, -, -, c5b⟩ := hC.2.1 b hb
  have hpa := (hT.2.1 a ha).2.2.2.2.2.2
  have hpb := (hT.2.1 b hb).2.2.2.2.2.2
  have hpp : tpl T a ≠ tpl T b := fun z => hab (hT.2.2 a b ha hb z)
  have hW := swT_W hT ha hb
  refine E_X8_exchange (W_X8_exchange_0 hk ⟨fun h => absurd h (isW10 (by omega)), fun _ => ⟨fun h => absurd h (isW10 (by omega)), fun _ => ⟨inB_nI (by omega) (by decide), inB_nI (by omega) (by decide), ?_⟩⟩⟩)
  rw [tN_nI (by omega), tN_nI (by omega), c5a, c5b]
  refine (ct_seat scr hk σ (by omega) hpb).weak fun s1 e1 => W_X8_exchange_36 hk ((ct_seat scr hk s1 (by omega) hpa).weak fun s2 e2 => W_X8_exchange_42 hk ?_)
  subst e1
  have f : ∀ x, x ≠ k + 5 → x ≠ k + 6 → s2 x = σ x := fun x z1 z2 => by rw [e2, su_off _ _ _ _ z2, su_off _ _ _ _ z1, su_off _ _ _ _ z2, su_off _ _ _ _ z1]
  refine ⟨⟨by rw [f k (by omega) (by omega)]; exact hC.1, fun x hx => ?_, fun p hp => ?_⟩, fun x hx => f x (by omega) (by omega)⟩
  · have hx' : x < tn T := hx
    obtain ⟨c1, c2, c3, c4, c5⟩ := hC.2.1 x hx
    rw [f (k + 1) (by omega) (by omega), f (k + 2) (by omega) (by omega), f (k + 3) (by omega) (by omega), f (k + 4) (by omega) (by omega)]
    refine ⟨c1, c2, c3, c4, ?_⟩
    rw [e2, su_nr _ _ _ _ (by omega), swT_tpl]
    by_cases z1 : x = b
    · subst z1
      rw [su_eq, if_neg (fun z => hab z.symm), if_pos rfl]
    · rw [su_nc _ _ _ _ z1, su_nr _ _ _ _ (by omega)]
      by_cases z2 : x = a
      · subst z2
        rw [su_eq, if_pos rfl]
      · rw [su_nc _ _ _ _ z2, if_neg z2, if_neg z1]
        exact c5
  · rw [e2]
    by_cases z1 : p = tpl T a
    · subst z1
      rw [su_eq]
      exact (hc_of hW (a := b) hb (by rw [swT_tpl, if_neg (fun z => hab z.symm), if_pos rfl])).symm
    · rw [su_nc _ _ _ _ z1, su_nr _ _ _ _ (by omega)]
      by_cases z2 : p = tpl T b
      · subst z2
        rw [su_eq]
        exact (hc_of hW (a := a) ha (by rw [swT_tpl, if_pos rfl])).symm
      · rw [su_nc _ _ _ _ z2, su_nr _ _ _ _ (by omega), hC.2.2 p hp]
        unfold hcI
        cases hx : hdO T p with
        | some x =>
          obtain ⟨g1, g2⟩ := hdO_some hx
          rw [(hdO_iff hW (a := x)).mpr ⟨g1, by rw [swT_tpl, if_neg (fun z => z1 (by rw [← g2, z])), if_neg (fun z => z2 (by rw [← g2, z]))]; exact g2⟩]
        | none =>
          rw [hdO_no]
          intro x hx' hxp
          have hx'' : x < tn T := hx'
          rw [swT_tpl] at hxp
          split at hxp
          · exact z2 hxp.symm
          · split at hxp
            · exact z1 hxp.symm
            · exact hdF_none hx x hx'' hxp
