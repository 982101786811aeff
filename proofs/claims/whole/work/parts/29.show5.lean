/-! the diary, and a whole show -/
def faS (T : TT) (S : SS) (m a : Nat) : Nat := if tco T a ≤ m then (if S.1.testBit (tpl T a) = true then 2 else if S.2.2.2.1 a ≤ m then 1 else 3) else 0
def fac (T : TT) (S : SS) (ld : Nat → Nat) (m a : Nat) : Nat → Nat
  | 0 => faS T S m a
  | 1 => ld (tpl T a)
  | 2 => S.2.1 a
  | _ => S.2.2.1 a
theorem soV_nI {σ : Sg} {k q : Nat} {T : TT} (hT : TW T) (hC : TrC σ q T) {S : SS} (hb : S.1 < 1024) (hS : ShS σ k T S) {m a : Nat} (hm : m < 24) (ha : a < tn T) (hl : S.2.2.2.1 a ≤ 26) : soV σ k q (nI a) (nI m) = nI (faS T S m a) := by
  have hn := hT.1
  obtain ⟨-, -, -, c4, c5⟩ := hC.2.1 a ha
  obtain ⟨-, -, -, -, -, b4, b5⟩ := hT.2.1 a ha
  unfold soV faS
  rw [tN_nI (by omega), c4, c5, hS.1, (hS.2.1 a ha).2.2]
  have q1 : nI (tco T a) ≤ nI m ↔ tco T a ≤ m := nI_le' (by omega) (by omega)
  have q2 : hbV (nI S.1) (nI (tpl T a)) = 0 ↔ S.1.testBit (tpl T a) = false := hbV_0 (by omega) (by omega)
  have q3 : lyI (S.2.2.2.1 a) < nI m ↔ S.2.2.2.1 a ≤ m := lyI_lt (by omega) (by omega)
  by_cases g1 : tco T a ≤ m
  · rw [if_pos (q1.mpr g1), if_pos g1]
    by_cases g2 : S.1.testBit (tpl T a) = false
    · rw [if_pos (q2.mpr g2), if_neg (show ¬ S.1.testBit (tpl T a) = true by rw [g2]; simp)]
      by_cases g3 : S.2.2.2.1 a ≤ m
      · rw [if_pos (q3.mpr g3), if_pos g3]; rfl
      · rw [if_neg (fun z => g3 (q3.mp z)), if_neg g3]; rfl
    · rw [if_neg (fun z => g2 (q2.mp z)), if_pos (by cases h : S.1.testBit (tpl T a) with | true => rfl | false => exact absurd h g2)]; rfl
  · rw [if_neg (fun z => g1 (q1.mp z)), if_neg g1]; rfl
theorem dia_ar {m : Nat} (hm : m < 24) : isAr (25 + m) 40 := (by decide : ∀ m, m < 24 → (25 + m < 172 ∧ S0 (25 + m) = (1, 40))) m hm
theorem ct_keepFacts (scr : ScA) {q : Nat} (hq : isTr q) (σ : Sg) {T : TT} (hT : TW T) (hC : TrC σ q T) {S : SS} {M : Nat} (hB : SB T M S) (hS : ShS σ 18 T S) (ld : Nat → Nat) (hld : ∀ p, p < 10 → σ 23 p = nI (ld p)) {m : Nat} (hm : m < 24) : CvA scr 2 mX5_keepFacts [.ref 18, .ref q, .int (nI m)] σ (fun σ' => (∀ a, a < tn T → ∀ y, y < 4 → σ' (25 + m) (4 * a + y) = nI (fac T S ld m a y)) ∧ ∀ a, a ≠ 25 + m → σ' a = σ a) := by
  have hn := hT.1
  have hqu : ∀ j, j ≤ 6 → q + j ≠ 25 + m := fun j hj => by rcases hq with rfl | rfl | rfl <;> omega
  refine E_X5_keepFacts (W_X5_keepFacts_0 hq ⟨inB_nI hm (by decide), ?_⟩)
  rw [tN_nI (by omega), show 24 + 1 + 1 * m = 25 + m by omega]
  have key : ∀ (j i : Nat) (s : Sg), i + j = tn T → (∀ a, a < i → ∀ y, y < 4 → s (25 + m) (4 * a + y) = nI (fac T S ld m a y)) → (∀ a, a ≠ 25 + m → s a = σ a) → K_X5_keepFacts_10 scr q (nI m) (25 + m) (nI i) s (fun σ' => (∀ a, a < tn T → ∀ y, y < 4 → σ' (25 + m) (4 * a + y) = nI (fac T S ld m a y)) ∧ ∀ a, a ≠ 25 + m → σ' a = σ a) := by
    intro j
    induction j with
    | zero =>
      intro i s hi hd hf
      have : i = tn T := by omega
      subst this
      refine W_X5_keepFacts_10 hq (dia_ar hm) ⟨fun _ => ⟨hd, hf⟩, fun h => absurd ?_ h⟩
      have h0 := hqu 0 (by omega)
      rw [hf q (by omega), hC.1]
      exact Int32.le_refl _
    | succ j ih =>
      intro i s hi hd hf
      have h0 := hqu 0 (by omega)
      have hq6 : s q 6 = nI (tn T) := by rw [hf q (by omega)]; exact hC.1
      have hCs : TrC s q T := hC.fr fun y hy => hf _ (hqu y hy)
      have hSs : ShS s 18 T S := by
        unfold ShS
        rw [hf 18 (by omega), hf (18 + 2) (by omega), hf (18 + 3) (by omega), hf (18 + 4) (by omega)]
        exact hS
      obtain ⟨-, -, -, -, c5⟩ := hC.2.1 i (by omega)
      have hp := (hT.2.1 i (by omega)).2.2.2.2.2.2
      obtain ⟨t2, t3, -⟩ := hS.2.1 i (by omega)
      have ti : (nI i).toNatClampNeg = i := tN_nI (by omega)
      have r5 : s (q + 5) (Int32.toNatClampNeg (nI i)) = nI (tpl T i) := by rw [ti, hf _ (hqu 5 (by omega)), c5]
      have e4 : nI i * 4 = nI (4 * i) := by
        rw [show (4 : Int32) = nI 4 from rfl, Nat.mul_comm]
        exact (Int32.ofNat_mul i 4).symm
      have e41 : nI (4 * i) + 1 = nI (4 * i + 1) := nI_add1 _
      have e42 : nI (4 * i) + 2 = nI (4 * i + 2) := by rw [show (2 : Int32) = nI 2 from rfl, nI_add]
      have e43 : nI (4 * i) + 3 = nI (4 * i + 3) := by rw [show (3 : Int32) = nI 3 from rfl, nI_add]
      have w10 : isW (nI (tpl T i)) 10 = 1 := by rw [show (10 : Int32) = nI 10 from rfl, isW_nI (by omega) (by omega), if_pos hp]
      refine W_X5_keepFacts_10 hq (dia_ar hm) ⟨fun h => ?_, fun _ => ⟨inB_nI (by omega) (by omega), ?_⟩⟩
      · rw [hq6, nI_le' (by omega) (by omega)] at h
        omega
      rw [r5, e4, e41, e42, e43, w10, nI_add1]
      refine ⟨inB_nI (by omega) (by omega), fun σ1 e1 => ⟨fun _ => inB_nI hp (by omega), inB_nI (by omega) (by omega), fun σ2 e2 => ⟨inB_nI (by omega) (by omega), fun σ3 e3 => ⟨inB_nI (by omega) (by omega), fun σ4 e4' => ?_⟩⟩⟩⟩
      rw [tN_nI (by omega), soV_nI hT hCs hB.1 hSs hm (by omega) (hB.2.1 i (by omega)).2.2] at e1
      rw [tN_nI (by omega), if_neg (show ¬ (1 : Int32) = 0 by decide), tN_nI (by omega)] at e2
      rw [tN_nI (by omega), ti] at e3
      rw [tN_nI (by omega), ti] at e4'
      have f1 : ∀ a, a ≠ 25 + m → σ1 a = σ a := fun a ha => by rw [e1, su_off _ _ _ _ ha]; exact hf a ha
      have f2 : ∀ a, a ≠ 25 + m → σ2 a = σ a := fun a ha => by rw [e2, su_off _ _ _ _ ha]; exact f1 a ha
      have f3 : ∀ a, a ≠ 25 + m → σ3 a = σ a := fun a ha => by rw [e3, su_off _ _ _ _ ha]; exact f2 a ha
      have f4 : ∀ a, a ≠ 25 + m → σ4 a = σ a := fun a ha => by rw [e4', su_off _ _ _ _ ha]; exact f3 a ha
      rw [f1 23 (by omega), hld _ hp] at e2
      rw [f2 20 (by omega), t2] at e3
      rw [f3 21 (by omega), t3] at e4'
      refine ih (i + 1) σ4 (by omega) (fun a ha y hy => ?_) f4
      rw [e4', e3, e2, e1]
      rcases Nat.lt_or_ge a i with g | g
      · rw [su_nc _ _ _ _ (by omega), su_nc _ _ _ _ (by omega), su_nc _ _ _ _ (by omega), su_nc _ _ _ _ (by omega)]
        exact hd a g y hy
      · have : a = i := by omega
        subst this
        rcases (by omega : y = 0 ∨ y = 1 ∨ y = 2 ∨ y = 3) with rfl | rfl | rfl | rfl
        · rw [su_nc _ _ _ _ (by omega), su_nc _ _ _ _ (by omega), su_nc _ _ _ _ (by omega), Nat.add_zero, su_eq]; rfl
        · rw [su_nc _ _ _ _ (by omega), su_nc _ _ _ _ (by omega), su_eq]; rfl
        · rw [su_nc _ _ _ _ (by omega), su_eq]; rfl
        · rw [su_eq]; rfl
  exact key (tn T) 0 σ (by omega) (fun a ha => by omega) (fun _ _ => rfl)
