/-! the class's calls: plans, guesses, chance, years -/
theorem RC.keep {σ σ' : Sg} {b : AB} (h : RC σ b) (hf : ∀ a, a < 49 ∨ 116 ≤ a → a < 116 ∨ 125 < a → σ' a = σ a) (hP : RP σ' b) (hG : RG σ' b) (hU : RU σ' b) : RC σ' b := by
  obtain ⟨hW, hB, hS, -⟩ := h
  exact ⟨hW, hB.fr (by rw [hf 0 (by omega) (by omega)]) (by rw [hf 0 (by omega) (by omega)]) (fun a ha => hf a (by omega) (by omega)), hS.fr (by rw [hf 0 (by omega) (by omega)]) (fun a ha => hf a (by omega) (by omega)), hP, hG, hU⟩
def sv_swap (b : AB) (w : Int32) : Int32 := if isW w 3 = 0 then -2 else if w = 0 then enF (swB (aT b) (aE b)) else if w = 1 then enS (swB (aT b) (aE b)) else enA (swB (aT b) (aE b))
theorem ok_swap (scr : ScA) (b : AB) (w : Int32) : OkC scr 5 mX10_swap [.ref 0, .int w] b (qb (sv_swap b w) b) := by
  intro σ hR
  obtain ⟨hW, hB, hS, hP, hG, hU⟩ := id hR
  have h10 := hW.T.1
  unfold sv_swap
  refine E_X10_swap (W_X10_swap_0 ⟨fun z1 => ?_, fun z => badq hR (if_pos z)⟩)
  rw [if_neg z1]
  refine (ct_bestSwap scr σ hW.T hB.2.1 hW.2.2.1 hB.2.2.2.1 hP.1).weak fun r s ⟨hr, v1, f1⟩ => ⟨hr, W_X10_swap_26 ⟨?_, hR.keep (fun a z1 z2 => f1 a (by omega)) ⟨Or.inr v1, ?_, fun a ha => ?_⟩ (hG.fr fun a ha => f1 a (by omega)) (hU.fr fun a ha => f1 a (by omega)), fun a ha => f1 a (by omega)⟩⟩
  · rw [v1.1, v1.2.1, v1.2.2]; rfl
  · rw [f1 65 (by omega)]; exact hP.2.1.imp id fun h => h.fr (f1 65 (by omega))
  · rw [f1 (67 + a) (by omega)]; exact (hP.2.2 a ha).imp id fun h => h.fr (f1 (67 + a) (by omega))
def sv_train (b : AB) (w : Int32) : Int32 := if isW w 2 = 0 then -2 else if ¬ w = 0 then enA (trB (aT b) (aE b)) else enF (trB (aT b) (aE b))
theorem ok_train (scr : ScA) (b : AB) (w : Int32) : OkC scr 5 mX10_train [.ref 0, .int w] b (qb (sv_train b w) b) := by
  intro σ hR
  obtain ⟨hW, hB, hS, hP, hG, hU⟩ := id hR
  have h10 := hW.T.1
  unfold sv_train
  refine E_X10_train (W_X10_train_0 ⟨fun z1 => ?_, fun z => badq hR (if_pos z)⟩)
  rw [if_neg z1]
  refine (ct_bestTraining scr σ hW.T hB.2.1 hW.2.2.1 hB.2.2.2.1 hP.2.1).weak fun r s ⟨hr, v1, f1⟩ => ⟨hr, W_X10_train_26 ⟨?_, hR.keep (fun a z1 z2 => f1 a (by omega)) ⟨?_, Or.inr v1, fun a ha => ?_⟩ (hG.fr fun a ha => f1 a (by omega)) (hU.fr fun a ha => f1 a (by omega)), fun a ha => f1 a (by omega)⟩⟩
  · rw [v1.1, v1.2.2]; rfl
  · rw [f1 64 (by omega)]; exact hP.1.imp id fun h => h.fr (f1 64 (by omega))
  · rw [f1 (67 + a) (by omega)]; exact (hP.2.2 a ha).imp id fun h => h.fr (f1 (67 + a) (by omega))
def sv_come (b : AB) (x w : Int32) : Int32 := if isW x (nI (tn (aT b))) = 0 ∨ isW w 2 = 0 then -2 else if ¬ w = 0 then enA (coB (aT b) (aE b) (Int32.toNatClampNeg x)) else enF (coB (aT b) (aE b) (Int32.toNatClampNeg x))
theorem ok_come (scr : ScA) (b : AB) (x w : Int32) : OkC scr 5 mX10_come [.ref 0, .int x, .int w] b (qb (sv_come b x w) b) := by
  intro σ hR
  obtain ⟨hW, hB, hS, hP, hG, hU⟩ := id hR
  have h10 := hW.T.1
  unfold sv_come
  refine E_X10_come (W_X10_come_0 ?_)
  rw [hB.2.1.1]
  refine ⟨fun z => badq hR (if_pos (Or.inl z)), fun z1 => ⟨fun z2 => ?_, fun z => badq hR (if_pos (Or.inr z))⟩⟩
  rw [if_neg (fun z => z.elim z1 z2)]
  obtain ⟨j, hj, rfl, -⟩ := (isW_or x (by omega)).resolve_left z1
  rw [tN_nI (by omega), show 66 + 1 + 1 * j = 67 + j by omega]
  refine (ct_bestMoment scr σ hW.T hB.2.1 hW.2.2.1 hB.2.2.2.1 hj (hP.2.2 j hj)).weak fun r s ⟨hr, v1, f1⟩ => ⟨hr, W_X10_come_41 (be_co (by omega)) ⟨?_, hR.keep (fun a z1 z2 => f1 a (by omega)) ⟨?_, ?_, fun a ha => ?_⟩ (hG.fr fun a ha => f1 a (by omega)) (hU.fr fun a ha => f1 a (by omega)), fun a ha => f1 a (by omega)⟩⟩
  · rw [v1.1, v1.2.2]; rfl
  · rw [f1 64 (by omega)]; exact hP.1.imp id fun h => h.fr (f1 64 (by omega))
  · rw [f1 65 (by omega)]; exact hP.2.1.imp id fun h => h.fr (f1 65 (by omega))
  · by_cases z : a = j
    · rw [z]; exact Or.inr v1
    · rw [f1 (67 + a) (by omega)]; exact (hP.2.2 a ha).imp id fun h => h.fr (f1 (67 + a) (by omega))
def sv_spare (b : AB) (x : Int32) : Int32 := if x < -1 ∨ ¬ x ≤ 1 then -2 else if ¬ x = -1 then if x = 0 then (spR (aT b) (aE b)).1 else if x = 1 then (spR (aT b) (aE b)).2.1 else (spR (aT b) (aE b)).2.2 else (spR (aT b) (aE b)).2.2
theorem ok_spare (scr : ScA) (b : AB) (x : Int32) : OkC scr 6 mX10_spare [.ref 0, .int x] b (qb (sv_spare b x) b) := by
  intro σ hR
  obtain ⟨hW, hB, hS, hP, hG, hU⟩ := id hR
  have h10 := hW.T.1
  unfold sv_spare
  refine E_X10_spare (W_X10_spare_0 ⟨fun z => badq hR (if_pos (Or.inl z)), fun z1 => ⟨fun z2 => ?_, fun z => badq hR (if_pos (Or.inr z))⟩⟩)
  rw [if_neg (fun z => z.elim z1 fun y => y z2)]
  refine (ct_spare scr σ hW.T hB.2.1 hW.2.2.1 hB.2.2.2.1 hU).weak fun r s ⟨hr, v1, u1, f1⟩ => ⟨hr, W_X10_spare_28 ⟨?_, hR.keep (fun a z1 z2 => f1 a (by omega)) (hP.fr h10 fun a ha => f1 a (by omega)) (hG.fr fun a ha => f1 a (by omega)) u1, fun a ha => f1 a (by omega)⟩⟩
  rw [v1.1, v1.2.1, v1.2.2]
  rfl
def sv_never (b : AB) : Int32 := nI (nvF (aT b) (aE b) (aI b) (aE b).1)
theorem ok_never (scr : ScA) (b : AB) : OkC scr 5 mX10_never [.ref 0] b (qb (sv_never b) b) := by
  intro σ hR
  obtain ⟨hW, hB, hS, hP, hG, hU⟩ := id hR
  have h10 := hW.T.1
  refine E_X10_never (W_X10_never_0 ((ct_never scr σ hW.T hB.2.1 hW.2.2.1 hB.2.2.2.1 hW.2.2.2.1 hB.2.2.2.2.1 hG.1).weak fun r s ⟨hr, v1, f1⟩ => W_X10_never_19 ⟨hr, hR.keep (fun a z1 z2 => f1 a (by omega) (by omega)) (hP.fr h10 fun a ha => f1 a (by omega) (by omega)) ⟨Or.inr v1, fun a ha => ?_⟩ (hU.fr fun a ha => f1 a (by omega) (by omega)), fun a ha => f1 a (by omega) (by omega)⟩))
  rw [f1 92 (by omega) (by omega), f1 93 (by omega) (by omega), f1 94 (by omega) (by omega)]
  exact hG.2 a ha
/-- strengths tried, weights tried -/
theorem RG.st {σ σ' : Sg} {b : AB} (h : RG σ b) {j : Nat} (h1 : σ' 92 j = nI (sgF (aT b) (aE b) (aI b) j 9)) (h2 : σ' 94 j = nI (askN (aT b) (aE b) (aI b) j)) (h3 : ∀ x, x ≠ j → σ' 92 x = σ 92 x ∧ σ' 94 x = σ 94 x) (h4 : σ' 77 = σ 77) (h5 : σ' 93 = σ 93) : RG σ' b := by
  refine ⟨by rw [h4]; exact h.1, fun a ha => ⟨?_, by rw [h5]; exact (h.2 a ha).2⟩⟩
  by_cases z : a = j
  · rw [z]; exact Or.inr ⟨h1, h2⟩
  · rw [(h3 a z).1, (h3 a z).2]; exact (h.2 a ha).1
def sv_was (b : AB) (x w : Int32) : Int32 := if isW x (nI (tn (aT b))) = 0 ∨ isW w 2 = 0 then -2 else if w = 0 then nI (sgF (aT b) (aE b) (aI b) (Int32.toNatClampNeg x) 9) else nI (wtF (aT b) (aE b) (aI b) (Int32.toNatClampNeg x) 9)
theorem ok_was (scr : ScA) (b : AB) (x w : Int32) : OkC scr 5 mX10_was [.ref 0, .int x, .int w] b (qb (sv_was b x w) b) := by
  intro σ hR
  obtain ⟨hW, hB, hS, hP, hG, hU⟩ := id hR
  have h10 := hW.T.1
  unfold sv_was
  refine E_X10_was (W_X10_was_0 ?_)
  rw [hB.2.1.1]
  refine ⟨fun z => badq hR (if_pos (Or.inl z)), fun z1 => ⟨fun z2 => ?_, fun z => badq hR (if_pos (Or.inr z))⟩⟩
  rw [if_neg (fun z => z.elim z1 z2)]
  obtain ⟨j, hj, rfl, -⟩ := (isW_or x (by omega)).resolve_left z1
  have tj : (nI j).toNatClampNeg = j := tN_nI (by omega)
  refine ⟨fun z => ?_, fun z => ?_⟩
  · rw [if_neg z]
    refine (ct_tryWeights scr σ hW.T hB.2.1 hW.2.2.1 hB.2.2.2.1 hW.2.2.2.1 hB.2.2.2.2.1 hj (hG.2 j hj).2).weak fun s ⟨v1, v2, f1⟩ => W_X10_was_79 ⟨inB_nI (by omega) (by decide), ?_⟩
    rw [tj]
    refine ⟨v1, hR.keep (fun a z1 z2 => f1 a (by omega) (by omega)) (hP.fr h10 fun a ha => f1 a (by omega) (by omega)) ⟨?_, fun a ha => ⟨?_, ?_⟩⟩ (hU.fr fun a ha => f1 a (by omega) (by omega)), fun a ha => f1 a (by omega) (by omega)⟩
    · rw [f1 77 (by omega) (by omega)]; exact hG.1
    · rw [f1 92 (by omega) (by omega), f1 94 (by omega) (by omega)]; exact (hG.2 a ha).1
    · by_cases y : a = j
      · rw [y]; exact Or.inr v1
      · rw [v2 a y]; exact (hG.2 a ha).2
  · rw [if_pos z]
    refine (ct_tryStrengths scr σ hW.T hB.2.1 hW.2.2.1 hB.2.2.2.1 hW.2.2.2.1 hB.2.2.2.2.1 hj (hG.2 j hj).1).weak fun s ⟨v1, v2, v3, f1⟩ => W_X10_was_49 ⟨inB_nI (by omega) (by decide), ?_⟩
    rw [tj]
    exact ⟨v1, hR.keep (fun a z1 z2 => f1 a (by omega) (by omega) (by omega) (by omega)) (hP.fr h10 fun a ha => f1 a (by omega) (by omega) (by omega) (by omega)) (hG.st v1 v2 v3 (f1 77 (by omega) (by omega) (by omega) (by omega)) (f1 93 (by omega) (by omega) (by omega) (by omega))) (hU.fr fun a ha => f1 a (by omega) (by omega) (by omega) (by omega)), fun a ha => f1 a (by omega) (by omega) (by omega) (by omega)⟩
def sv_ask (b : AB) (x : Int32) : Int32 := if isW x (nI (tn (aT b))) = 0 then -2 else nI (askN (aT b) (aE b) (aI b) (Int32.toNatClampNeg x))
theorem ok_ask (scr : ScA) (b : AB) (x : Int32) : OkC scr 5 mX10_ask [.ref 0, .int x] b (qb (sv_ask b x) b) := by
  intro σ hR
  obtain ⟨hW, hB, hS, hP, hG, hU⟩ := id hR
  have h10 := hW.T.1
  unfold sv_ask
  refine E_X10_ask (W_X10_ask_0 ?_)
  rw [hB.2.1.1]
  refine ⟨fun z1 => ?_, fun z => badq hR (if_pos z)⟩
  rw [if_neg z1]
  obtain ⟨j, hj, rfl, -⟩ := (isW_or x (by omega)).resolve_left z1
  have tj : (nI j).toNatClampNeg = j := tN_nI (by omega)
  refine (ct_tryStrengths scr σ hW.T hB.2.1 hW.2.2.1 hB.2.2.2.1 hW.2.2.2.1 hB.2.2.2.2.1 hj (hG.2 j hj).1).weak fun s ⟨v1, v2, v3, f1⟩ => W_X10_ask_37 ⟨inB_nI (by omega) (by decide), ?_⟩
  rw [tj]
  exact ⟨v2, hR.keep (fun a z1 z2 => f1 a (by omega) (by omega) (by omega) (by omega)) (hP.fr h10 fun a ha => f1 a (by omega) (by omega) (by omega) (by omega)) (hG.st v1 v2 v3 (f1 77 (by omega) (by omega) (by omega) (by omega)) (f1 93 (by omega) (by omega) (by omega) (by omega))) (hU.fr fun a ha => f1 a (by omega) (by omega) (by omega) (by omega)), fun a ha => f1 a (by omega) (by omega) (by omega) (by omega)⟩
def yE (b : AB) (x : Int32) (n : Nat) : EE := yrE x (tn (aT b)) n
def sv_years (b : AB) (x n w : Int32) : Int32 := if isW n 9 = 0 ∨ isW w 2 = 0 then -2 else nI (if ¬ w = 0 then (sim (aT b) (yE b x (Int32.toNatClampNeg n)) (alB (yE b x (Int32.toNatClampNeg n))) 24).2.2.2.2.1 else sta (aT b) (yE b x (Int32.toNatClampNeg n)) (alB (yE b x (Int32.toNatClampNeg n))))
theorem ok_years (scr : ScA) (b : AB) (x n w : Int32) : OkC scr 4 mX10_years [.ref 0, .int x, .int n, .int w] b (qb (sv_years b x n w) b) := by
  intro σ hR
  obtain ⟨hW, hB, hS, hP, hG, hU⟩ := id hR
  have h10 := hW.T.1
  unfold sv_years
  refine E_X10_years (W_X10_years_0 ?_)
  rw [hB.2.1.1]
  refine ⟨fun z => badq hR (if_pos (Or.inl z)), fun z1 => ⟨fun z2 => ?_, fun z => badq hR (if_pos (Or.inr z))⟩⟩
  rw [if_neg (fun z => z.elim z1 z2)]
  obtain ⟨j, hj, rfl, -⟩ := (isW_or n (n := 9) (by decide)).resolve_left z1
  rw [tN_nI (by omega)]
  have hE := yrE_W x h10 (show j ≤ 8 by omega)
  refine (ct_draw scr (Or.inr rfl) σ x h10 (show j ≤ 8 by omega)).weak fun s1 ⟨V1, f1⟩ => W_X10_years_36 ?_
  rw [all_E hE V1]
  have C1 : TrC s1 3 (aT b) := hB.2.1.fr fun y hy => f1 _ (by omega)
  refine (ct_play scr (Or.inr (Or.inr (Or.inr (Or.inr rfl)))) (Or.inl rfl) (Or.inr rfl) s1 hW.T C1 hE V1 (by have := alB_lt hE; omega)).weak fun s2 ⟨P2, f2⟩ => W_X10_years_59 ?_
  have g2 : ∀ a, ¬ (116 ≤ a ∧ a ≤ 125) → s2 a = σ a := fun a ha => by rw [f2 a (fun z => by unfold inSh at z; omega), f1 a (by omega)]
  refine ⟨?_, hR.keep (fun a z1 z2 => g2 a (by omega)) (hP.fr h10 fun a ha => g2 a (by omega)) (hG.fr fun a ha => g2 a (by omega)) (hU.fr fun a ha => g2 a (by omega)), fun a ha => g2 a (by omega)⟩
  rw [P2.1.2.2.1, P2.2.2.1]
  show _ = nI (if ¬ w = 0 then _ else _)
  split <;> rfl
/-- chance, reduced -/
def rdN : Nat → Nat → Nat → Nat × Nat
  | 0, a, c => (a, c)
  | f + 1, a, c => if a % 2 = 0 ∧ c % 2 = 0 then rdN f (a / 2) (c / 2) else (a, c)
def chP (b : AB) (c m : Nat) : Nat × Nat := rdN 32 (chS (aT b) (aE b) c m (2 ^ (aE b).1)) (16 ^ (aE b).1)
def sv_chance (b : AB) (c m w : Int32) : Int64 := if isW c 17 = 0 ∨ isW m 24 = 0 ∨ isW w 2 = 0 then -9223372036854775806 else lN (if ¬ w = 0 then (chP b (Int32.toNatClampNeg c) (Int32.toNatClampNeg m)).2 else (chP b (Int32.toNatClampNeg c) (Int32.toNatClampNeg m)).1)
theorem l16 : ∀ n, n ≤ 8 → ((1 : Int64) <<< ((Int32.toInt64 (4 * nI n)) &&& 63)) = lN (16 ^ n) := by decide +kernel
theorem lN_half {a : Nat} (h : a < 2 ^ 62) : lN a / 2 = lN (a / 2) := by
  apply Int64.toInt_inj.mp
  rw [lg_ldiv_nonneg (by rw [lN_iw (by omega)]; omega) (by decide), lN_iw (by omega), lN_iw (by omega), show (2 : Int64).toInt = 2 from by decide]
  omega
theorem lN_mod2 {a : Nat} (h : a < 2 ^ 62) : (lg_cmp (lN a - lN a / 2 * 2) 0) = 0 ↔ a % 2 = 0 := by
  rw [lN_half h, lg_cmp_eq]
  have e : lN a - lN (a / 2) * 2 = lN (a % 2) := by
    rw [show (2 : Int64) = lN 2 from rfl, lN_mul]
    have : lN (a / 2 * 2) + lN (a % 2) = lN a := by rw [lN_add]; congr 1; omega
    rw [← this]
    apply Int64.toInt_inj.mp
    rw [Int64.toInt_sub, Int64.toInt_add]
    rw [lN_iw (by omega), lN_iw (by omega), Int.bmod_sub_bmod, show ((a / 2 * 2 : Nat) : Int) + ((a % 2 : Nat) : Int) - ((a / 2 * 2 : Nat) : Int) = ((a % 2 : Nat) : Int) by omega]
    exact Int.bmod_eq_of_le (by omega) (by omega)
  rw [e, ← Int64.toInt_inj, lN_iw (by omega), show (0 : Int64).toInt = 0 from by decide]
  omega
def OkL (scr : ScA) (d : Nat) (M : MD) (as : List Value) (b : AB) (v : Int64) : Prop := ∀ σ, RC σ b → ClA scr d M as σ (fun r σ' => r = v ∧ RC σ' b ∧ ∀ a, 136 ≤ a → σ' a = σ a)
theorem ok_chance (scr : ScA) (b : AB) (c m w : Int32) : OkL scr 6 mX10_chance [.ref 0, .int c, .int m, .int w] b (sv_chance b c m w) := by
  intro σ hR
  obtain ⟨hW, hB, hS, hP, hG, hU⟩ := id hR
  have h10 := hW.T.1
  have h8 := hW.2.2.1.1
  unfold sv_chance
  have bad : ∀ v : Int64, v = -9223372036854775806 → (-9223372036854775806 : Int64) = v ∧ RC σ b ∧ ∀ a, 136 ≤ a → σ a = σ a := fun v h => ⟨h.symm, hR, fun _ _ => rfl⟩
  refine E_X10_chance (W_X10_chance_0 ⟨fun z => bad _ (if_pos (Or.inl z)), fun z1 => ⟨fun z => bad _ (if_pos (Or.inr (Or.inl z))), fun z2 => ⟨fun z3 => ?_, fun z => bad _ (if_pos (Or.inr (Or.inr z)))⟩⟩⟩)
  rw [if_neg (fun z => z.elim z1 fun z => z.elim z2 z3)]
  obtain ⟨j1, hj1, rfl, -⟩ := (isW_or c (n := 17) (by decide)).resolve_left z1
  obtain ⟨j2, hj2, rfl, -⟩ := (isW_or m (n := 24) (by decide)).resolve_left z2
  rw [tN_nI (by omega), tN_nI (by omega)]
  refine (ct_above scr σ hW.T hB.2.1 hW.2.2.1 hB.2.2.2.1 hU (c := j1) (m := j2) (by omega) hj2).weak fun r s ⟨hr, u1, f1⟩ => W_X10_chance_47 ?_
  have R1 : RC s b := hR.keep (fun a z1 z2 => f1 a (by omega)) (hP.fr h10 fun a ha => f1 a (by omega)) (hG.fr fun a ha => f1 a (by omega)) u1
  rw [R1.2.1.2.2.2.1.1, l16 _ h8, hr]
  have hA : chS (aT b) (aE b) j1 j2 (2 ^ (aE b).1) < 2 ^ 62 := by
    have h1 := chS_le (T := aT b) hW.2.2.1 (c := j1) (m := j2) (by omega) (2 ^ (aE b).1)
    have h2 : 2 ^ (aE b).1 ≤ 2 ^ 8 := Nat.pow_le_pow_right (by decide) h8
    omega
  have hB' : 16 ^ (aE b).1 < 2 ^ 62 := Nat.lt_of_le_of_lt (Nat.pow_le_pow_right (by decide) h8) (by decide)
  have key : ∀ (f i A C : Nat), i + f = 32 → A < 2 ^ 62 → C < 2 ^ 62 → rdN f A C = chP b j1 j2 → K_X10_chance_65 scr w (lN A) (lN C) (nI i) s (fun r σ' => r = lN (if ¬ w = 0 then (chP b j1 j2).2 else (chP b j1 j2).1) ∧ RC σ' b ∧ ∀ a, 136 ≤ a → σ' a = σ a) := by
    have fin' : ∀ A C, (A, C) = chP b j1 j2 → (if ¬ w = 0 then lN C else lN A : Int64) = lN (if ¬ w = 0 then (chP b j1 j2).2 else (chP b j1 j2).1) := fun A C h => by
      rw [← h]
      split <;> rfl
    intro f
    induction f with
    | zero =>
      intro i A C hi hA hC h
      have : i = 32 := by omega
      subst this
      exact W_X10_chance_65 ⟨fun _ => ⟨fin' A C h, R1, fun a ha => f1 a (by omega)⟩, fun h => absurd (Int32.le_refl _) h⟩
    | succ f ih =>
      intro i A C hi hA hC h
      have hr : rdN (f + 1) A C = if A % 2 = 0 ∧ C % 2 = 0 then rdN f (A / 2) (C / 2) else (A, C) := rfl
      rw [hr] at h
      refine W_X10_chance_65 ⟨fun h => ?_, fun _ => ⟨fun z => ?_, fun z => ⟨fun y => ?_, fun y => ?_⟩⟩⟩
      · rw [show (32 : Int32) = nI 32 from rfl, nI_le' (by omega) (by omega)] at h
        omega
      · rw [lN_mod2 hA] at z
        rw [if_neg (fun x => z x.1)] at h
        exact ⟨fin' A C h, R1, fun a ha => f1 a (by omega)⟩
      · rw [lN_mod2 hC] at y
        rw [if_neg (fun x => y x.2)] at h
        exact ⟨fin' A C h, R1, fun a ha => f1 a (by omega)⟩
      · rw [lN_mod2 hA] at z
        rw [lN_mod2 hC] at y
        rw [if_pos ⟨z, y⟩] at h
        rw [lN_half hA, lN_half hC, nI_add1]
        exact ih (i + 1) (A / 2) (C / 2) (by omega) (by omega) (by omega) h
  exact key 32 0 _ _ (by omega) hA hB' rfl
