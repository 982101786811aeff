/-! the reference: what it notes of a moment -/
def lwB (b : Nat) : Nat → Nat
  | 0 => 0
  | k + 1 => if b.testBit k = true then lwB b k ||| 2 ^ k else lwB b k
theorem lwB_lt (b : Nat) : ∀ n, n ≤ 10 → lwB b n < 1024
  | 0, _ => (show 0 < 1024 by omega)
  | n + 1, h => by
    have ih := lwB_lt b n (by omega)
    unfold lwB
    split
    · exact or_lt (n := 10) ih (pow_lt (n := 10) (by omega))
    · exact ih
theorem lwB_bit (b : Nat) : ∀ n a, (lwB b n).testBit a = (decide (a < n) && b.testBit a)
  | 0, a => by simp [lwB]
  | n + 1, a => by
    have ih := lwB_bit b n a
    unfold lwB
    split
    · rename_i z
      rw [or_bit, ih]
      by_cases h : n = a
      · subst h; simp [z]
      · have : a < n + 1 ↔ a < n := by omega
        simp [h, this]
    · rename_i z
      rw [ih]
      by_cases h : n = a
      · subst h
        simp at z
        simp [z]
      · have : a < n + 1 ↔ a < n := by omega
        simp [this]
theorem lwB_all {b : Nat} (hb : b < 1024) : lwB b 10 = b := bits10 (lwB_lt b 10 (by omega)) hb fun p hp => by
  rw [lwB_bit]
  simp [hp]
/-- the cells that a note changes -/
def frN (σ σ' : Sg) (m : Nat) : Prop := (∀ a c, ¬ (155 ≤ a ∧ a ≤ 161) → ¬ (a = 136 ∧ (c = 17 ∨ c = 20 ∨ c = 21 ∨ c = 22 ∨ c = 23 ∨ c = 24)) → σ' a c = σ a c) ∧ (∀ c, c < m → σ' 155 c = σ 155 c ∧ σ' 156 c = σ 156 c) ∧ ∀ a c, 157 ≤ a → a ≤ 161 → c < 10 * m → σ' a c = σ a c
theorem ct_notes (scr : ScA) (σ : Sg) {T : TT} (hT : TW T) (hC : MT σ T) {S : SS} {M : Nat} (hB : SB T M S) (hG : GS T S) (hS : MS σ T S 0) {m : Nat} (hm : m < 24) (ld : Nat → Nat) (hld : ∀ a, a < tn T → σ 151 a = nI (ld a)) : CvA scr 2 mX11_notes [.ref 136, .int (nI m)] σ (fun σ' => (σ' 155 m = nI (pop S.1) ∧ σ' 156 m = nI S.1 ∧ (∀ p, p < 10 → σ' 157 (10 * m + p) = woI T S.1 p) ∧ ∀ a, a < tn T → σ' 158 (10 * m + a) = nI (faS T S m a) ∧ σ' 159 (10 * m + a) = nI (ld a) ∧ σ' 160 (10 * m + a) = nI (S.2.1 a) ∧ σ' 161 (10 * m + a) = nI (S.2.2.1 a)) ∧ (σ' 136 24 = σ 136 24 ||| nI (upN T S.1 (tn T)) ∧ σ' 136 17 = σ 136 17 + nI (pop S.1) ∧ σ' 136 21 = (if nI (pop S.1) ≤ σ 136 20 then σ 136 21 else nI m) ∧ σ' 136 20 = (if nI (pop S.1) ≤ σ 136 20 then σ 136 20 else nI (pop S.1)) ∧ σ' 136 22 = (if ¬ σ 136 22 = (-1) then σ 136 22 else (if S.1.testBit 9 = true then nI m else σ 136 22)) ∧ σ' 136 23 = σ 136 23 + (if S.1.testBit 9 = true then 1 else 0)) ∧ frN σ σ' m) := by
  have h10 := hT.1
  have tm : (nI m).toNatClampNeg = m := tN_nI (by omega)
  have wq : ∀ q, q < 10 → (woI T S.1 q = -1 ↔ S.1.testBit q = false) := fun q hq => wo_m1 hT (hG.1 q hq)
  have hct : cnX T S.1 (tn T) = pop S.1 := cnX_pop hT hB.1 hG.1
  have fs : ∀ {s : Sg}, frN σ s m → (∀ c, s 149 c = σ 149 c) ∧ s 136 25 = σ 136 25 ∧ s 136 2 = σ 136 2 := fun {s} h => ⟨fun c => h.1 149 c (by omega) (by omega), h.1 136 25 (by omega) (by omega), h.1 136 2 (by omega) (by omega)⟩
  refine E_X11_notes (W_X11_notes_0 ⟨inB_nI hm (by decide), fun t1 e1 t2 e2 => ?_⟩)
  rw [tm] at e1 e2
  have second : ∀ (j k : Nat) (s : Sg), k + j = tn T → frN σ s m → (∀ c, c = 17 ∨ c = 20 ∨ c = 21 ∨ c = 22 ∨ c = 23 ∨ c = 24 → s 136 c = σ 136 c) → s 155 m = nI (cnX T S.1 k) → s 156 m = nI S.1 → (∀ p, p < 10 → s 157 (10 * m + p) = woI T S.1 p) → (∀ a, a < k → s 158 (10 * m + a) = nI (faS T S m a) ∧ s 159 (10 * m + a) = nI (ld a) ∧ s 160 (10 * m + a) = nI (S.2.1 a) ∧ s 161 (10 * m + a) = nI (S.2.2.1 a)) → K_X11_notes_73 scr (nI m) (nI k) s (fun σ' => (σ' 155 m = nI (pop S.1) ∧ σ' 156 m = nI S.1 ∧ (∀ p, p < 10 → σ' 157 (10 * m + p) = woI T S.1 p) ∧ ∀ a, a < tn T → σ' 158 (10 * m + a) = nI (faS T S m a) ∧ σ' 159 (10 * m + a) = nI (ld a) ∧ σ' 160 (10 * m + a) = nI (S.2.1 a) ∧ σ' 161 (10 * m + a) = nI (S.2.2.1 a)) ∧ (σ' 136 24 = σ 136 24 ||| nI (upN T S.1 (tn T)) ∧ σ' 136 17 = σ 136 17 + nI (pop S.1) ∧ σ' 136 21 = (if nI (pop S.1) ≤ σ 136 20 then σ 136 21 else nI m) ∧ σ' 136 20 = (if nI (pop S.1) ≤ σ 136 20 then σ 136 20 else nI (pop S.1)) ∧ σ' 136 22 = (if ¬ σ 136 22 = (-1) then σ 136 22 else (if S.1.testBit 9 = true then nI m else σ 136 22)) ∧ σ' 136 23 = σ 136 23 + (if S.1.testBit 9 = true then 1 else 0)) ∧ frN σ σ' m) := by
    intro j
    induction j with
    | zero =>
      intro k s hk hf h0 h155 h156 h157 hrow
      have : k = tn T := by omega
      subst this
      obtain ⟨f149, f25, f2⟩ := fs hf
      rw [hct] at h155
      have w9 : ∀ s' : Sg, s' 149 = s 149 → (s' 149 (Int32.toNatClampNeg 9) = -1 ↔ S.1.testBit 9 = false) := fun s' h => by
        rw [h, show Int32.toNatClampNeg 9 = 9 from rfl, f149, hS.1 9 (by omega)]
        exact wq 9 (by omega)
      refine W_X11_notes_73 ⟨fun _ s1 e1 => ⟨inB_nI hm (by decide), fun s2 e2 s3 e3 s4 e4 => ⟨fun _ => by decide, fun s5 e5 => ⟨by decide, fun s6 e6 => ?_⟩⟩⟩, fun h => absurd ?_ h⟩
      · rw [tm] at e2 e3 e4
        rw [h0 24 (by omega), f25, hS.2.1] at e1
        have a2 : s1 136 17 = σ 136 17 := by rw [e1, su_nc _ _ _ _ (by omega)]; exact h0 17 (by omega)
        have b2 : s1 155 m = nI (pop S.1) := by rw [e1, su_nr _ _ _ _ (by omega)]; exact h155
        rw [a2, b2] at e2
        have a3 : s2 136 20 = σ 136 20 := by rw [e2, su_nc _ _ _ _ (by omega), e1, su_nc _ _ _ _ (by omega)]; exact h0 20 (by omega)
        have b3 : s2 155 m = nI (pop S.1) := by rw [e2, su_nr _ _ _ _ (by omega)]; exact b2
        have d3 : s2 136 21 = σ 136 21 := by rw [e2, su_nc _ _ _ _ (by omega), e1, su_nc _ _ _ _ (by omega)]; exact h0 21 (by omega)
        rw [a3, b3, d3] at e3
        have a4 : s3 136 20 = σ 136 20 := by rw [e3, su_nc _ _ _ _ (by omega)]; exact a3
        have b4 : s3 155 m = nI (pop S.1) := by rw [e3, su_nr _ _ _ _ (by omega)]; exact b3
        rw [a4, b4] at e4
        have a5 : s4 136 22 = σ 136 22 := by rw [e4, su_nc _ _ _ _ (by omega), e3, su_nc _ _ _ _ (by omega), e2, su_nc _ _ _ _ (by omega), e1, su_nc _ _ _ _ (by omega)]; exact h0 22 (by omega)
        have k4 : s4 149 = s 149 := by rw [e4, e3, e2, e1, su_off _ _ _ _ (by omega), su_off _ _ _ _ (by omega), su_off _ _ _ _ (by omega), su_off _ _ _ _ (by omega)]
        have k5 : s5 149 = s 149 := by rw [e5, su_off _ _ _ _ (by omega)]; exact k4
        have a6 : s5 136 23 = σ 136 23 := by rw [e5, su_nc _ _ _ _ (by omega), e4, su_nc _ _ _ _ (by omega), e3, su_nc _ _ _ _ (by omega), e2, su_nc _ _ _ _ (by omega), e1, su_nc _ _ _ _ (by omega)]; exact h0 23 (by omega)
        rw [a5] at e5
        rw [a6] at e6
        have v5 : (if ¬ σ 136 22 = (-1) then σ 136 22 else (if s4 149 (Int32.toNatClampNeg 9) = (-1) then σ 136 22 else nI m : Int32) : Int32) = (if ¬ σ 136 22 = (-1) then σ 136 22 else (if S.1.testBit 9 = true then nI m else σ 136 22)) := by
          by_cases y : S.1.testBit 9 = true
          · rw [if_neg (show ¬ s4 149 (Int32.toNatClampNeg 9) = (-1) from fun x => by rw [(w9 s4 k4).mp x] at y; cases y), if_pos y]
          · rw [if_pos ((w9 s4 k4).mpr (by simpa using y)), if_neg y]
        have v6 : (if s5 149 (Int32.toNatClampNeg 9) = (-1) then 0 else 1 : Int32) = if S.1.testBit 9 = true then 1 else 0 := by
          by_cases y : S.1.testBit 9 = true
          · rw [if_neg (show ¬ s5 149 (Int32.toNatClampNeg 9) = (-1) from fun x => by rw [(w9 s5 k5).mp x] at y; cases y), if_pos y]
          · rw [if_pos ((w9 s5 k5).mpr (by simpa using y)), if_neg y]
        rw [v5] at e5
        rw [v6] at e6
        have off : ∀ a, a ≠ 136 → s6 a = s a := fun a ha => by rw [e6, e5, e4, e3, e2, e1, su_off _ _ _ _ ha, su_off _ _ _ _ ha, su_off _ _ _ _ ha, su_off _ _ _ _ ha, su_off _ _ _ _ ha, su_off _ _ _ _ ha]
        refine ⟨⟨by rw [off 155 (by omega)]; exact h155, by rw [off 156 (by omega)]; exact h156, by rw [off 157 (by omega)]; exact h157, by rw [off 158 (by omega), off 159 (by omega), off 160 (by omega), off 161 (by omega)]; exact hrow⟩, ⟨?_, ?_, ?_, ?_, ?_, ?_⟩, ⟨fun a c z1 z2 => ?_, fun c hc => by rw [off 155 (by omega), off 156 (by omega)]; exact hf.2.1 c hc, fun a c z1 z2 z3 => by rw [off a (by omega)]; exact hf.2.2 a c z1 z2 z3⟩⟩
        · rw [e6, e5, e4, e3, e2, e1]; simp [su]
        · rw [e6, e5, e4, e3, e2]; simp [su]
        · rw [e6, e5, e4, e3]; simp [su]
        · rw [e6, e5, e4]; simp [su]
        · rw [e6, e5]; simp [su]
        · rw [e6]; simp [su]
        · have z3 : ¬ (a = 136 ∧ c = 24) := fun q => z2 ⟨q.1, by omega⟩
          rw [e6, e5, e4, e3, e2, e1, frS a c (fun q => z2 ⟨q.1, by omega⟩), frS a c (fun q => z2 ⟨q.1, by omega⟩), frS a c (fun q => z2 ⟨q.1, by omega⟩), frS a c (fun q => z2 ⟨q.1, by omega⟩), frS a c (fun q => z2 ⟨q.1, by omega⟩), frS a c z3]
          exact hf.1 a c z1 z2
      · rw [f2, hC.1]
        exact Int32.le_refl _
    | succ j ih =>
      intro k s hk hf h0 h155 h156 h157 hrow
      obtain ⟨f149, f25, f2⟩ := fs hf
      have tk : (nI k).toNatClampNeg = k := tN_nI (by omega)
      have ex : (10 : Int32) * nI m + nI k = nI (10 * m + k) := by rw [c10, pk_mul, nI_add]
      have txk : (nI (10 * m + k)).toNatClampNeg = 10 * m + k := tN_nI (by omega)
      have q2 := up_ii hT (b := S.1) (a := k) (by omega)
      have hll := (hB.2.1 k (by omega)).2.2
      obtain ⟨x1, x2, x3, -⟩ := hS.2.2.1 k (by omega)
      have c4' := (hC.2 k (by omega)).2.2.2.1
      have b4 := (hT.2.1 k (by omega)).2.2.2.2.2.1
      refine W_X11_notes_73 ⟨fun h => ?_, fun _ => ⟨inB_nI hm (by decide), fun s7 e7 => ⟨inB_nI (by omega) (by decide), fun _ _ => inB_nI (by omega) (by decide), ?_⟩⟩⟩
      · rw [f2, hC.1, nI_le' (by omega) (by omega)] at h
        omega
      rw [tm, h155, f25, hS.2.1] at e7
      rw [ex, txk, tk]
      have v7 : nI (cnX T S.1 k) + (if iiV (nI (upN T S.1 (tn T))) (nI k) = 0 then 0 else 1 : Int32) = nI (cnX T S.1 (k + 1)) := by
        have es : cnX T S.1 (k + 1) = if S.1.testBit (tpl T k) = true then cnX T S.1 k + 1 else cnX T S.1 k := rfl
        rw [es]
        by_cases z : S.1.testBit (tpl T k) = false
        · rw [if_pos (q2.mpr z), if_neg (show ¬ S.1.testBit (tpl T k) = true by rw [z]; simp)]
          exact nI_add _ 0
        · rw [if_neg (fun y => z (q2.mp y)), if_pos (by simpa using z), nI_add1]
      rw [v7] at e7
      have g7 : ∀ a c, ¬ (155 ≤ a ∧ a ≤ 161) → s7 a c = s a c := fun a c z => by rw [e7, su_off _ _ _ _ (by omega)]
      have w141 : s7 141 k = nI (tco T k) := by rw [g7 _ _ (by omega), hf.1 141 k (by omega) (by omega)]; exact c4'
      have w25 : s7 136 25 = nI (upN T S.1 (tn T)) := by rw [g7 _ _ (by omega), f25]; exact hS.2.1
      have w153 : s7 153 k = faI (S.2.2.2.1 k) := by rw [g7 _ _ (by omega), hf.1 153 k (by omega) (by omega)]; exact x3
      rw [w141, w25]
      have q4 : liV s7 (nI k) (nI m) = 0 ↔ S.2.2.2.1 k ≤ m := li_nI (by omega) hm hll (hG.2.2.2 k (by omega)) w153
      have q1 : nI (tco T k) ≤ nI m ↔ tco T k ≤ m := nI_le' (by omega) (by omega)
      have v8 : (if nI (tco T k) ≤ nI m then (if iiV (nI (upN T S.1 (tn T))) (nI k) = 0 then (if liV s7 (nI k) (nI m) = 0 then 1 else 3 : Int32) else 2 : Int32) else 0 : Int32) = nI (faS T S m k) := by
        unfold faS
        by_cases z1 : tco T k ≤ m
        · rw [if_pos (q1.mpr z1), if_pos z1]
          by_cases z2 : S.1.testBit (tpl T k) = false
          · rw [if_pos (q2.mpr z2), if_neg (show ¬ S.1.testBit (tpl T k) = true by rw [z2]; simp)]
            by_cases z3 : S.2.2.2.1 k ≤ m
            · rw [if_pos (q4.mpr z3), if_pos z3]; rfl
            · rw [if_neg (fun y => z3 (q4.mp y)), if_neg z3]; rfl
          · rw [if_neg (fun y => z2 (q2.mp y)), if_pos (by simpa using z2)]; rfl
        · rw [if_neg (fun y => z1 (q1.mp y)), if_neg z1]; rfl
      rw [v8]
      refine ⟨inB_nI (by omega) (by decide), fun s8 e8 => ⟨inB_nI (by omega) (by decide), fun s9 e9 s10 e10 s11 e11 => ?_⟩⟩
      have w151 : s8 151 k = nI (ld k) := by rw [e8, su_off _ _ _ _ (by omega), g7 _ _ (by omega), hf.1 151 k (by omega) (by omega)]; exact hld k (by omega)
      rw [w151] at e9
      have w150 : s9 150 k = nI (S.2.1 k) := by rw [e9, su_off _ _ _ _ (by omega), e8, su_off _ _ _ _ (by omega), g7 _ _ (by omega), hf.1 150 k (by omega) (by omega)]; exact x1
      rw [w150] at e10
      have w152 : s10 152 k = nI (S.2.2.1 k) := by rw [e10, su_off _ _ _ _ (by omega), e9, su_off _ _ _ _ (by omega), e8, su_off _ _ _ _ (by omega), g7 _ _ (by omega), hf.1 152 k (by omega) (by omega)]; exact x2
      rw [w152] at e11
      rw [nI_add1]
      refine ih (k + 1) s11 (by omega) ⟨fun a c z1 z2 => ?_, fun c hc => ?_, fun a c z1 z2 z3 => ?_⟩ (fun c hc => ?_) ?_ ?_ (fun p hp => ?_) (fun a ha => ?_)
      · rw [e11, su_off _ _ _ _ (by omega), e10, su_off _ _ _ _ (by omega), e9, su_off _ _ _ _ (by omega), e8, su_off _ _ _ _ (by omega), g7 a c z1]
        exact hf.1 a c z1 z2
      · obtain ⟨y1, y2⟩ := hf.2.1 c hc
        rw [← y1, ← y2, e11, e10, e9, e8, e7]
        simp [su, show ¬ c = m by omega]
      · rw [← hf.2.2 a c z1 z2 z3, e11, e10, e9, e8, e7, frS a c (by omega), frS a c (by omega), frS a c (by omega), frS a c (by omega), frS a c (by omega)]
      · rw [← h0 c hc, e11, e10, e9, e8, e7]
        simp [su]
      · rw [e11, e10, e9, e8, e7]
        simp [su]
      · rw [← h156, e11, e10, e9, e8, e7]
        simp [su]
      · rw [← h157 p hp, e11, e10, e9, e8, e7]
        simp [su]
      · rw [e11, e10, e9, e8, e7]
        by_cases z : a = k
        · subst z
          refine ⟨?_, ?_, ?_, ?_⟩ <;> simp [su]
        · obtain ⟨y1, y2, y3, y4⟩ := hrow a (by omega)
          rw [← y1, ← y2, ← y3, ← y4]
          refine ⟨?_, ?_, ?_, ?_⟩ <;> simp [su, z]
  have first : ∀ (j p : Nat) (s : Sg), p + j = 10 → frN σ s m → (∀ c, c = 17 ∨ c = 20 ∨ c = 21 ∨ c = 22 ∨ c = 23 ∨ c = 24 → s 136 c = σ 136 c) → s 155 m = 0 → s 156 m = nI (lwB S.1 p) → (∀ q, q < p → s 157 (10 * m + q) = woI T S.1 q) → K_X11_notes_16 scr (nI m) (nI p) s (fun σ' => (σ' 155 m = nI (pop S.1) ∧ σ' 156 m = nI S.1 ∧ (∀ p, p < 10 → σ' 157 (10 * m + p) = woI T S.1 p) ∧ ∀ a, a < tn T → σ' 158 (10 * m + a) = nI (faS T S m a) ∧ σ' 159 (10 * m + a) = nI (ld a) ∧ σ' 160 (10 * m + a) = nI (S.2.1 a) ∧ σ' 161 (10 * m + a) = nI (S.2.2.1 a)) ∧ (σ' 136 24 = σ 136 24 ||| nI (upN T S.1 (tn T)) ∧ σ' 136 17 = σ 136 17 + nI (pop S.1) ∧ σ' 136 21 = (if nI (pop S.1) ≤ σ 136 20 then σ 136 21 else nI m) ∧ σ' 136 20 = (if nI (pop S.1) ≤ σ 136 20 then σ 136 20 else nI (pop S.1)) ∧ σ' 136 22 = (if ¬ σ 136 22 = (-1) then σ 136 22 else (if S.1.testBit 9 = true then nI m else σ 136 22)) ∧ σ' 136 23 = σ 136 23 + (if S.1.testBit 9 = true then 1 else 0)) ∧ frN σ σ' m) := by
    intro j
    induction j with
    | zero =>
      intro p s hp hf h0 h155 h156 h157
      have : p = 10 := by omega
      subst this
      rw [lwB_all hB.1] at h156
      exact W_X11_notes_16 ⟨fun _ => second (tn T) 0 s (by omega) hf h0 h155 h156 h157 (fun a ha => by omega), fun h => absurd (Int32.le_refl _) h⟩
    | succ j ih =>
      intro p s hp hf h0 h155 h156 h157
      obtain ⟨f149, f25, f2⟩ := fs hf
      have ex : (10 : Int32) * nI m + nI p = nI (10 * m + p) := by rw [c10, pk_mul, nI_add]
      refine W_X11_notes_16 ⟨fun h => ?_, fun _ => ?_⟩
      · rw [c10, nI_le' (by omega) (by omega)] at h
        omega
      rw [ex, tN_nI (n := 10 * m + p) (by omega), tN_nI (n := p) (by omega), f149, hS.1 p (by omega), tm]
      refine ⟨inB_nI (by omega) (by decide), inB_nI (by omega) (by decide), fun s1 e1 => ⟨inB_nI hm (by decide), fun s2 e2 => ?_⟩⟩
      have w1 : s1 156 m = nI (lwB S.1 p) := by rw [e1, su_off _ _ _ _ (by omega)]; exact h156
      have w2 : s1 149 p = woI T S.1 p := by rw [e1, su_off _ _ _ _ (by omega), f149]; exact hS.1 p (by omega)
      rw [w1, w2, shl1 (by omega)] at e2
      have v2 : nI (lwB S.1 p) ||| (if woI T S.1 p = (-1) then 0 else nI (2 ^ p) : Int32) = nI (lwB S.1 (p + 1)) := by
        have es : lwB S.1 (p + 1) = if S.1.testBit p = true then lwB S.1 p ||| 2 ^ p else lwB S.1 p := rfl
        rw [es]
        by_cases z : S.1.testBit p = true
        · rw [if_neg (fun y => by rw [(wq p (by omega)).mp y] at z; cases z), if_pos z, or_nI]
        · rw [if_pos ((wq p (by omega)).mpr (by simpa using z)), if_neg z, show (0 : Int32) = nI 0 from rfl, or_nI, Nat.or_zero]
      rw [v2] at e2
      rw [nI_add1]
      refine ih (p + 1) s2 (by omega) ⟨fun a c z1 z2 => ?_, fun c hc => ?_, fun a c z1 z2 z3 => ?_⟩ (fun c hc => ?_) ?_ ?_ (fun q hq => ?_)
      · rw [e2, su_off _ _ _ _ (by omega), e1, su_off _ _ _ _ (by omega)]
        exact hf.1 a c z1 z2
      · obtain ⟨y1, y2⟩ := hf.2.1 c hc
        rw [← y1, ← y2, e2, e1]
        simp [su, show ¬ c = m by omega]
      · rw [← hf.2.2 a c z1 z2 z3, e2, e1, frS a c (by omega), frS a c (by omega)]
      · rw [← h0 c hc, e2, e1]
        simp [su]
      · rw [← h155, e2, e1]
        simp [su]
      · rw [e2, su_eq]
      · rw [e2, e1]
        by_cases z : q = p
        · subst z; simp [su]
        · rw [← h157 q (by omega)]; simp [su, z]
  refine first 10 0 t2 (by omega) ⟨fun a c z1 z2 => ?_, fun c hc => ?_, fun a c z1 z2 z3 => ?_⟩ (fun c hc => ?_) ?_ ?_ (fun q hq => by omega)
  · rw [e2, e1, su_off _ _ _ _ (by omega), su_off _ _ _ _ (by omega)]
  · rw [e2, e1]
    simp [su, show ¬ c = m by omega]
  · rw [e2, e1, su_off _ _ _ _ (by omega), su_off _ _ _ _ (by omega)]
  · rw [e2, e1]
    simp [su]
  · rw [e2, e1]
    simp [su]
  · rw [e2, su_eq]
    rfl
