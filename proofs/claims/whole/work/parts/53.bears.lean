/-! the reference: what each bears -/
theorem gvB_bit {T : TT} {b : Nat} {ld ti : Nat → Nat} : ∀ n p, (gvB T b ld ti n).testBit p = true ↔ ∃ a, a < n ∧ (b.testBit (tpl T a) = true ∧ (4 * tst T a < trT T b ld ti a ∨ 16 * tst T a < ld (tpl T a))) ∧ tpl T a = p
  | 0, p => by simp [gvB]
  | n + 1, p => by
    have ih := gvB_bit (T := T) (b := b) (ld := ld) (ti := ti) n p
    unfold gvB
    split
    · rename_i z
      rw [or_bit, Bool.or_eq_true_iff, ih]
      constructor
      · rintro (⟨a, h1, h2, h3⟩ | h)
        · exact ⟨a, by omega, h2, h3⟩
        · exact ⟨n, by omega, z, by simpa using h⟩
      · rintro ⟨a, h1, h2, h3⟩
        rcases Nat.lt_or_ge a n with q | q
        · exact Or.inl ⟨a, q, h2, h3⟩
        · right
          rw [show a = n by omega] at h3
          simpa using h3
    · rename_i z
      rw [ih]
      constructor
      · rintro ⟨a, h1, h2, h3⟩
        exact ⟨a, by omega, h2, h3⟩
      · rintro ⟨a, h1, h2, h3⟩
        refine ⟨a, ?_, h2, h3⟩
        rcases Nat.lt_or_ge a n with q | q
        · exact q
        · rw [show a = n by omega] at h2
          exact absurd h2 z
theorem gv_at {T : TT} (hT : TW T) {b : Nat} {ld ti : Nat → Nat} {a : Nat} (ha : a < tn T) : (gvB T b ld ti (tn T)).testBit (tpl T a) = true ↔ (b.testBit (tpl T a) = true ∧ (4 * tst T a < trT T b ld ti a ∨ 16 * tst T a < ld (tpl T a))) := by
  rw [gvB_bit]
  exact ⟨fun ⟨c, h1, h2, h3⟩ => by rw [← hT.2.2 c a h1 ha h3]; exact h2, fun h => ⟨a, ha, h, rfl⟩⟩
theorem by_nI {so l : Nat} (hs : so < 3) (hl : l ≤ 2268) : (if 0 ≤ (nI l / 8 + (if ¬ nI so = 1 then (if ¬ nI so = 2 then 0 else (-1) : Int32) else 1 : Int32)) then nI l / 8 + (if ¬ nI so = 1 then (if ¬ nI so = 2 then 0 else (-1) : Int32) else 1 : Int32) else 0 : Int32) = nI (tiN so l) := by
  rw [show (8 : Int32) = nI 8 from rfl, pk_div (by omega) (by omega) (by omega)]
  have p0 : ∀ n, n < 2 ^ 31 → (0 : Int32) ≤ nI n := fun n hn => nI_pos' hn
  rcases (by omega : so = 0 ∨ so = 1 ∨ so = 2) with rfl | rfl | rfl
  · rw [if_pos (show ¬ nI 0 = 1 by decide), if_pos (show ¬ nI 0 = 2 by decide), show nI (l / 8) + 0 = nI (l / 8) from nI_add _ 0, if_pos (p0 _ (by omega))]
    rfl
  · rw [if_neg (show ¬ ¬ nI 1 = 1 by decide), nI_add1, if_pos (p0 _ (by omega))]
    rfl
  · rw [if_pos (show ¬ nI 2 = 1 by decide), if_neg (show ¬ ¬ nI 2 = 2 by decide)]
    have et : tiN 2 l = l / 8 - 1 := rfl
    rw [et]
    by_cases z : l / 8 = 0
    · rw [z]
      decide
    · obtain ⟨n, hn⟩ : ∃ n, l / 8 = n + 1 := ⟨l / 8 - 1, by omega⟩
      rw [hn, pk_m1, if_pos (p0 _ (by omega))]
      rfl
theorem ct_bears (scr : ScA) (σ : Sg) {T : TT} (hT : TW T) (hC : MT σ T) {S : SS} {M : Nat} (hM : M ≤ 90000) (hB : SB T M S) (hG : GS T S) (hS : MS σ T S 0) : CvA scr 2 mX11_bears [.ref 136] σ (fun σ' => MS σ' T (S.1, trT T S.1 (ldF T S.1) S.2.1, S.2.2) (gvB T S.1 (ldF T S.1) S.2.1 (tn T)) ∧ (∀ a, a < tn T → σ' 151 a = nI (ldF T S.1 (tpl T a))) ∧ frM σ σ') := by
  have h10 := hT.1
  refine E_X11_bears (W_X11_bears_0 ?_)
  have third : ∀ (j k : Nat) (s : Sg), k + j = tn T → (∀ a, a ≠ 150 → a ≠ 151 → a ≠ 154 → s a = σ a) → (∀ a, a < tn T → s 151 a = nI (ldF T S.1 (tpl T a))) → (∀ a, a < k → s 150 a = nI (trT T S.1 (ldF T S.1) S.2.1 a) ∧ s 154 a = if (gvB T S.1 (ldF T S.1) S.2.1 (tn T)).testBit (tpl T a) = true then 1 else 0) → (∀ a, k ≤ a → a < tn T → s 150 a = nI (S.2.1 a) ∧ s 154 a = 0) → K_X11_bears_106 scr (nI k) s (fun σ' => MS σ' T (S.1, trT T S.1 (ldF T S.1) S.2.1, S.2.2) (gvB T S.1 (ldF T S.1) S.2.1 (tn T)) ∧ (∀ a, a < tn T → σ' 151 a = nI (ldF T S.1 (tpl T a))) ∧ frM σ σ') := by
    intro j
    induction j with
    | zero =>
      intro k s hk hf hl hd hr
      have : k = tn T := by omega
      subst this
      refine W_X11_bears_106 ⟨fun _ => ⟨⟨?_, ?_, fun a ha => ?_, ?_, ?_⟩, hl, fun a c z1 z2 z3 z4 z5 z6 z7 => by rw [hf a z3 z4 z7]⟩, fun h => absurd ?_ h⟩
      · rw [hf 149 (by omega) (by omega) (by omega)]; exact hS.1
      · rw [hf 136 (by omega) (by omega) (by omega)]; exact hS.2.1
      · rw [hf 152 (by omega) (by omega) (by omega), hf 153 (by omega) (by omega) (by omega)]
        exact ⟨(hd a ha).1, (hS.2.2.1 a ha).2.1, (hS.2.2.1 a ha).2.2.1, (hd a ha).2⟩
      · rw [hf 136 (by omega) (by omega) (by omega)]; exact hS.2.2.2.1
      · rw [hf 136 (by omega) (by omega) (by omega)]; exact hS.2.2.2.2
      · rw [hf 136 (by omega) (by omega) (by omega), hC.1]
        exact Int32.le_refl _
    | succ j ih =>
      intro k s hk hf hl hd hr
      have tk : (nI k).toNatClampNeg = k := tN_nI (by omega)
      obtain ⟨r1, r2⟩ := hr k (Nat.le_refl _) (by omega)
      obtain ⟨c1, c2', c3', -, -⟩ := hC.2 k (by omega)
      obtain ⟨b1, -, -, b3, b4, -, b5⟩ := hT.2.1 k (by omega)
      have hlk := ldF_le hT S.1 (tpl T k)
      have htk := (hB.2.1 k (by omega)).1
      have q2 := up_ii hT (b := S.1) (a := k) (by omega)
      have gv := gv_at hT (b := S.1) (ld := ldF T S.1) (ti := S.2.1) (a := k) (by omega)
      refine W_X11_bears_106 ⟨fun h => ?_, fun _ => ?_⟩
      · rw [hf 136 (by omega) (by omega) (by omega), hC.1, nI_le' (by omega) (by omega)] at h
        omega
      rw [hf 136 (by omega) (by omega) (by omega), hS.2.1, q2, nI_add1, tk]
      refine ⟨fun z => ?_, fun z => ⟨inB_nI (by omega) (by decide), inB_nI (by omega) (by decide), fun s1 e1 s2 e2 => ?_⟩⟩
      · have hno : ¬ (gvB T S.1 (ldF T S.1) S.2.1 (tn T)).testBit (tpl T k) = true := fun y => by
          have := (gv.mp y).1
          rw [z] at this
          cases this
        refine ih (k + 1) s (by omega) hf hl (fun a ha => ?_) (fun a z1 z2 => hr a (by omega) z2)
        rcases Nat.lt_or_ge a k with q | q
        · exact hd a q
        · have : a = k := by omega
          subst this
          rw [if_neg hno]
          refine ⟨?_, r2⟩
          rw [r1]
          unfold trT
          rw [if_neg (by rw [z]; simp)]
      · have zt : S.1.testBit (tpl T k) = true := by simpa using z
        rw [r1, hl k (by omega), hf 138 (by omega) (by omega) (by omega), c1, by_nI b1 hlk, nI_add] at e1
        have et : trT T S.1 (ldF T S.1) S.2.1 k = S.2.1 k + tiN (tso T k) (ldF T S.1 (tpl T k)) := by
          unfold trT
          rw [if_pos zt]
        have hti := tiN_le (so := tso T k) hlk
        rw [← et] at e1
        have w150 : s1 150 k = nI (trT T S.1 (ldF T S.1) S.2.1 k) := by rw [e1, su_eq]
        have w140 : s1 140 k = nI (tst T k) := by rw [e1, su_off _ _ _ _ (by omega), hf 140 (by omega) (by omega) (by omega)]; exact c3'
        have w151 : s1 151 k = nI (ldF T S.1 (tpl T k)) := by rw [e1, su_off _ _ _ _ (by omega)]; exact hl k (by omega)
        rw [w150, w140, w151, show (4 : Int32) = nI 4 from rfl, show (16 : Int32) = nI 16 from rfl, pk_mul, pk_mul] at e2
        have qa : nI (4 * tst T k) < nI (trT T S.1 (ldF T S.1) S.2.1 k) ↔ 4 * tst T k < trT T S.1 (ldF T S.1) S.2.1 k := nI_lt' (by omega) (by omega)
        have qb' : nI (ldF T S.1 (tpl T k)) ≤ nI (16 * tst T k) ↔ ¬ 16 * tst T k < ldF T S.1 (tpl T k) := by rw [nI_le' (by omega) (by omega)]; omega
        have ev : (if nI (4 * tst T k) < nI (trT T S.1 (ldF T S.1) S.2.1 k) then 1 else (if nI (ldF T S.1 (tpl T k)) ≤ nI (16 * tst T k) then 0 else 1 : Int32) : Int32) = if (gvB T S.1 (ldF T S.1) S.2.1 (tn T)).testBit (tpl T k) = true then 1 else 0 := by
          by_cases y1 : 4 * tst T k < trT T S.1 (ldF T S.1) S.2.1 k
          · rw [if_pos (qa.mpr y1), if_pos (gv.mpr ⟨zt, Or.inl y1⟩)]
          · rw [if_neg (fun y => y1 (qa.mp y))]
            by_cases y2 : 16 * tst T k < ldF T S.1 (tpl T k)
            · rw [if_neg (fun y => qb'.mp y y2), if_pos (gv.mpr ⟨zt, Or.inr y2⟩)]
            · rw [if_pos (qb'.mpr y2), if_neg (fun y => (gv.mp y).2.elim y1 y2)]
        rw [ev] at e2
        refine ih (k + 1) s2 (by omega) (fun a z1 z2 z3 => by rw [e2, su_off _ _ _ _ z3, e1, su_off _ _ _ _ z1]; exact hf a z1 z2 z3) (fun a ha => by rw [e2, su_off _ _ _ _ (by omega), e1, su_off _ _ _ _ (by omega)]; exact hl a ha) (fun a ha => ?_) (fun a z1 z2 => ?_)
        · rw [e2, su_off _ _ _ _ (show 150 ≠ 154 by omega), e1]
          by_cases y : a = k
          · subst y
            exact ⟨by rw [su_eq], by rw [su_eq]⟩
          · rw [su_nc _ _ _ _ y, su_nc _ _ _ _ y, su_off _ _ _ _ (show 154 ≠ 150 by omega)]
            exact hd a (by omega)
        · rw [e2, su_off _ _ _ _ (show 150 ≠ 154 by omega), e1, su_nc _ _ _ _ (by omega), su_nc _ _ _ _ (by omega), su_off _ _ _ _ (show 154 ≠ 150 by omega)]
          exact hr a (by omega) z2
  have second : ∀ (f j : Nat) (s : Sg), j + f = 6 → (∀ a, a ≠ 151 → s a = σ a) → (∀ a, a < tn T → s 151 a = nI (ldS T S.1 j (tpl T a))) → K_X11_bears_24 scr (nI (9 - j)) s (fun σ' => MS σ' T (S.1, trT T S.1 (ldF T S.1) S.2.1, S.2.2) (gvB T S.1 (ldF T S.1) S.2.1 (tn T)) ∧ (∀ a, a < tn T → σ' 151 a = nI (ldF T S.1 (tpl T a))) ∧ frM σ σ') := by
    intro f
    induction f with
    | zero =>
      intro j s hj hf hl
      have : j = 6 := by omega
      subst this
      refine W_X11_bears_24 ⟨fun _ => third (tn T) 0 s (by omega) (fun a _ z _ => hf a z) hl (fun a ha => by omega) (fun a _ ha => ?_), fun h => absurd (by decide) h⟩
      rw [hf 150 (by omega), hf 154 (by omega)]
      refine ⟨(hS.2.2.1 a ha).1, ?_⟩
      rw [(hS.2.2.1 a ha).2.2.2, Nat.zero_testBit]
      rfl
    | succ f ih =>
      intro j s hj hf hl
      have e9 : 9 - j = 4 + (5 - j) := by omega
      have em : nI (9 - j) + (-1) = nI (9 - (j + 1)) := by
        rw [show 9 - j = (9 - (j + 1)) + 1 by omega, pk_m1]
      have hi : 5 - j < 6 := by omega
      have hlb := lb_lo (5 - j) hi
      refine W_X11_bears_24 ⟨fun h => ?_, fun _ => ⟨inB_nI (by omega) (by decide), ?_⟩⟩
      · rw [c3, nI_le' (by omega) (by omega)] at h
        omega
      rw [em, tN_nI (by omega)]
      have wq : s 149 (9 - j) = -1 ↔ S.1.testBit (9 - j) = false := by
        rw [hf 149 (by omega), hS.1 _ (by omega)]
        exact wo_m1 hT (hG.1 _ (by omega))
      have hld : ldS T S.1 (j + 1) = match hdO T (9 - j) with
        | none => ldS T S.1 j
        | some a => if S.1.testBit (9 - j) = true then fun p => if p = lbN (9 - j) ∨ p = lbN (9 - j) + 1 then ldS T S.1 j p + (8 * twe T a + ldS T S.1 j (9 - j)) / 2 else ldS T S.1 j p else ldS T S.1 j := rfl
      refine ⟨fun z => ?_, fun z => ?_⟩
      · refine ih (j + 1) s (by omega) hf (fun a ha => ?_)
        have e : ldS T S.1 (j + 1) = ldS T S.1 j := by
          rw [hld]
          cases hdO T (9 - j) with
          | none => rfl
          | some a => exact if_neg (by rw [wq.mp z]; simp)
        rw [e]
        exact hl a ha
      · have hb : S.1.testBit (9 - j) = true := by
          cases y : S.1.testBit (9 - j) with
          | true => rfl
          | false => exact absurd (wq.mpr y) z
        have hold : ∀ q, q < 10 → S.1.testBit q = true → ∃ a, a < tn T ∧ tpl T a = q ∧ s 149 q = nI a := fun q hq hbq => by
          obtain ⟨a, ha, hp⟩ := hG.1 q hq hbq
          refine ⟨a, ha, hp, ?_⟩
          rw [hf 149 (by omega), hS.1 q hq]
          unfold woI
          rw [if_pos hbq, hc_of hT ha hp]
        obtain ⟨a, ha, hpa, ea⟩ := hold _ (show 9 - j < 10 by omega) hb
        have hsupp := hG.2.1 (5 - j) hi (by rw [← e9]; exact hb)
        rw [← e9] at hsupp hlb
        obtain ⟨l, hl1, hpl, el⟩ := hold _ (show lbN (9 - j) < 10 by omega) hsupp.1
        obtain ⟨r, hr1, hpr, er⟩ := hold _ (show lbN (9 - j) + 1 < 10 by omega) hsupp.2
        have hlr : l ≠ r := fun y => by rw [y, hpr] at hpl; omega
        have ebl : blV (nI (9 - j)) = nI (lbN (9 - j)) := by rw [e9]; exact bl_nI hi
        rw [ebl, nI_add1, ea, tN_nI (n := a) (by omega), tN_nI (n := lbN (9 - j)) (by omega), tN_nI (n := lbN (9 - j) + 1) (by omega), el, tN_nI (n := l) (by omega), hl a ha, hl l hl1, hpa, hpl, hf 139 (by omega), (hC.2 a ha).2.1]
        have hw9 := (hT.2.1 a ha).2.2.1
        have hls := ldS_le hT S.1 j (9 - j)
        have h64 : 2 ^ j ≤ 2 ^ 6 := Nat.pow_le_pow_right (by decide) (by omega)
        rw [half_nI (by omega) (by omega), nI_add]
        refine ⟨inB_nI (by omega) (by decide), inB_nI (by omega) (by decide), inB_nI (by omega) (by decide), inB_nI (by omega) (by decide), fun s1 e1 => ?_⟩
        have w149 : s1 149 (lbN (9 - j) + 1) = nI r := by rw [e1, su_off _ _ _ _ (by omega)]; exact er
        have w151 : s1 151 r = nI (ldS T S.1 j (lbN (9 - j) + 1)) := by rw [e1, su_nc _ _ _ _ (fun y => hlr y.symm), hl r hr1, hpr]
        rw [w149, tN_nI (n := r) (by omega), w151, nI_add]
        refine ⟨inB_nI (by omega) (by decide), inB_nI (by omega) (by decide), fun s2 e2 => ?_⟩
        have e : ldS T S.1 (j + 1) = fun p => if p = lbN (9 - j) ∨ p = lbN (9 - j) + 1 then ldS T S.1 j p + (8 * twe T a + ldS T S.1 j (9 - j)) / 2 else ldS T S.1 j p := by
          rw [hld, (hdO_iff hT).mpr ⟨ha, hpa⟩]
          exact if_pos hb
        refine ih (j + 1) s2 (by omega) (fun c hc => by rw [e2, su_off _ _ _ _ hc, e1, su_off _ _ _ _ hc]; exact hf c hc) (fun c hc => ?_)
        rw [e, e2]
        by_cases y1 : c = r
        · rw [y1, su_eq, hpr]
          show _ = nI (if _ then _ else _)
          rw [if_pos (Or.inr rfl)]
        · rw [su_nc _ _ _ _ y1, e1]
          have n1 : ¬ tpl T c = lbN (9 - j) + 1 := fun y => y1 (hT.2.2 c r hc hr1 (by rw [y, hpr]))
          by_cases y2 : c = l
          · rw [y2, su_eq, hpl]
            show _ = nI (if _ then _ else _)
            rw [if_pos (Or.inl rfl)]
          · have n2 : ¬ tpl T c = lbN (9 - j) := fun y => y2 (hT.2.2 c l hc hl1 (by rw [y, hpl]))
            rw [su_nc _ _ _ _ y2, hl c hc]
            show _ = nI (if _ then _ else _)
            rw [if_neg (fun y => y.elim n2 n1)]
  have first : ∀ (j k : Nat) (s : Sg), k + j = 10 → (∀ a, a ≠ 151 → s a = σ a) → (∀ a, a < k → s 151 a = 0) → K_X11_bears_2 scr (nI k) s (fun σ' => MS σ' T (S.1, trT T S.1 (ldF T S.1) S.2.1, S.2.2) (gvB T S.1 (ldF T S.1) S.2.1 (tn T)) ∧ (∀ a, a < tn T → σ' 151 a = nI (ldF T S.1 (tpl T a))) ∧ frM σ σ') := by
    intro j
    induction j with
    | zero =>
      intro k s hk hf hz
      have : k = 10 := by omega
      subst this
      refine W_X11_bears_2 ⟨fun _ => second 6 0 s (by omega) hf (fun a ha => hz a (by omega)), fun h => absurd (Int32.le_refl _) h⟩
    | succ j ih =>
      intro k s hk hf hz
      refine W_X11_bears_2 ⟨fun h => ?_, fun _ => ⟨inB_nI (by omega) (by decide), fun s1 e1 => ?_⟩⟩
      · rw [c10, nI_le' (by omega) (by omega)] at h
        omega
      rw [tN_nI (by omega)] at e1
      rw [nI_add1]
      refine ih (k + 1) s1 (by omega) (fun a ha => by rw [e1, su_off _ _ _ _ ha]; exact hf a ha) (fun a ha => ?_)
      rw [e1]
      by_cases y : a = k
      · rw [y, su_eq]
      · rw [su_nc _ _ _ _ y]; exact hz a (by omega)
  exact first 10 0 σ (by omega) (fun _ _ => rfl) (fun a ha => by omega)
