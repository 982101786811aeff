/-! runs -/
theorem tpO_lt (T : TT) (E : EE) (ch : Nat) : ∀ m x, tpO T E ch m = some x → x < m
  | 0, x, h => by cases h
  | m + 1, x, h => by
    unfold tpO at h
    split at h
    · cases h1 : tpO T E ch m with
      | some y =>
        rw [h1] at h
        cases h
        have := tpO_lt T E ch m x h1
        omega
      | none =>
        rw [h1] at h
        cases h
        omega
    · have := tpO_lt T E ch m x h
      omega
theorem NT.step {σ σ' : Sg} {T : TT} {E : EE} {ch n : Nat} (hn : n < 24) (h : NT σ T E ch n) (p1 : σ' 155 n = nI (pop (tkO T E ch n)) ∧ σ' 156 n = nI (tkO T E ch n) ∧ (∀ p, p < 10 → σ' 157 (10 * n + p) = woI T (tkO T E ch n) p) ∧ ∀ a, a < tn T → σ' 158 (10 * n + a) = nI (faS T (sim T E ch (n + 1)) n a) ∧ σ' 159 (10 * n + a) = nI (ldAt T E ch n (sim T E ch n) (tpl T a)) ∧ σ' 160 (10 * n + a) = nI ((sim T E ch (n + 1)).2.1 a) ∧ σ' 161 (10 * n + a) = nI ((sim T E ch (n + 1)).2.2.1 a)) (p2 : σ' 136 24 = σ 136 24 ||| nI (upN T (tkO T E ch n) (tn T)) ∧ σ' 136 17 = σ 136 17 + nI (pop (tkO T E ch n)) ∧ σ' 136 21 = (if nI (pop (tkO T E ch n)) ≤ σ 136 20 then σ 136 21 else nI n) ∧ σ' 136 20 = (if nI (pop (tkO T E ch n)) ≤ σ 136 20 then σ 136 20 else nI (pop (tkO T E ch n))) ∧ σ' 136 22 = (if ¬ σ 136 22 = (-1) then σ 136 22 else (if (tkO T E ch n).testBit 9 = true then nI n else σ 136 22)) ∧ σ' 136 23 = σ 136 23 + (if (tkO T E ch n).testBit 9 = true then 1 else 0)) (hf : frN σ σ' n) (h10 : tn T ≤ 10) : NT σ' T E ch (n + 1) := by
  obtain ⟨h1, h2, h3, h4, h5, h6, h7⟩ := h
  obtain ⟨q1, q2, q3, q4, q5, q6⟩ := p2
  refine ⟨fun m hm => ?_, ?_, ?_, fun z => by omega, fun k hk => ?_, ?_, ?_⟩
  · by_cases z : m = n
    · subst z
      exact p1
    · obtain ⟨g1, g2, g3, g4⟩ := h1 m (by omega)
      obtain ⟨k1, k2⟩ := hf.2.1 m (by omega)
      refine ⟨by rw [k1]; exact g1, by rw [k2]; exact g2, fun p hp => by rw [hf.2.2 157 _ (by omega) (by omega) (by omega)]; exact g3 p hp, fun a ha => ?_⟩
      rw [hf.2.2 158 _ (by omega) (by omega) (by omega), hf.2.2 159 _ (by omega) (by omega) (by omega), hf.2.2 160 _ (by omega) (by omega) (by omega), hf.2.2 161 _ (by omega) (by omega) (by omega)]
      exact g4 a ha
  · rw [q1, h2, or_nI]
    show _ = nI (upN T (evrO T E ch n ||| tkO T E ch n) (tn T))
    rw [upN_or]
  · rw [q2, h3, nI_add]
    rfl
  · have hkn : k = n := by omega
    subst hkn
    have hp := pop_le (tkO T E ch k)
    cases k with
    | zero =>
      obtain ⟨z1, z2⟩ := h4 rfl
      have hno : ¬ nI (pop (tkO T E ch 0)) ≤ (-1 : Int32) := fun y => by
        rw [Int32.le_iff_toInt_le, nI_toInt (by omega), show (-1 : Int32).toInt = -1 from by decide] at y
        omega
      rw [q3, q4, z2, if_neg hno, if_neg hno]
      exact ⟨rfl, rfl⟩
    | succ k =>
      obtain ⟨z1, z2⟩ := h5 k rfl
      have hp2 := pop_le (tkO T E ch (moO T E ch k))
      have q : nI (pop (tkO T E ch (k + 1))) ≤ nI (pop (tkO T E ch (moO T E ch k))) ↔ ¬ pop (tkO T E ch (moO T E ch k)) < pop (tkO T E ch (k + 1)) := by rw [nI_le' (by omega) (by omega)]; omega
      rw [q3, q4, z1, z2]
      have em : moO T E ch (k + 1) = if pop (tkO T E ch (moO T E ch k)) < pop (tkO T E ch (k + 1)) then k + 1 else moO T E ch k := rfl
      rw [em]
      by_cases y : pop (tkO T E ch (moO T E ch k)) < pop (tkO T E ch (k + 1))
      · rw [if_neg (fun x => q.mp x y), if_neg (fun x => q.mp x y), if_pos y]
        exact ⟨rfl, rfl⟩
      · rw [if_pos (q.mpr y), if_pos (q.mpr y), if_neg y]
        exact ⟨rfl, rfl⟩
  · have em : tpO T E ch (n + 1) = if (tkO T E ch n).testBit 9 = true then (match tpO T E ch n with | some x => some x | none => some n) else tpO T E ch n := rfl
    rw [q5, h6, em]
    cases hx : tpO T E ch n with
    | none =>
      rw [if_neg (fun y => y rfl)]
      by_cases y : (tkO T E ch n).testBit 9 = true
      · rw [if_pos y, if_pos y]; rfl
      · rw [if_neg y, if_neg y]
    | some x =>
      have hl := tpO_lt T E ch n x hx
      rw [if_pos (show ¬ oI (some x) = -1 from nI_m1_ne (by omega))]
      by_cases y : (tkO T E ch n).testBit 9 = true
      · rw [if_pos y]
      · rw [if_neg y]
  · have em : tcO T E ch (n + 1) = if (tkO T E ch n).testBit 9 = true then tcO T E ch n + 1 else tcO T E ch n := rfl
    rw [q6, h7, em]
    by_cases y : (tkO T E ch n).testBit 9 = true
    · rw [if_pos y, if_pos y, nI_add1]
    · rw [if_neg y, if_neg y]
      exact nI_add _ 0
def frR (σ σ' : Sg) : Prop := ∀ a c, ¬ (149 ≤ a ∧ a ≤ 161) → ¬ (a = 136 ∧ 17 ≤ c ∧ c ≤ 26) → σ' a c = σ a c
theorem frR.T {σ σ' : Sg} {T : TT} (h : frR σ σ') (hC : MT σ T) : MT σ' T := hC.fr (h 136 2 (by omega) (by omega)) fun a z1 z2 => funext fun c => h a c (by omega) (by omega)
theorem frR.E {σ σ' : Sg} {E : EE} {N : Nat} (h : frR σ σ') (hC : ME σ E N) : ME σ' E N := hC.fr (h 136 12 (by omega) (by omega)) (h 136 16 (by omega) (by omega)) fun a z1 z2 => funext fun c => h a c (by omega) (by omega)
theorem frR.M {σ σ' σ'' : Sg} (h : frR σ σ') (h2 : frM σ' σ'') : frR σ σ'' := fun a c z1 z2 => by rw [h2 a c (fun q => z2 ⟨q.1, by omega, by omega⟩) (by omega) (by omega) (by omega) (by omega) (by omega) (by omega)]; exact h a c z1 z2
theorem frR.N {σ σ' σ'' : Sg} {m : Nat} (h : frR σ σ') (h2 : frN σ' σ'' m) : frR σ σ'' := fun a c z1 z2 => by rw [h2.1 a c (by omega) (fun q => z2 ⟨q.1, by omega, by omega⟩)]; exact h a c z1 z2
theorem ct_runs (scr : ScA) (σ : Sg) {T : TT} (hT : TW T) (hC : MT σ T) {E : EE} (hE : EW E) {N ch : Nat} (hN : N < 256) (hNc : ∀ i, i < E.1 → ch.testBit i = !N.testBit i) (hV : ME σ E N) : CvA scr 3 mX11_runs [.ref 136] σ (fun σ' => MS σ' T (sim T E ch 24) 0 ∧ NT σ' T E ch 24 ∧ frR σ σ') := by
  have h10 := hT.1
  refine E_X11_runs (W_X11_runs_0 fun s1 e1 s2 e2 s3 e3 s4 e4 s5 e5 s6 e6 s7 e7 s8 e8 s9 e9 => ?_)
  have moms : ∀ (j m : Nat) (s : Sg), m + j = 24 → MS s T (sim T E ch m) 0 → NT s T E ch m → frR σ s → K_X11_runs_96 scr (nI m) s (fun σ' => MS σ' T (sim T E ch 24) 0 ∧ NT σ' T E ch 24 ∧ frR σ σ') := by
    intro j
    induction j with
    | zero =>
      intro m s hm hs hn hf
      have : m = 24 := by omega
      subst this
      exact W_X11_runs_96 ⟨fun _ => ⟨hs, hn, hf⟩, fun h => absurd (Int32.le_refl _) h⟩
    | succ j ih =>
      intro m s hm hs hn hf
      have hB := sim_B hT E ch m (by omega)
      have hG := sim_G hT E ch m (by omega)
      have hF := sim_FR hT E ch m (by omega)
      have hm' : m < 24 := by omega
      refine W_X11_runs_96 ⟨fun h => ?_, fun _ => ?_⟩
      · rw [c24, nI_le' (by omega) (by omega)] at h
        omega
      refine (ct_befalls scr s hT (hf.T hC) hE hN hNc (hf.E hV) (by omega) hB hG hs hF hm').weak fun t1 ⟨m1, k1, f1⟩ => W_X11_runs_107 ?_
      have b1 := hB.s1 E ch hm'
      have g1 : GS T (st1 T E ch m (sim T E ch m)) := (hG.to_ hB.1 _ m).ap _
      refine (ct_climbs scr t1 hT ((hf.M f1).T hC) b1 g1 m1 (gaH_lt hE ch m _ (Nat.le_refl _)) k1 hm').weak fun t2 ⟨m2, f2⟩ => W_X11_runs_112 ?_
      have m2' : MS t2 T (st2 T E ch m (st1 T E ch m (sim T E ch m))) 0 := m2
      have b2 := b1.s2 hT E ch m
      have g2 : GS T (st2 T E ch m (st1 T E ch m (sim T E ch m))) := GS.cl hT g1 b1.1 _ m (tn T) (Nat.le_refl _)
      generalize hS2 : st2 T E ch m (st1 T E ch m (sim T E ch m)) = S2 at m2' b2 g2
      have F2 : FR m S2 := by rw [← hS2]; exact (hF.to_ (g := szB T (gaS E ch m E.1) (tn T)) hm' hB.1).1
      refine (ct_bears scr t2 hT (((hf.M f1).M f2).T hC) (by omega) b2 g2 m2').weak fun t3 ⟨m3, l3, f3⟩ => W_X11_runs_116 ?_
      have b3 := b2.tr hT
      have g3 : GS T (S2.1, trT T S2.1 (ldF T S2.1) S2.2.1, S2.2.2) := by
        refine ⟨g2.1, g2.2.1, fun a ha hb => ?_, g2.2.2.2⟩
        show trT T S2.1 (ldF T S2.1) S2.2.1 a = 0
        unfold trT
        rw [if_neg (show ¬ S2.1.testBit (tpl T a) = true by rw [show S2.1.testBit (tpl T a) = false from hb]; simp)]
        exact g2.2.2.1 a ha hb
      have hsub : ∀ p, (gvB T S2.1 (ldF T S2.1) S2.2.1 (tn T)).testBit p = true → S2.1.testBit p = true := fun p h => by
        obtain ⟨a, _, h2, h3⟩ := (gvB_bit _ _).mp h
        rw [← h3]; exact h2.1
      refine (ct_allFall scr t3 hT ((((hf.M f1).M f2).M f3).T hC) (by omega) b3 g3 (gvB_lt hT _ _ _ _ (Nat.le_refl _)) hsub m3 F2 hm').weak fun t4 ⟨m4, f4⟩ => W_X11_runs_121 ?_
      have eS : toS T (S2.1, trT T S2.1 (ldF T S2.1) S2.2.1, S2.2.2) (gvB T S2.1 (ldF T S2.1) S2.2.1 (tn T)) m = sim T E ch (m + 1) := by
        show _ = st3 T m (st2 T E ch m (st1 T E ch m (sim T E ch m)))
        rw [hS2]
        rfl
      rw [eS] at m4
      have F4 : frM t3 t4 := fun a c z1 z2 z3 z4 z5 z6 z7 => f4 a c (fun q => z1 ⟨q.1, by omega⟩) z2 z3 z5 z6 z7
      have f' := (((hf.M f1).M f2).M f3).M F4
      have l4 : ∀ a, a < tn T → t4 151 a = nI (ldAt T E ch m (sim T E ch m) (tpl T a)) := fun a ha => by
        rw [f4 151 a (by omega) (by omega) (by omega) (by omega) (by omega) (by omega), l3 a ha]
        unfold ldAt
        rw [hS2]
      have n4 : NT t4 T E ch m := (((hn.fr f1).fr f2).fr f3).fr F4
      refine (ct_notes scr t4 hT (f'.T hC) (sim_B hT E ch (m + 1) (by omega)) (sim_G hT E ch (m + 1) (by omega)) m4 hm' _ l4).weak fun t5 ⟨p1, p2, f5⟩ => W_X11_runs_126 ?_
      rw [nI_add1]
      refine ih (m + 1) t5 (by omega) (m4.fr (fun c hc => f5.1 136 c (by omega) (by omega)) (fun a ha => funext fun c => f5.1 a c (by omega) (by omega))) (n4.step hm' p1 p2 f5 h10) (f'.N f5)
  have init : ∀ (j k : Nat) (s : Sg), k + j = 10 → (∀ a c, ¬ (149 ≤ a ∧ a ≤ 154) → s a c = s9 a c) → (∀ a, a < k → s 149 a = -1 ∧ s 150 a = 0 ∧ s 152 a = 0 ∧ s 153 a = -1 ∧ s 154 a = 0) → K_X11_runs_47 scr (nI k) s (fun σ' => MS σ' T (sim T E ch 24) 0 ∧ NT σ' T E ch 24 ∧ frR σ σ') := by
    intro j
    induction j with
    | zero =>
      intro k s hk hf hz
      have : k = 10 := by omega
      subst this
      have up0 : ∀ n, upN T 0 n = 0 := fun n => by
        apply Nat.eq_of_testBit_eq
        intro a
        rw [upN_bit]
        simp
      refine W_X11_runs_47 ⟨fun _ => moms 24 0 s (by omega) ⟨fun p hp => ?_, ?_, fun a ha => ?_, ?_, ?_⟩ ⟨fun m hm => by omega, ?_, ?_, fun _ => ⟨?_, ?_⟩, fun k hk => by omega, ?_, ?_⟩ (fun a c z1 z2 => ?_), fun h => absurd (Int32.le_refl _) h⟩
      · rw [(hz p hp).1]
        show _ = woI T 0 p
        unfold woI
        rw [Nat.zero_testBit]
        rfl
      · rw [hf 136 25 (by omega), e9, su_eq]
        show _ = nI (upN T 0 (tn T))
        rw [up0]
        rfl
      · obtain ⟨z1, z2, z3, z4, z5⟩ := hz a (by omega)
        refine ⟨z2, z3, z4, ?_⟩
        rw [z5, Nat.zero_testBit]
        rfl
      · rw [hf 136 18 (by omega), e9, e8, e7, e6, e5, e4, e3, e2]; simp [su]; rfl
      · rw [hf 136 19 (by omega), e9, e8, e7, e6, e5, e4, e3]; simp [su]; rfl
      · rw [hf 136 24 (by omega), e9, e8]
        show _ = nI (upN T 0 (tn T))
        rw [up0]
        simp [su]; rfl
      · rw [hf 136 17 (by omega), e9, e8, e7, e6, e5, e4, e3, e2, e1]; simp [su]; rfl
      · rw [hf 136 21 (by omega), e9, e8, e7, e6, e5]; simp [su]
      · rw [hf 136 20 (by omega), e9, e8, e7, e6, e5, e4]; simp [su]
      · rw [hf 136 22 (by omega), e9, e8, e7, e6]; simp [su]; rfl
      · rw [hf 136 23 (by omega), e9, e8, e7]; simp [su]; rfl
      · rw [hf a c (by omega), e9, e8, e7, e6, e5, e4, e3, e2, e1, frS a c (fun q => z2 ⟨q.1, by omega, by omega⟩), frS a c (fun q => z2 ⟨q.1, by omega, by omega⟩), frS a c (fun q => z2 ⟨q.1, by omega, by omega⟩), frS a c (fun q => z2 ⟨q.1, by omega, by omega⟩), frS a c (fun q => z2 ⟨q.1, by omega, by omega⟩), frS a c (fun q => z2 ⟨q.1, by omega, by omega⟩), frS a c (fun q => z2 ⟨q.1, by omega, by omega⟩), frS a c (fun q => z2 ⟨q.1, by omega, by omega⟩), frS a c (fun q => z2 ⟨q.1, by omega, by omega⟩)]
    | succ j ih =>
      intro k s hk hf hz
      refine W_X11_runs_47 ⟨fun h => ?_, fun _ => ⟨inB_nI (by omega) (by decide), fun t1 d1 t2 d2 t3 d3 t4 d4 t5 d5 => ?_⟩⟩
      · rw [c10, nI_le' (by omega) (by omega)] at h
        omega
      rw [tN_nI (by omega)] at d1 d2 d3 d4 d5
      rw [nI_add1]
      refine ih (k + 1) t5 (by omega) (fun a c z => ?_) (fun a ha => ?_)
      · rw [d5, d4, d3, d2, d1, su_off _ _ _ _ (by omega), su_off _ _ _ _ (by omega), su_off _ _ _ _ (by omega), su_off _ _ _ _ (by omega), su_off _ _ _ _ (by omega)]
        exact hf a c z
      · rw [d5, d4, d3, d2, d1]
        by_cases y : a = k
        · subst y
          refine ⟨?_, ?_, ?_, ?_, ?_⟩ <;> simp [su]
        · obtain ⟨z1, z2, z3, z4, z5⟩ := hz a (by omega)
          refine ⟨?_, ?_, ?_, ?_, ?_⟩ <;> simp [su, y, z1, z2, z3, z4, z5]
  exact init 10 0 s9 (by omega) (fun _ _ _ => rfl) (fun a ha => by omega)
