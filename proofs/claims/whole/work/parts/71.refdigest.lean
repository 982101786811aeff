/-! the reference: the digest -/
theorem ql_at4 (scr : ScA) (b : AB) {a m : Nat} (ha : a < tn (aT b)) (hm : m < 24) (H : Int64) : QL scr 8 mX11_atDigest [.ref 136, .long H, .int (nI m), .int (nI a)] b (foG (fun w h => mi h (sv_at b (nI m) (nI a) (nI w))) H 4) := by
  intro σ hR
  have h10 := hR.1.T.1
  have z1 : ¬ isW (nI m) 24 = 0 := by rw [c24, isW_nI (by omega) (by omega), if_pos hm]; decide
  have z2 : ¬ isW (nI a) (nI (tn (aT b))) = 0 := by rw [isW_nI (by omega) (by omega), if_pos ha]; decide
  refine E_X11_atDigest (W_X11_atDigest_0 ?_)
  have step : ∀ (w : Nat), w < 4 → ∀ s, RM s b → CiA scr 7 mX11_atOf [.ref 136, .int (nI m), .int (nI a), .int (nI w)] s (fun r σ' => r = sv_at b (nI m) (nI a) (nI w) ∧ MT σ' (aT b) ∧ frW s σ') := fun w hw => qi_at scr b z1 z2 (by rw [c4, isW_nI (by omega) (by omega), if_pos hw]; decide)
  have key : ∀ (j w : Nat) (s : Sg), w + j = 4 → (0 < w → MT s (aT b)) → frW σ s → K_X11_atDigest_6 scr (nI m) (nI a) (foG (fun w h => mi h (sv_at b (nI m) (nI a) (nI w))) H w) (nI w) s (fun r σ' => r = foG (fun w h => mi h (sv_at b (nI m) (nI a) (nI w))) H 4 ∧ MT σ' (aT b) ∧ frW σ σ') := by
    intro j
    induction j with
    | zero =>
      intro w s hw hM f
      have : w = 4 := by omega
      subst this
      exact W_X11_atDigest_6 ⟨fun _ => ⟨rfl, hM (by omega), f⟩, fun h => absurd (Int32.le_refl _) h⟩
    | succ j ih =>
      intro w s hw hM f
      refine W_X11_atDigest_6 ⟨fun h => ?_, fun _ => ?_⟩
      · rw [c4, nI_le' (by omega) (by omega)] at h
        omega
      refine (step w (by omega) s (f.rm hR)).weak fun r2 s2 ⟨e2, M2, f2⟩ => W_X11_atDigest_27 ?_
      rw [nI_add1, e2]
      exact ih (w + 1) s2 (by omega) (fun _ => M2) (f.tr f2)
  exact key 4 0 σ (by omega) (fun h => by omega) (frW.refl σ)
theorem ao_sv {b : AB} (hW : AW b) {σ : Sg} (h : MT σ (aT b)) {a w : Nat} (ha : a < tn (aT b)) (hw : w < 5) : aoV σ (nI a) (nI w) = sv_acrobat b (nI a) (nI w) := by
  have h10 := hW.T.1
  unfold sv_acrobat
  rw [ao_nI h ha h10, if_neg (show ¬ isW (nI a) (nI (tn (aT b))) = 0 by rw [isW_nI (by omega) (by omega), if_pos ha]; decide), tN_nI (by omega)]
  rcases (by omega : w = 0 ∨ w = 1 ∨ w = 2 ∨ w = 3 ∨ w = 4) with rfl | rfl | rfl | rfl | rfl <;> rfl
theorem dgB_eq (b : AB) (a : Nat) (h : Int64) : foG (fun w h => mi h (sv_at b (nI 23) (nI a) (nI w))) (foG (fun w h => mi h (sv_at b (nI 17) (nI a) (nI w))) (foG (fun w h => mi h (sv_at b (nI 10) (nI a) (nI w))) (foG (fun w h => mi h (sv_at b (nI 4) (nI a) (nI w))) (foG (fun w h => mi h (sv_at b (nI 0) (nI a) (nI w))) (foG (fun w h => mi h (sv_acrobat b (nI a) (nI w))) h 5) 4) 4) 4) 4) 4 = dgB b a h := by
  unfold dgB
  generalize foG (fun w h => mi h (sv_acrobat b (nI a) (nI w))) h 5 = H
  rfl
theorem ql_acr (scr : ScA) (b : AB) {a : Nat} (ha : a < tn (aT b)) (h : Int64) (σ : Sg) (hR : RM σ b) (hM : MT σ (aT b)) : ClA scr 9 mX11_acrobatDigest [.ref 136, .long h, .int (nI a)] σ (fun r σ' => r = dgA b a h ∧ MT σ' (aT b) ∧ frW σ σ') := by
  have h10 := hR.1.T.1
  have z2 : ¬ isW (nI a) (nI (tn (aT b))) = 0 := by rw [isW_nI (by omega) (by omega), if_pos ha]; decide
  refine E_X11_acrobatDigest (W_X11_acrobatDigest_0 ?_)
  have vw0 : sv_was b (nI a) 0 = nI (sgF (aT b) (aE b) (aI b) a 9) := by
    unfold sv_was
    rw [if_neg (fun z => z.elim z2 (by decide)), if_pos rfl, tN_nI (by omega)]
  have vw1 : sv_was b (nI a) 1 = nI (wtF (aT b) (aE b) (aI b) a 9) := by
    unfold sv_was
    rw [if_neg (fun z => z.elim z2 (by decide)), if_neg (by decide), tN_nI (by omega)]
  have va : sv_ask b (nI a) = nI (askN (aT b) (aE b) (aI b) a) := by
    unfold sv_ask
    rw [if_neg z2, tN_nI (by omega)]
  have tail : ∀ s : Sg, frW σ s → K_X11_acrobatDigest_86 scr (nI a) (dgB b a h) s (fun r σ' => r = dgA b a h ∧ MT σ' (aT b) ∧ frW σ σ') := fun s f1 =>
    W_X11_acrobatDigest_86 ((qi_come scr b z2 (w := 0) (by decide) s (f1.rm hR)).weak fun r2 s2 ⟨e2, M2, f2⟩ => W_X11_acrobatDigest_100 ((qi_come scr b z2 (w := 1) (by decide) s2 ((f1.tr f2).rm hR)).weak fun r3 s3 ⟨e3, M3, f3⟩ => W_X11_acrobatDigest_116 ((qi_strengths scr b ha s3 (((f1.tr f2).tr f3).rm hR)).weak fun r4 s4 ⟨e4, M4, f4⟩ => W_X11_acrobatDigest_131 ((qi_weights scr b ha s4 ((((f1.tr f2).tr f3).tr f4).rm hR)).weak fun r5 s5 ⟨e5, M5, f5⟩ => W_X11_acrobatDigest_146 ((qi_ask scr b ha s5 (((((f1.tr f2).tr f3).tr f4).tr f5).rm hR)).weak fun r6 s6 ⟨e6, M6, f6⟩ => W_X11_acrobatDigest_161 ⟨by
      rw [e2, e3, e4, e5, e6, ← vw0, ← vw1, ← va]
      rfl, M6, ((((f1.tr f2).tr f3).tr f4).tr f5).tr f6⟩)))))
  have fst : ∀ (j w : Nat), w + j = 5 → K_X11_acrobatDigest_6 scr (nI a) (foG (fun w h => mi h (sv_acrobat b (nI a) (nI w))) h w) (nI w) σ (fun r σ' => r = dgA b a h ∧ MT σ' (aT b) ∧ frW σ σ') := by
    intro j
    induction j with
    | zero =>
      intro w hw
      have : w = 5 := by omega
      subst this
      refine W_X11_acrobatDigest_6 ⟨fun _ => ?_, fun h => absurd (Int32.le_refl _) h⟩
      refine (ql_at4 scr b ha (m := 0) (by omega) _ σ hR).weak fun r2 s2 ⟨e2, M2, f2⟩ => W_X11_acrobatDigest_43 ?_
      refine (ql_at4 scr b ha (m := 4) (by omega) _ s2 (f2.rm hR)).weak fun r3 s3 ⟨e3, M3, f3⟩ => W_X11_acrobatDigest_53 ?_
      refine (ql_at4 scr b ha (m := 10) (by omega) _ s3 ((f2.tr f3).rm hR)).weak fun r4 s4 ⟨e4, M4, f4⟩ => W_X11_acrobatDigest_64 ?_
      refine (ql_at4 scr b ha (m := 17) (by omega) _ s4 (((f2.tr f3).tr f4).rm hR)).weak fun r5 s5 ⟨e5, M5, f5⟩ => W_X11_acrobatDigest_75 ?_
      refine (ql_at4 scr b ha (m := 23) (by omega) _ s5 ((((f2.tr f3).tr f4).tr f5).rm hR)).weak fun r6 s6 ⟨e6, M6, f6⟩ => ?_
      rw [e6, e5, e4, e3, e2, dgB_eq]
      exact tail s6 ((((f2.tr f3).tr f4).tr f5).tr f6)
    | succ j ih =>
      intro w hw
      refine W_X11_acrobatDigest_6 ⟨fun h => ?_, fun _ => ⟨inB_nI (by omega) (by decide), ?_⟩⟩
      · rw [show (5 : Int32) = nI 5 from rfl, nI_le' (by omega) (by omega)] at h
        omega
      rw [ao_sv hR.1 hM ha (by omega), nI_add1]
      exact ih (w + 1) (by omega)
  exact fst 5 0 (by omega)
theorem om_digest (scr : ScA) (b : AB) : OmL scr 10 mX11_digest [.ref 136] b (sv_digest b) := by
  intro σ hR
  have h10 := hR.1.T.1
  refine E_X11_digest (W_X11_digest_0 ?_)
  have d2 : ∀ {w : Int32}, w = 0 ∨ w = 1 → ¬ isW w 2 = 0 := fun h => by rcases h with rfl | rfl <;> decide
  have tl : ∀ s : Sg, frW σ s → CiA scr 7 mX11_trainOf [.ref 136, .int 0] s (fun r9 σ' => K_X11_digest_306 scr (31 * dg8 b) r9 σ' (fun r σ' => r = sv_digest b ∧ RM σ' b ∧ ∀ x, x < 136 → σ' x = σ x)) := fun s f1 =>
    (qi_train scr b (w := 0) (by decide) s (f1.rm hR)).weak fun r2 s2 ⟨e2, _, f2⟩ => W_X11_digest_306 ((qi_train scr b (w := 1) (by decide) s2 ((f1.tr f2).rm hR)).weak fun r3 s3 ⟨e3, _, f3⟩ => W_X11_digest_319 ((ct_spareBy scr s3 (((f1.tr f2).tr f3).rm hR)).weak fun r4 s4 ⟨e4, _, f4⟩ => W_X11_digest_326 ⟨fun _ _ => by decide, (qi_never scr b s4 ((((f1.tr f2).tr f3).tr f4).rm hR)).weak fun r6 s6 ⟨e6, _, f6⟩ => W_X11_digest_359 ((qi_years scr b (x := 7) (n := 6) (w := 0) (by decide) (by decide) s6 (((((f1.tr f2).tr f3).tr f4).tr f6).rm hR)).weak fun r7 s7 ⟨e7, _, f7⟩ => W_X11_digest_376 ((qi_years scr b (x := 7) (n := 6) (w := 1) (by decide) (by decide) s7 ((((((f1.tr f2).tr f3).tr f4).tr f6).tr f7).rm hR)).weak fun r8 s8 ⟨e8, _, f8⟩ => W_X11_digest_393 ⟨by
      have v1 : sv_spare b (-1) = r4 := e4.1.symm
      have v2 : sv_spare b 0 = orV s4 r4 0 := e4.2.1.symm
      rw [e2, e3, e6, e7, e8, ← v1, v1, ← v2, ← v1]
      rfl, ((((((f1.tr f2).tr f3).tr f4).tr f6).tr f7).tr f8).rm hR, ((((((f1.tr f2).tr f3).tr f4).tr f6).tr f7).tr f8).lo⟩))⟩))
  have sw : ∀ (j i : Nat) (s : Sg), i + j = 3 → frW σ s → K_X11_digest_272 scr (foG (fun i h => mi h (sv_swap b (nI i))) (dg7 b) i) (nI i) s (fun r σ' => r = sv_digest b ∧ RM σ' b ∧ ∀ x, x < 136 → σ' x = σ x) := by
    intro j
    induction j with
    | zero =>
      intro i s hi f1
      have : i = 3 := by omega
      subst this
      exact W_X11_digest_272 ⟨fun _ => tl s f1, fun h => absurd (Int32.le_refl _) h⟩
    | succ j ih =>
      intro i s hi f1
      refine W_X11_digest_272 ⟨fun h => ?_, fun _ => ?_⟩
      · rw [c3, nI_le' (by omega) (by omega)] at h
        omega
      refine (qi_swap scr b (w := nI i) (by rw [c3, isW_nI (by omega) (by omega), if_pos (by omega)]; decide) s (f1.rm hR)).weak fun r2 s2 ⟨e2, _, f2⟩ => W_X11_digest_287 ?_
      rw [nI_add1, e2]
      exact ih (i + 1) s2 (by omega) (f1.tr f2)
  have mid : ∀ s : Sg, frW σ s → CiA scr 7 mX11_topOf [.ref 136, .int 0] s (fun r9 σ' => K_X11_digest_204 scr (31 * dg5 b) r9 σ' (fun r σ' => r = sv_digest b ∧ RM σ' b ∧ ∀ x, x < 136 → σ' x = σ x)) := fun s f1 =>
    (qi_top scr b (w := 0) (by decide) s (f1.rm hR)).weak fun r2 s2 ⟨e2, _, f2⟩ => W_X11_digest_204 ((qi_top scr b (w := 1) (by decide) s2 ((f1.tr f2).rm hR)).weak fun r3 s3 ⟨e3, _, f3⟩ => W_X11_digest_217 ((qi_most scr b (w := 0) (by decide) s3 (((f1.tr f2).tr f3).rm hR)).weak fun r4 s4 ⟨e4, _, f4⟩ => W_X11_digest_230 ((qi_most scr b (w := 1) (by decide) s4 ((((f1.tr f2).tr f3).tr f4).rm hR)).weak fun r5 s5 ⟨e5, _, f5⟩ => W_X11_digest_243 ((qi_clumsy scr b s5 (((((f1.tr f2).tr f3).tr f4).tr f5).rm hR)).weak fun r6 s6 ⟨e6, _, f6⟩ => W_X11_digest_255 ((qi_down scr b s6 ((((((f1.tr f2).tr f3).tr f4).tr f5).tr f6).rm hR)).weak fun r7 s7 ⟨e7, _, f7⟩ => W_X11_digest_267 (by
      rw [e2, e3, e4, e5, e6, e7]
      exact sw 3 0 s7 (by omega) ((((((f1.tr f2).tr f3).tr f4).tr f5).tr f6).tr f7)))))))
  have chn : ∀ s : Sg, frW σ s → ClA scr 6 mX11_chanceOf [.ref 136, .int 5, .int 5, .int 0] s (fun r9 σ' => K_X11_digest_148 scr (31 * dg4 b) r9 σ' (fun r σ' => r = sv_digest b ∧ RM σ' b ∧ ∀ x, x < 136 → σ' x = σ x)) := fun s f1 =>
    (ql_chance scr b (c := 5) (m := 5) (w := 0) (by decide) (by decide) (by decide) s (f1.rm hR)).weak fun r2 s2 ⟨e2, _, f2⟩ => W_X11_digest_148 ((ql_chance scr b (c := 5) (m := 5) (w := 1) (by decide) (by decide) (by decide) s2 ((f1.tr f2).rm hR)).weak fun r3 s3 ⟨e3, _, f3⟩ => W_X11_digest_162 ((ql_chance scr b (c := 5) (m := 15) (w := 0) (by decide) (by decide) (by decide) s3 (((f1.tr f2).tr f3).rm hR)).weak fun r4 s4 ⟨e4, _, f4⟩ => W_X11_digest_177 ((ql_chance scr b (c := 5) (m := 15) (w := 1) (by decide) (by decide) (by decide) s4 ((((f1.tr f2).tr f3).tr f4).rm hR)).weak fun r5 s5 ⟨e5, _, f5⟩ => W_X11_digest_192 (by
      rw [e2, e3, e4, e5]
      exact mid s5 ((((f1.tr f2).tr f3).tr f4).tr f5)))))
  have acr : ∀ (j a : Nat) (s : Sg), a + j = tn (aT b) → MT s (aT b) → frW σ s → K_X11_digest_115 scr (foG (fun a h => dgA b a h) (dg3 b) a) (nI a) s (fun r σ' => r = sv_digest b ∧ RM σ' b ∧ ∀ x, x < 136 → σ' x = σ x) := by
    intro j
    induction j with
    | zero =>
      intro a s ha M f1
      have : a = tn (aT b) := by omega
      subst this
      rw [dg4_eq]
      exact W_X11_digest_115 ⟨fun _ => chn s f1, fun h => absurd (by rw [M.1]; exact Int32.le_refl _) h⟩
    | succ j ih =>
      intro a s ha M f1
      refine W_X11_digest_115 ⟨fun h => ?_, fun _ => ?_⟩
      · rw [M.1, nI_le' (by omega) (by omega)] at h
        omega
      refine (ql_acr scr b (a := a) (by omega) _ s (f1.rm hR) M).weak fun r2 s2 ⟨e2, M2, f2⟩ => W_X11_digest_129 ?_
      rw [nI_add1, e2]
      exact ih (a + 1) s2 (by omega) M2 (f1.tr f2)
  have mom : ∀ (j m : Nat) (s : Sg), m + j = 24 → MT s (aT b) → frW σ s → K_X11_digest_45 scr (foG (fun m h => mi (mi (mi (mi h (sv_tower b (nI m) 0)) (sv_tower b (nI m) 1)) (sv_stands b (nI m) 0)) (sv_stands b (nI m) 5)) (dg2 b) m) (nI m) s (fun r σ' => r = sv_digest b ∧ RM σ' b ∧ ∀ x, x < 136 → σ' x = σ x) := by
    intro j
    induction j with
    | zero =>
      intro m s hm M f1
      have : m = 24 := by omega
      subst this
      rw [dg3_eq]
      refine W_X11_digest_45 ⟨fun _ => ?_, fun h => absurd (Int32.le_refl _) h⟩
      have h9 := acr (tn (aT b)) 0 s (by omega) M f1
      rw [foG0] at h9
      exact h9
    | succ j ih =>
      intro m s hm M f1
      refine W_X11_digest_45 ⟨fun h => ?_, fun _ => ?_⟩
      · rw [c24, nI_le' (by omega) (by omega)] at h
        omega
      have z1 : ¬ isW (nI m) 24 = 0 := by rw [c24, isW_nI (by omega) (by omega), if_pos (by omega)]; decide
      refine (qi_tower scr b z1 (w := 0) (by decide) s (f1.rm hR)).weak fun r2 s2 ⟨e2, _, f2⟩ => W_X11_digest_62 ((qi_tower scr b z1 (w := 1) (by decide) s2 ((f1.tr f2).rm hR)).weak fun r3 s3 ⟨e3, _, f3⟩ => W_X11_digest_76 ((qi_stands scr b z1 (p := 0) (by decide) s3 (((f1.tr f2).tr f3).rm hR)).weak fun r4 s4 ⟨e4, _, f4⟩ => W_X11_digest_90 ((qi_stands scr b z1 (p := 5) (by decide) s4 ((((f1.tr f2).tr f3).tr f4).rm hR)).weak fun r5 s5 ⟨e5, M5, f5⟩ => W_X11_digest_104 ?_)))
      rw [nI_add1, e2, e3, e4, e5]
      exact ih (m + 1) s5 (by omega) M5 ((((f1.tr f2).tr f3).tr f4).tr f5)
  have cnt : ∀ (j i : Nat) (s : Sg), i + j = 8 → frW σ s → K_X11_digest_6 scr (foG (fun i h => mi h (sv_count b (nI i))) 17 i) (nI i) s (fun r σ' => r = sv_digest b ∧ RM σ' b ∧ ∀ x, x < 136 → σ' x = σ x) := by
    intro j
    induction j with
    | zero =>
      intro i s hi f1
      have : i = 8 := by omega
      subst this
      refine W_X11_digest_6 ⟨fun _ => (qi_fault scr b s (f1.rm hR)).weak fun r2 s2 ⟨e2, M2, f2⟩ => W_X11_digest_40 ?_, fun h => absurd (Int32.le_refl _) h⟩
      rw [e2]
      have h9 := mom 24 0 s2 (by omega) M2 (f1.tr f2)
      rw [foG0] at h9
      exact h9
    | succ j ih =>
      intro i s hi f1
      refine W_X11_digest_6 ⟨fun h => ?_, fun _ => ?_⟩
      · rw [c8, nI_le' (by omega) (by omega)] at h
        omega
      refine (qf_count scr b (nI i) s (f1.rm hR)).weak fun r2 s2 ⟨e2, f2⟩ => W_X11_digest_22 ?_
      rw [nI_add1, e2]
      exact ih (i + 1) s2 (by omega) (f1.tr f2)
  exact cnt 8 0 σ (by omega) (frW.refl σ)
