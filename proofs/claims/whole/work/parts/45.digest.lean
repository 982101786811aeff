/-! count, digest -/
def sv_count (b : AB) (x : Int32) : Int32 := if x = 0 then nI (tn (aT b)) else if x = 1 then nI (aL b) else if x = 2 then nI (aE b).1 else if x = 3 then sv_sum b 0 else if x = 4 then sv_sum b 1 else if x = 5 then sv_tower b 23 0 else if x = 6 then sv_tower b 23 1 else if x = 7 then nI (aI b).1 else if x = 8 then aF b else -2
theorem ok_count (scr : ScA) (b : AB) (x : Int32) : OkC scr 6 mX10_count [.ref 0, .int x] b (qb (sv_count b x) b) := by
  intro σ hR
  obtain ⟨hW, hB, -⟩ := id hR
  refine E_X10_count (W_X10_count_0 ⟨fun h => ?_, fun h => ?_, fun h => ?_, fun h => ?_, fun h => ?_, fun h => ?_, fun h => ?_, fun h => ?_, fun h => ?_, fun n0 n1 n2 n3 n4 n5 n6 n7 n8 => ?_⟩)
  · subst h; exact ⟨hB.2.1.1, hR, fun _ _ => rfl⟩
  · subst h; exact ⟨hB.1.1, hR, fun _ _ => rfl⟩
  · subst h; exact ⟨hB.2.2.2.1.1, hR, fun _ _ => rfl⟩
  · subst h; exact (ok_sum scr b 0 σ hR).weak fun r s ⟨h1, h2, h3⟩ => W_X10_count_81 ⟨h1, h2, h3⟩
  · subst h; exact (ok_sum scr b 1 σ hR).weak fun r s ⟨h1, h2, h3⟩ => W_X10_count_87 ⟨h1, h2, h3⟩
  · subst h; exact (ok_tower scr b 23 0 σ hR).weak fun r s ⟨h1, h2, h3⟩ => W_X10_count_95 ⟨h1, h2, h3⟩
  · subst h; exact (ok_tower scr b 23 1 σ hR).weak fun r s ⟨h1, h2, h3⟩ => W_X10_count_103 ⟨h1, h2, h3⟩
  · subst h; exact ⟨hB.2.2.2.2.1.1, hR, fun _ _ => rfl⟩
  · subst h; exact ⟨hB.2.2.2.2.2.2, hR, fun _ _ => rfl⟩
  · refine ⟨?_, hR, fun _ _ => rfl⟩
    show (-2 : Int32) = sv_count b x
    unfold sv_count
    rw [if_neg n0, if_neg n1, if_neg n2, if_neg n3, if_neg n4, if_neg n5, if_neg n6, if_neg n7, if_neg n8]
def mi (h : Int64) (v : Int32) : Int64 := 31 * h + v.toInt64
def ml (h v : Int64) : Int64 := 31 * h + v
def foG (g : Nat → Int64 → Int64) (h : Int64) : Nat → Int64
  | 0 => h
  | n + 1 => g n (foG g h n)
def dmN (i : Nat) : Nat := ([0, 4, 10, 17, 23] : List Nat).getD i 0
theorem tb3 (scr : ScA) {p : Nat} (hp : p < 5) : tbV scr 3 p = nI (dmN p) := (by decide : ∀ p, p < 5 → (tbL 3).getD p 0 = nI (dmN p)) p hp
def dgB (b : AB) (a : Nat) (h : Int64) : Int64 := foG (fun i h => foG (fun w h => mi h (sv_at b (nI (dmN i)) (nI a) (nI w))) h 4) (foG (fun w h => mi h (sv_acrobat b (nI a) (nI w))) h 5) 5
def dgA (b : AB) (a : Nat) (h : Int64) : Int64 := mi (mi (mi (mi (mi (dgB b a h) (sv_come b (nI a) 0)) (sv_come b (nI a) 1)) (sv_was b (nI a) 0)) (sv_was b (nI a) 1)) (sv_ask b (nI a))
theorem ok_mixed (scr : ScA) (b : AB) {a : Nat} (ha : a < 10) (h : Int64) : OkL scr 6 mX10_mixedWithAcrobat [.ref 0, .long h, .int (nI a)] b (dgA b a h) := by
  intro σ hR
  refine E_X10_mixedWithAcrobat (W_X10_mixedWithAcrobat_0 ?_)
  have tail : ∀ s : Sg, RC s b → (∀ x, 136 ≤ x → s x = σ x) → CiA scr 5 mX10_come [.ref 0, .int (nI a), .int 0] s (fun r9 σ' => K_X10_mixedWithAcrobat_106 scr (nI a) (dgB b a h) r9 σ' (fun r σ' => r = dgA b a h ∧ RC σ' b ∧ ∀ x, 136 ≤ x → σ' x = σ x)) := fun s R1 f1 =>
    (ok_come scr b (nI a) 0 s R1).weak fun r2 s2 ⟨e2, R2, f2⟩ => W_X10_mixedWithAcrobat_106 ((ok_come scr b (nI a) 1 s2 R2).weak fun r3 s3 ⟨e3, R3, f3⟩ => W_X10_mixedWithAcrobat_120 ((ok_was scr b (nI a) 0 s3 R3).weak fun r4 s4 ⟨e4, R4, f4⟩ => W_X10_mixedWithAcrobat_134 ((ok_was scr b (nI a) 1 s4 R4).weak fun r5 s5 ⟨e5, R5, f5⟩ => W_X10_mixedWithAcrobat_148 ((ok_ask scr b (nI a) s5 R5).weak fun r6 s6 ⟨e6, R6, f6⟩ => W_X10_mixedWithAcrobat_161 ⟨by rw [e2, e3, e4, e5, e6]; rfl, R6, fun x hx => by rw [f6 x hx, f5 x hx, f4 x hx, f3 x hx, f2 x hx, f1 x hx]⟩))))
  have lat : ∀ (j i : Nat) (s : Sg), i + j = 5 → RC s b → (∀ x, 136 ≤ x → s x = σ x) → K_X10_mixedWithAcrobat_46 scr (nI a) (foG (fun i h => foG (fun w h => mi h (sv_at b (nI (dmN i)) (nI a) (nI w))) h 4) (foG (fun w h => mi h (sv_acrobat b (nI a) (nI w))) h 5) i) 5 (nI i) s (fun r σ' => r = dgA b a h ∧ RC σ' b ∧ ∀ x, 136 ≤ x → σ' x = σ x) := by
    intro j
    induction j with
    | zero =>
      intro i s hi R1 f1
      have : i = 5 := by omega
      subst this
      exact W_X10_mixedWithAcrobat_46 ⟨fun _ => tail s R1 f1, fun h => absurd (Int32.le_refl _) h⟩
    | succ j ih =>
      intro i s hi R1 f1
      refine W_X10_mixedWithAcrobat_46 ⟨fun h => ?_, fun _ => ⟨inB_nI (by omega) (by decide), ?_⟩⟩
      · rw [show (5 : Int32) = nI 5 from rfl, nI_le' (by omega) (by omega)] at h
        omega
      rw [tN_nI (by omega), tb3 scr (by omega)]
      generalize hH : foG (fun i h => foG (fun w h => mi h (sv_at b (nI (dmN i)) (nI a) (nI w))) h 4) (foG (fun w h => mi h (sv_acrobat b (nI a) (nI w))) h 5) i = H
      have inn : ∀ (f w : Nat) (s : Sg), w + f = 4 → RC s b → (∀ x, 136 ≤ x → s x = σ x) → K_X10_mixedWithAcrobat_63 scr (nI a) (foG (fun w h => mi h (sv_at b (nI (dmN i)) (nI a) (nI w))) H w) 5 (nI i) (nI (dmN i)) (nI w) s (fun r σ' => r = dgA b a h ∧ RC σ' b ∧ ∀ x, 136 ≤ x → σ' x = σ x) := by
        intro f
        induction f with
        | zero =>
          intro w s hw R1 f1
          have : w = 4 := by omega
          subst this
          refine W_X10_mixedWithAcrobat_63 ⟨fun _ => ?_, fun h => absurd (Int32.le_refl _) h⟩
          rw [nI_add1, ← hH]
          exact ih (i + 1) s (by omega) R1 f1
        | succ f ih2 =>
          intro w s hw R1 f1
          refine W_X10_mixedWithAcrobat_63 ⟨fun h => ?_, fun _ => ?_⟩
          · rw [c4, nI_le' (by omega) (by omega)] at h
            omega
          refine (ok_at scr b (nI (dmN i)) (nI a) (nI w) s R1).weak fun r2 s2 ⟨e2, R2, f2⟩ => W_X10_mixedWithAcrobat_80 ?_
          rw [nI_add1, e2]
          exact ih2 (w + 1) s2 (by omega) R2 (fun x hx => by rw [f2 x hx, f1 x hx])
      exact inn 4 0 s (by omega) R1 f1
  have fst : ∀ (j w : Nat) (s : Sg), w + j = 5 → RC s b → (∀ x, 136 ≤ x → s x = σ x) → K_X10_mixedWithAcrobat_6 scr (nI a) (foG (fun w h => mi h (sv_acrobat b (nI a) (nI w))) h w) (nI w) s (fun r σ' => r = dgA b a h ∧ RC σ' b ∧ ∀ x, 136 ≤ x → σ' x = σ x) := by
    intro j
    induction j with
    | zero =>
      intro w s hw R1 f1
      have : w = 5 := by omega
      subst this
      exact W_X10_mixedWithAcrobat_6 ⟨fun _ => lat 5 0 s (by omega) R1 f1, fun h => absurd (Int32.le_refl _) h⟩
    | succ j ih =>
      intro w s hw R1 f1
      refine W_X10_mixedWithAcrobat_6 ⟨fun h => ?_, fun _ => ?_⟩
      · rw [show (5 : Int32) = nI 5 from rfl, nI_le' (by omega) (by omega)] at h
        omega
      refine (ok_acrobat scr b (nI a) (nI w) s R1).weak fun r2 s2 ⟨e2, R2, f2⟩ => W_X10_mixedWithAcrobat_21 ?_
      rw [nI_add1, e2]
      exact ih (w + 1) s2 (by omega) R2 (fun x hx => by rw [f2 x hx, f1 x hx])
  exact fst 5 0 σ (by omega) hR (fun _ _ => rfl)
def dg2 (b : AB) : Int64 := mi (foG (fun i h => mi h (sv_count b (nI i))) 17 8) (fauI (aB b) (aL b))
def dg3 (b : AB) : Int64 := foG (fun m h => mi (mi (mi (mi h (sv_tower b (nI m) 0)) (sv_tower b (nI m) 1)) (sv_stands b (nI m) 0)) (sv_stands b (nI m) 5)) (dg2 b) 24
def dg4 (b : AB) : Int64 := foG (fun a h => dgA b a h) (dg3 b) (tn (aT b))
def dg5 (b : AB) : Int64 := ml (ml (ml (ml (dg4 b) (sv_chance b 5 5 0)) (sv_chance b 5 5 1)) (sv_chance b 5 15 0)) (sv_chance b 5 15 1)
def dg7 (b : AB) : Int64 := mi (mi (mi (mi (mi (mi (dg5 b) (sv_top b 0)) (sv_top b 1)) (sv_most b 0)) (sv_most b 1)) (sv_clumsy b)) (sv_down b)
def dg8 (b : AB) : Int64 := foG (fun i h => mi h (sv_swap b (nI i))) (dg7 b) 3
def sv_digest (b : AB) : Int64 := mi (mi (mi (mi (mi (mi (mi (dg8 b) (sv_train b 0)) (sv_train b 1)) (sv_spare b (-1))) (sv_spare b 0)) (sv_never b)) (sv_years b 7 6 0)) (sv_years b 7 6 1)
theorem foG0 (g : Nat → Int64 → Int64) (h : Int64) : foG g h 0 = h := rfl
theorem dg3_eq (b : AB) : foG (fun m h => mi (mi (mi (mi h (sv_tower b (nI m) 0)) (sv_tower b (nI m) 1)) (sv_stands b (nI m) 0)) (sv_stands b (nI m) 5)) (dg2 b) 24 = dg3 b := by
  unfold dg3
  rfl
theorem dg4_eq (b : AB) : foG (fun a h => dgA b a h) (dg3 b) (tn (aT b)) = dg4 b := by
  unfold dg4
  rfl
theorem ok_digest (scr : ScA) (b : AB) : OkL scr 7 mX10_digest [.ref 0] b (sv_digest b) := by
  intro σ hR
  have h10 := hR.1.T.1
  refine E_X10_digest (W_X10_digest_0 ?_)
  have pt : ∀ {s s2 : Sg}, (∀ x, 136 ≤ x → s x = σ x) → (∀ x, 136 ≤ x → s2 x = s x) → ∀ x, 136 ≤ x → s2 x = σ x := fun h1 h2 x hx => by rw [h2 x hx, h1 x hx]
  have tl : ∀ s : Sg, RC s b → (∀ x, 136 ≤ x → s x = σ x) → CiA scr 5 mX10_train [.ref 0, .int 0] s (fun r9 σ' => K_X10_digest_259 scr (dg8 b) r9 σ' (fun r σ' => r = sv_digest b ∧ RC σ' b ∧ ∀ x, 136 ≤ x → σ' x = σ x)) := fun s R1 f1 =>
    (ok_train scr b 0 s R1).weak fun r2 s2 ⟨e2, R2, f2⟩ => W_X10_digest_259 ((ok_train scr b 1 s2 R2).weak fun r3 s3 ⟨e3, R3, f3⟩ => W_X10_digest_270 ((ok_spare scr b (-1) s3 R3).weak fun r4 s4 ⟨e4, R4, f4⟩ => W_X10_digest_281 ((ok_spare scr b 0 s4 R4).weak fun r5 s5 ⟨e5, R5, f5⟩ => W_X10_digest_292 ((ok_never scr b s5 R5).weak fun r6 s6 ⟨e6, R6, f6⟩ => W_X10_digest_302 ((ok_years scr b 7 6 0 s6 R6).weak fun r7 s7 ⟨e7, R7, f7⟩ => W_X10_digest_317 ((ok_years scr b 7 6 1 s7 R7).weak fun r8 s8 ⟨e8, R8, f8⟩ => W_X10_digest_332 ⟨by rw [e2, e3, e4, e5, e6, e7, e8]; rfl, R8, pt (pt (pt (pt (pt (pt (pt f1 f2) f3) f4) f5) f6) f7) f8⟩))))))
  have sw : ∀ (j i : Nat) (s : Sg), i + j = 3 → RC s b → (∀ x, 136 ≤ x → s x = σ x) → K_X10_digest_231 scr (foG (fun i h => mi h (sv_swap b (nI i))) (dg7 b) i) (nI i) s (fun r σ' => r = sv_digest b ∧ RC σ' b ∧ ∀ x, 136 ≤ x → σ' x = σ x) := by
    intro j
    induction j with
    | zero =>
      intro i s hi R1 f1
      have : i = 3 := by omega
      subst this
      exact W_X10_digest_231 ⟨fun _ => tl s R1 f1, fun h => absurd (Int32.le_refl _) h⟩
    | succ j ih =>
      intro i s hi R1 f1
      refine W_X10_digest_231 ⟨fun h => ?_, fun _ => ?_⟩
      · rw [c3, nI_le' (by omega) (by omega)] at h
        omega
      refine (ok_swap scr b (nI i) s R1).weak fun r2 s2 ⟨e2, R2, f2⟩ => W_X10_digest_242 ?_
      rw [nI_add1, e2]
      exact ih (i + 1) s2 (by omega) R2 (pt f1 f2)
  have mid : ∀ s : Sg, RC s b → (∀ x, 136 ≤ x → s x = σ x) → CiA scr 5 mX10_top [.ref 0, .int 0] s (fun r9 σ' => K_X10_digest_171 scr (dg5 b) r9 σ' (fun r σ' => r = sv_digest b ∧ RC σ' b ∧ ∀ x, 136 ≤ x → σ' x = σ x)) := fun s R1 f1 =>
    (ok_top scr b 0 s R1).weak fun r2 s2 ⟨e2, R2, f2⟩ => W_X10_digest_171 ((ok_top scr b 1 s2 R2).weak fun r3 s3 ⟨e3, R3, f3⟩ => W_X10_digest_182 ((ok_most scr b 0 s3 R3).weak fun r4 s4 ⟨e4, R4, f4⟩ => W_X10_digest_193 ((ok_most scr b 1 s4 R4).weak fun r5 s5 ⟨e5, R5, f5⟩ => W_X10_digest_204 ((ok_clumsy scr b s5 R5).weak fun r6 s6 ⟨e6, R6, f6⟩ => W_X10_digest_214 ((ok_down scr b s6 R6).weak fun r7 s7 ⟨e7, R7, f7⟩ => W_X10_digest_224 (by
      rw [e2, e3, e4, e5, e6, e7]
      exact sw 3 0 s7 (by omega) R7 (pt (pt (pt (pt (pt (pt f1 f2) f3) f4) f5) f6) f7))))))) 
  have chn : ∀ s : Sg, RC s b → (∀ x, 136 ≤ x → s x = σ x) → K_X10_digest_129 scr (dg4 b) 5 s (fun r σ' => r = sv_digest b ∧ RC σ' b ∧ ∀ x, 136 ≤ x → σ' x = σ x) := fun s R1 f1 =>
    W_X10_digest_129 ⟨fun h => absurd h (by decide), fun _ => (ok_chance scr b 5 5 0 s R1).weak fun r2 s2 ⟨e2, R2, f2⟩ => W_X10_digest_143 ((ok_chance scr b 5 5 1 s2 R2).weak fun r3 s3 ⟨e3, R3, f3⟩ => W_X10_digest_155 (W_X10_digest_129 ⟨fun h => absurd h (by decide), fun _ => (ok_chance scr b 5 15 0 s3 R3).weak fun r4 s4 ⟨e4, R4, f4⟩ => W_X10_digest_143 ((ok_chance scr b 5 15 1 s4 R4).weak fun r5 s5 ⟨e5, R5, f5⟩ => W_X10_digest_155 (W_X10_digest_129 ⟨fun _ => by
      rw [e2, e3, e4, e5]
      exact mid s5 R5 (pt (pt (pt (pt f1 f2) f3) f4) f5), fun h => absurd (by decide) h⟩))⟩))⟩
  have acr : ∀ (j a : Nat) (s : Sg), a + j = tn (aT b) → RC s b → (∀ x, 136 ≤ x → s x = σ x) → K_X10_digest_103 scr (foG (fun a h => dgA b a h) (dg3 b) a) (nI a) s (fun r σ' => r = sv_digest b ∧ RC σ' b ∧ ∀ x, 136 ≤ x → σ' x = σ x) := by
    intro j
    induction j with
    | zero =>
      intro a s ha R1 f1
      have : a = tn (aT b) := by omega
      subst this
      rw [dg4_eq]
      exact W_X10_digest_103 ⟨fun _ => chn s R1 f1, fun h => absurd (by rw [R1.2.1.2.1.1]; exact Int32.le_refl _) h⟩
    | succ j ih =>
      intro a s ha R1 f1
      refine W_X10_digest_103 ⟨fun h => ?_, fun _ => ?_⟩
      · rw [R1.2.1.2.1.1, nI_le' (by omega) (by omega)] at h
        omega
      refine (ok_mixed scr b (a := a) (by omega) _ s R1).weak fun r2 s2 ⟨e2, R2, f2⟩ => W_X10_digest_120 ?_
      rw [nI_add1, e2]
      exact ih (a + 1) s2 (by omega) R2 (pt f1 f2)
  have mom : ∀ (j m : Nat) (s : Sg), m + j = 24 → RC s b → (∀ x, 136 ≤ x → s x = σ x) → K_X10_digest_41 scr (foG (fun m h => mi (mi (mi (mi h (sv_tower b (nI m) 0)) (sv_tower b (nI m) 1)) (sv_stands b (nI m) 0)) (sv_stands b (nI m) 5)) (dg2 b) m) (nI m) s (fun r σ' => r = sv_digest b ∧ RC σ' b ∧ ∀ x, 136 ≤ x → σ' x = σ x) := by
    intro j
    induction j with
    | zero =>
      intro m s hm R1 f1
      have : m = 24 := by omega
      subst this
      rw [dg3_eq]
      refine W_X10_digest_41 ⟨fun _ => ?_, fun h => absurd (Int32.le_refl _) h⟩
      have h9 := acr (tn (aT b)) 0 s (by omega) R1 f1
      rw [foG0] at h9
      exact h9
    | succ j ih =>
      intro m s hm R1 f1
      refine W_X10_digest_41 ⟨fun h => ?_, fun _ => ?_⟩
      · rw [c24, nI_le' (by omega) (by omega)] at h
        omega
      refine (ok_tower scr b (nI m) 0 s R1).weak fun r2 s2 ⟨e2, R2, f2⟩ => W_X10_digest_54 ((ok_tower scr b (nI m) 1 s2 R2).weak fun r3 s3 ⟨e3, R3, f3⟩ => W_X10_digest_66 ((ok_stands scr b (nI m) 0 s3 R3).weak fun r4 s4 ⟨e4, R4, f4⟩ => W_X10_digest_78 ((ok_stands scr b (nI m) 5 s4 R4).weak fun r5 s5 ⟨e5, R5, f5⟩ => W_X10_digest_90 ?_)))
      rw [nI_add1, e2, e3, e4, e5]
      exact ih (m + 1) s5 (by omega) R5 (pt (pt (pt (pt f1 f2) f3) f4) f5)
  have cnt : ∀ (j i : Nat) (s : Sg), i + j = 8 → RC s b → (∀ x, 136 ≤ x → s x = σ x) → K_X10_digest_6 scr (foG (fun i h => mi h (sv_count b (nI i))) 17 i) (nI i) s (fun r σ' => r = sv_digest b ∧ RC σ' b ∧ ∀ x, 136 ≤ x → σ' x = σ x) := by
    intro j
    induction j with
    | zero =>
      intro i s hi R1 f1
      have : i = 8 := by omega
      subst this
      refine W_X10_digest_6 ⟨fun _ => (ok_fault scr b s R1).weak fun r2 s2 ⟨e2, R2, f2⟩ => W_X10_digest_34 ?_, fun h => absurd (Int32.le_refl _) h⟩
      rw [e2]
      have h9 := mom 24 0 s2 (by omega) R2 (pt f1 f2)
      rw [foG0] at h9
      exact h9
    | succ j ih =>
      intro i s hi R1 f1
      refine W_X10_digest_6 ⟨fun h => ?_, fun _ => ?_⟩
      · rw [c8, nI_le' (by omega) (by omega)] at h
        omega
      refine (ok_count scr b (nI i) s R1).weak fun r2 s2 ⟨e2, R2, f2⟩ => W_X10_digest_18 ?_
      rw [nI_add1, e2]
      exact ih (i + 1) s2 (by omega) R2 (pt f1 f2)
  exact cnt 8 0 σ (by omega) hR (fun _ _ => rfl)
