/-! copy, write, read -/
abbrev hrP (z : Nat) (i n : Int32) : Prop := 0 ≤ i.toInt ∧ 0 ≤ n.toInt ∧ i.toInt + n.toInt ≤ z
theorem hr_eq {σ : Sg} {b : AB} (hR : RC σ b) {s : Nat} (hs : s < 4) (i n : Int32) : hrV σ (128 + 2 * s) i n = 0 ↔ ¬ hrP (aSz b s) i n := by
  obtain ⟨k1, k2, k3, k4⟩ := hR.2.1.2.2.2.2.2.1 s hs
  have hz := (hR.1.2.2.2.2 s hs).2
  have z0 : (0 : Int32).toInt = 0 := by decide
  unfold hrV hrP
  rw [k3]
  by_cases h1 : i < 0
  · rw [if_pos h1]
    rw [Int32.lt_iff_toInt_lt, z0] at h1
    exact ⟨fun _ q => by omega, fun _ => rfl⟩
  · rw [if_neg h1]
    obtain ⟨i', hi', rfl⟩ := nI_of h1
    by_cases h2 : n < 0
    · rw [if_pos h2]
      rw [Int32.lt_iff_toInt_lt, z0] at h2
      exact ⟨fun _ q => by omega, fun _ => rfl⟩
    · rw [if_neg h2]
      obtain ⟨n', hn', rfl⟩ := nI_of h2
      rw [nI_toInt hi', nI_toInt hn']
      by_cases h3 : nI (aSz b s) < nI i'
      · rw [if_pos h3]
        rw [nI_lt' (by omega) hi'] at h3
        exact ⟨fun _ q => by omega, fun _ => rfl⟩
      · rw [if_neg h3]
        rw [nI_lt' (by omega) hi'] at h3
        rw [pk_sub (by omega)]
        by_cases h4 : nI (aSz b s - i') < nI n'
        · rw [if_pos h4]
          rw [nI_lt' (by omega) hn'] at h4
          exact ⟨fun _ q => by omega, fun _ => rfl⟩
        · rw [if_neg h4]
          rw [nI_lt' (by omega) hn'] at h4
          exact ⟨fun q => absurd q (by decide), fun q => absurd ⟨by omega, by omega, by omega⟩ q⟩
def cpX (b : AB) (s i t j n : Nat) : XS := (aLo b, aFo b, aSz b, fun x k => if x = t ∧ j ≤ k ∧ k < j + n then aIt b s (i + (k - j)) else aIt b x k)
def sp_copy (b : AB) (s i t j n : Int32) : Int32 × AB := if isW s 4 = 0 ∨ isW t 4 = 0 then (-2, b) else if aLo b (Int32.toNatClampNeg s) = true ∨ aLo b (Int32.toNatClampNeg t) = true then (-10 - 1, fnB b 1) else if ¬ aFo b (Int32.toNatClampNeg s) = aFo b (Int32.toNatClampNeg t) then (-10 - 4, fnB b 4) else if ¬ hrP (aSz b (Int32.toNatClampNeg s)) i n ∨ ¬ hrP (aSz b (Int32.toNatClampNeg t)) j n then (-10 - 2, fnB b 2) else (1, shB b (cpX b (Int32.toNatClampNeg s) (Int32.toNatClampNeg i) (Int32.toNatClampNeg t) (Int32.toNatClampNeg j) (Int32.toNatClampNeg n)) (aF b))
theorem hrP_nI {z : Nat} {i n : Int32} (h : hrP z i n) (hz : z ≤ 60) : ∃ i' n', i = nI i' ∧ n = nI n' ∧ i' + n' ≤ z := by
  obtain ⟨h1, h2, h3⟩ := h
  have z0 : (0 : Int32).toInt = 0 := by decide
  obtain ⟨i', hi', rfl⟩ := nI_of (x := i) (by rw [Int32.lt_iff_toInt_lt, z0]; omega)
  obtain ⟨n', hn', rfl⟩ := nI_of (x := n) (by rw [Int32.lt_iff_toInt_lt, z0]; omega)
  rw [nI_toInt hi', nI_toInt hn'] at h3
  exact ⟨i', n', rfl, rfl, by omega⟩
theorem ok_copy (scr : ScA) (b : AB) (s i t j n : Int32) : OkC scr 1 mX10_copy [.ref 0, .int s, .int i, .int t, .int j, .int n] b (sp_copy b s i t j n) := by
  intro σ hR
  unfold sp_copy
  have bad : ∀ t : Int32 × AB, t = (-2, b) → (-2 : Int32) = t.1 ∧ RC σ t.2 ∧ ∀ a, 136 ≤ a → σ a = σ a := fun t h => by rw [h]; exact ⟨rfl, hR, fun _ _ => rfl⟩
  refine E_X10_copy (W_X10_copy_0 ⟨fun z => bad _ (if_pos (Or.inl z)), fun z1 => ⟨fun z2 => ?_, fun z => bad _ (if_pos (Or.inr z))⟩⟩)
  rw [if_neg (fun z => z.elim z1 z2)]
  obtain ⟨j1, hj1, rfl, -⟩ := (isW_or s (n := 4) (by decide)).resolve_left z1
  obtain ⟨j2, hj2, rfl, -⟩ := (isW_or t (n := 4) (by decide)).resolve_left z2
  refine ⟨inB_nI hj1 (by decide), inB_nI hj2 (by decide), ?_⟩
  obtain ⟨k1, k2, k3, k4⟩ := hR.2.1.2.2.2.2.2.1 j1 hj1
  obtain ⟨m1, m2, m3, m4⟩ := hR.2.1.2.2.2.2.2.1 j2 hj2
  have w1 := hR.1.2.2.2.2 j1 hj1
  have w2 := hR.1.2.2.2.2 j2 hj2
  rw [tN_nI (n := j1) (by omega), tN_nI (n := j2) (by omega), show 127 + 1 + 2 * j1 = 128 + 2 * j1 by omega, show 127 + 1 + 2 * j2 = 128 + 2 * j2 by omega, k1, m1, k2, m2, b2I_0, b2I_0, hr_eq hR hj1, hr_eq hR hj2]
  refine ⟨fun z => ?_, fun z => ⟨fun y => ⟨fun x => ⟨fun w => ?_, fun w => ⟨fun v => ?_, fun v => ?_⟩⟩, fun x => ?_⟩, fun y => ?_⟩⟩
  · rw [if_pos (Or.inl (by simpa using z))]
    exact (ct_finding scr σ hR 1).weak fun r s1 ⟨h1, h2, h3⟩ => W_X10_copy_56 ⟨h1, h2, h3⟩
  · rw [if_neg (by rw [z, y]; simp), if_neg (fun q => q ((nI_inj (by omega) (by omega)).mp x)), if_pos (Or.inl w)]
    exact (ct_finding scr σ hR 2).weak fun r s1 ⟨h1, h2, h3⟩ => W_X10_copy_104 ⟨h1, h2, h3⟩
  · have w' := Decidable.not_not.mp w
    have v' := Decidable.not_not.mp v
    rw [if_neg (by rw [z, y]; simp), if_neg (fun q => q ((nI_inj (by omega) (by omega)).mp x)), if_neg (fun q => q.elim w v)]
    obtain ⟨i', n', rfl, rfl, hin⟩ := hrP_nI w' w1.2
    obtain ⟨j', n2, rfl, en, hjn⟩ := hrP_nI v' w2.2
    have : n' = n2 := by
      have hx : n' < 2 ^ 31 := by omega
      exact (nI_inj hx (by omega)).mp en
    subst this
    rw [tN_nI (n := i') (by omega), tN_nI (n := j') (by omega), tN_nI (n := n') (by omega)]
    have a1 : S0 (128 + 2 * j1 + 1) = (1, 60) := ((by decide : ∀ s, s < 4 → (128 + 2 * s + 1 < 172 ∧ S0 (128 + 2 * s + 1) = (1, 60))) j1 hj1).2
    have a2 : S0 (128 + 2 * j2 + 1) = (1, 60) := ((by decide : ∀ s, s < 4 → (128 + 2 * s + 1 < 172 ∧ S0 (128 + 2 * s + 1) = (1, 60))) j2 hj2).2
    rw [a1, a2]
    refine ⟨decide_eq_true ⟨by omega, rfl, by omega, rfl⟩, decide_eq_true ⟨nI_pos (by omega), nI_pos (by omega), nI_pos (by omega), by show i' + n' ≤ 60; omega, by show j' + n' ≤ 60; omega⟩, fun s1 e1 => ⟨rfl, ?_, fun a ha => ?_⟩⟩
    · have g : ∀ a, a ≠ 128 + 2 * j2 + 1 → s1 a = σ a := fun a ha => by rw [e1]; funext y; exact sr_ne _ _ _ ha
      refine hR.sh hR.1.2.2.2.2 (fun c hc => by rw [g 0 (by omega)]) (by rw [g 0 (by omega)]; exact hR.2.1.2.2.2.2.2.2) (fun u hu => ?_) (fun a z1 z2 => g a (by omega))
      obtain ⟨p1, p2, p3, p4⟩ := hR.2.1.2.2.2.2.2.1 u hu
      rw [g (128 + 2 * u) (by omega)]
      refine ⟨p1, p2, p3, fun k hk => ?_⟩
      show s1 (129 + 2 * u) k = if u = j2 ∧ j' ≤ k ∧ k < j' + n' then aIt b j1 (i' + (k - j')) else aIt b u k
      by_cases q : u = j2
      · subst q
        rw [e1, show 129 + 2 * u = 128 + 2 * u + 1 by omega, sr_at]
        by_cases q2 : j' ≤ k ∧ k < j' + n'
        · rw [if_pos ⟨rfl, q2⟩, pk_cpy_in q2.1 q2.2, show 128 + 2 * j1 + 1 = 129 + 2 * j1 by omega]
          exact k4 _ (by omega)
        · rw [if_neg (fun h => q2 h.2), pk_cpy_out (by omega), show 128 + 2 * u + 1 = 129 + 2 * u by omega]
          exact p4 k hk
      · rw [if_neg (fun h => q h.1), g _ (by omega)]
        exact p4 k hk
    · rw [e1]
      funext y
      exact sr_ne _ _ _ (by omega)
  · rw [if_neg (by rw [z, y]; simp), if_neg (fun q => q ((nI_inj (by omega) (by omega)).mp x)), if_pos (Or.inr v)]
    exact (ct_finding scr σ hR 2).weak fun r s1 ⟨h1, h2, h3⟩ => W_X10_copy_104 ⟨h1, h2, h3⟩
  · rw [if_neg (by rw [z, y]; simp), if_pos (fun q => x (by rw [q]))]
    exact (ct_finding scr σ hR 4).weak fun r s1 ⟨h1, h2, h3⟩ => W_X10_copy_75 ⟨h1, h2, h3⟩
  · rw [if_pos (Or.inr (by simpa using y))]
    exact (ct_finding scr σ hR 1).weak fun r s1 ⟨h1, h2, h3⟩ => W_X10_copy_56 ⟨h1, h2, h3⟩
/-- write: n places written -/
def wrB (b : AB) (m s : Nat) : Nat → AB
  | 0 => b
  | p + 1 => shB (wrB b m s p) (stX (wrB b m s p) s p (wsI (aT b) (aE b) (alB (aE b)) m p)) (aF b)
theorem wrB_same (b : AB) (m s : Nat) : ∀ p, (wrB b m s p).1 = b.1 ∧ (wrB b m s p).2.1 = b.2.1 ∧ (wrB b m s p).2.2.1 = b.2.2.1 ∧ aSz (wrB b m s p) = aSz b ∧ aF (wrB b m s p) = aF b
  | 0 => ⟨rfl, rfl, rfl, rfl, rfl⟩
  | p + 1 => by
    obtain ⟨h1, h2, h3, h4, h5⟩ := wrB_same b m s p
    exact ⟨h1, h2, h3, h4, rfl⟩
def mn10 (z : Nat) : Nat := if z < 10 then z else 10
def sp_write (b : AB) (m s : Int32) : Int32 × AB := if isW m 24 = 0 ∨ isW s 4 = 0 then (-2, b) else if aLo b (Int32.toNatClampNeg s) = true then (-10 - 1, fnB b 1) else (nI (mn10 (aSz b (Int32.toNatClampNeg s))), wrB b (Int32.toNatClampNeg m) (Int32.toNatClampNeg s) (mn10 (aSz b (Int32.toNatClampNeg s))))
theorem ok_write (scr : ScA) (b : AB) (m s : Int32) : OkC scr 6 mX10_write [.ref 0, .int m, .int s] b (sp_write b m s) := by
  intro σ hR
  unfold sp_write
  have bad : ∀ t : Int32 × AB, t = (-2, b) → (-2 : Int32) = t.1 ∧ RC σ t.2 ∧ ∀ a, 136 ≤ a → σ a = σ a := fun t h => by rw [h]; exact ⟨rfl, hR, fun _ _ => rfl⟩
  refine E_X10_write (W_X10_write_0 ⟨fun z => bad _ (if_pos (Or.inl z)), fun z1 => ⟨fun z2 => ?_, fun z => bad _ (if_pos (Or.inr z))⟩⟩)
  rw [if_neg (show ¬ (isW m 24 = 0 ∨ isW s 4 = 0) from fun z => z.elim z1 z2)]
  obtain ⟨j1, hj1, rfl, -⟩ := (isW_or m (n := 24) (by decide)).resolve_left z1
  obtain ⟨j2, hj2, rfl, -⟩ := (isW_or s (n := 4) (by decide)).resolve_left z2
  refine ⟨inB_nI hj2 (by decide), ?_⟩
  obtain ⟨k1, k2, k3, k4⟩ := hR.2.1.2.2.2.2.2.1 j2 hj2
  have w2 := hR.1.2.2.2.2 j2 hj2
  rw [tN_nI (n := j1) (by omega), tN_nI (n := j2) (by omega), show 127 + 1 + 2 * j2 = 128 + 2 * j2 by omega, k1, k3, b2I_0]
  refine ⟨fun z => ?_, fun z => ?_⟩
  · rw [if_neg (show ¬ aLo b j2 = true by rw [z]; simp)]
    have en : (if nI (aSz b j2) < 10 then nI (aSz b j2) else 10 : Int32) = nI (mn10 (aSz b j2)) := by
      have q : nI (aSz b j2) < 10 ↔ aSz b j2 < 10 := by rw [c10, nI_lt' (by omega) (by omega)]
      unfold mn10
      by_cases y : aSz b j2 < 10
      · rw [if_pos (q.mpr y), if_pos y]
      · rw [if_neg (fun x => y (q.mp x)), if_neg y]; rfl
    rw [en]
    have hm10 : mn10 (aSz b j2) ≤ 10 := by unfold mn10; split <;> omega
    have key : ∀ (f p : Nat) (s1 : Sg), p + f = mn10 (aSz b j2) → RC s1 (wrB b j1 j2 p) → (∀ a, 136 ≤ a → s1 a = σ a) → K_X10_write_54 scr (nI j1) (128 + 2 * j2) (nI (mn10 (aSz b j2))) (nI p) s1 (fun r σ' => r = nI (mn10 (aSz b j2)) ∧ RC σ' (wrB b j1 j2 (mn10 (aSz b j2))) ∧ ∀ a, 136 ≤ a → σ' a = σ a) := by
      intro f
      induction f with
      | zero =>
        intro p s1 hp R1 f1
        have : p = mn10 (aSz b j2) := by omega
        subst this
        exact W_X10_write_54 (se_is hj2) ⟨fun _ => ⟨rfl, R1, f1⟩, fun h => absurd (Int32.le_refl _) h⟩
      | succ f ih =>
        intro p s1 hp R1 f1
        refine W_X10_write_54 (se_is hj2) ⟨fun h => ?_, fun _ => ?_⟩
        · rw [nI_le' (by omega) (by omega)] at h
          omega
        refine (ok_stands scr (wrB b j1 j2 p) (nI j1) (nI p) s1 R1).weak fun r s2 ⟨hr, R2, f2⟩ => W_X10_write_71 (se_is hj2) (se_is hj2) ?_
        obtain ⟨q1, q2, q3, q4, q5⟩ := wrB_same b j1 j2 p
        have er : r = wsI (aT b) (aE b) (alB (aE b)) j1 p := by
          rw [hr]
          show sv_stands (wrB b j1 j2 p) (nI j1) (nI p) = _
          unfold sv_stands
          have hn : ¬ (isW (nI j1) 24 = 0 ∨ isW (nI p) 10 = 0) := by
            rw [c24, c10, isW_nI (by omega) (by omega), isW_nI (by omega) (by omega), if_pos hj1, if_pos (by omega)]
            decide
          rw [if_neg hn, tN_nI (by omega), tN_nI (by omega)]
          unfold aT aB aL aE
          rw [q1, q2]
        rw [er]
        have R2' : RC s2 (wrB b j1 j2 p) := R2
        refine (ct_setItem scr s2 R2' hj2 (i := p) (by omega) _).weak fun s3 ⟨R3, f3⟩ => W_X10_write_74 (se_is hj2) ?_
        rw [nI_add1]
        refine ih (p + 1) s3 (by omega) ?_ (fun a ha => by rw [f3 a ha, f2 a ha, f1 a ha])
        rw [q5] at R3
        exact R3
    exact key (mn10 (aSz b j2)) 0 σ (by omega) hR (fun _ _ => rfl)
  · rw [if_pos (by simpa using z)]
    exact (ct_finding scr σ hR 1).weak fun r s1 ⟨h1, h2, h3⟩ => W_X10_write_39 ⟨h1, h2, h3⟩
/-- read: events told from a sheet -/
def rdE (b : AB) (s : Nat) : Nat → Nat → AB → Nat × AB
  | 0, n, c => (n, c)
  | f + 1, n, c => if 3 * n + 2 < aSz b s then (if 0 ≤ (sp_event c (aIt b s (3 * n)) (aIt b s (3 * n + 1)) (aIt b s (3 * n + 2))).1 then rdE b s f (n + 1) (sp_event c (aIt b s (3 * n)) (aIt b s (3 * n + 1)) (aIt b s (3 * n + 2))).2 else (n, (sp_event c (aIt b s (3 * n)) (aIt b s (3 * n + 1)) (aIt b s (3 * n + 2))).2)) else (n, c)
def sp_read (b : AB) (s : Int32) : Int32 × AB := if isW s 4 = 0 then (-2, b) else if aLo b (Int32.toNatClampNeg s) = true then (-10 - 1, fnB b 1) else (nI (rdE b (Int32.toNatClampNeg s) 20 0 b).1, (rdE b (Int32.toNatClampNeg s) 20 0 b).2)
theorem sp_event_X (c : AB) (x y z : Int32) : aX (sp_event c x y z).2 = aX c := by
  unfold sp_event
  split
  · rfl
  · split <;> rfl
theorem ok_read (scr : ScA) (b : AB) (s : Int32) : OkC scr 4 mX10_read [.ref 0, .int s] b (sp_read b s) := by
  intro σ hR
  unfold sp_read
  refine E_X10_read (W_X10_read_0 ⟨fun z1 => ?_, fun z => ?_⟩)
  · rw [if_neg z1]
    obtain ⟨j1, hj1, rfl, -⟩ := (isW_or s (n := 4) (by decide)).resolve_left z1
    refine ⟨inB_nI hj1 (by decide), ?_⟩
    obtain ⟨k1, k2, k3, k4⟩ := hR.2.1.2.2.2.2.2.1 j1 hj1
    have w1 := hR.1.2.2.2.2 j1 hj1
    rw [tN_nI (by omega), show 127 + 1 + 2 * j1 = 128 + 2 * j1 by omega, k1, b2I_0]
    refine ⟨fun z => ?_, fun z => ?_⟩
    · rw [if_neg (by rw [z]; simp)]
      have key : ∀ (f n : Nat) (c : AB) (s1 : Sg), n + f = 20 → RC s1 c → aX c = aX b → (∀ a, 136 ≤ a → s1 a = σ a) → rdE b j1 f n c = rdE b j1 20 0 b → K_X10_read_36 scr (128 + 2 * j1) (nI n) (nI (3 * n)) s1 (fun r σ' => r = nI (rdE b j1 20 0 b).1 ∧ RC σ' (rdE b j1 20 0 b).2 ∧ ∀ a, 136 ≤ a → σ' a = σ a) := by
        intro f
        induction f with
        | zero =>
          intro n c s1 hn R1 hX f1 he
          have he' : (n, c) = rdE b j1 20 0 b := he
          have kz : s1 (128 + 2 * j1) 2 = nI (aSz b j1) := by
            rw [(R1.2.1.2.2.2.2.2.1 j1 hj1).2.2.1]
            show nI ((aX c).2.2.1 j1) = nI ((aX b).2.2.1 j1)
            rw [hX]
          refine W_X10_read_36 (se_is hj1) ⟨fun _ => by rw [← he']; exact ⟨rfl, R1, f1⟩, fun h => absurd ?_ h⟩
          rw [kz, c2, nI_add, nI_le' (by omega) (by omega)]
          omega
        | succ f ih =>
          intro n c s1 hn R1 hX f1 he
          have kz : s1 (128 + 2 * j1) 2 = nI (aSz b j1) := by
            rw [(R1.2.1.2.2.2.2.2.1 j1 hj1).2.2.1]
            show nI ((aX c).2.2.1 j1) = nI ((aX b).2.2.1 j1)
            rw [hX]
          have ei : ∀ k, k < 60 → itV s1 (128 + 2 * j1) (nI k) = aIt b j1 k := fun k hk => by
            rw [it_eq R1 hj1 hk]
            show (aX c).2.2.2 j1 k = (aX b).2.2.2 j1 k
            rw [hX]
          have hs : rdE b j1 (f + 1) n c = if 3 * n + 2 < aSz b j1 then (if 0 ≤ (sp_event c (aIt b j1 (3 * n)) (aIt b j1 (3 * n + 1)) (aIt b j1 (3 * n + 2))).1 then rdE b j1 f (n + 1) (sp_event c (aIt b j1 (3 * n)) (aIt b j1 (3 * n + 1)) (aIt b j1 (3 * n + 2))).2 else (n, (sp_event c (aIt b j1 (3 * n)) (aIt b j1 (3 * n + 1)) (aIt b j1 (3 * n + 2))).2)) else (n, c) := rfl
          rw [hs] at he
          refine W_X10_read_36 (se_is hj1) ?_
          rw [kz, c2, nI_add1, nI_add, nI_le' (by omega) (by omega)]
          refine ⟨fun h => ?_, fun h => ?_⟩
          · rw [if_neg (by omega)] at he
            rw [← he]
            exact ⟨rfl, R1, f1⟩
          · rw [if_pos (by omega)] at he
            rw [ei _ (by omega), ei _ (by omega), ei _ (by omega)]
            refine (ok_event scr c _ _ _ s1 R1).weak fun r s2 ⟨hr, R2, f2⟩ => W_X10_read_73 (se_is hj1) ?_
            rw [hr]
            refine ⟨fun z => ?_, fun z => ?_⟩
            · rw [if_pos z] at he
              rw [nI_add1, c3, nI_add]
              exact ih (n + 1) _ s2 (by omega) R2 (by rw [sp_event_X]; exact hX) (fun a ha => by rw [f2 a ha, f1 a ha]) he
            · rw [if_neg z] at he
              rw [← he]
              exact ⟨rfl, R2, fun a ha => by rw [f2 a ha, f1 a ha]⟩
      exact key 20 0 b σ (by omega) hR rfl (fun _ _ => rfl) rfl
    · rw [if_pos (by simpa using z)]
      exact (ct_finding scr σ hR 1).weak fun r s1 ⟨h1, h2, h3⟩ => W_X10_read_30 ⟨h1, h2, h3⟩
  · rw [if_pos z]
    exact ⟨rfl, hR, fun _ _ => rfl⟩
