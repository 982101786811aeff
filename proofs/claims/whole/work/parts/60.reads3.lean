/-! one acrobat read: the call -/
theorem ct_readsOne (scr : ScA) (σ : Sg) {by' : Nat → Nat} {len n : Nat} (h : TxM σ by' len) (hl : len ≤ 59) (hb : ∀ i, i < len → by' i < 256) (hn : n < 10) (hr : ∀ a, a < n → σ 142 a = nI (plB by' a)) (hpb : ∀ a, a < n → plB by' a < 10) : CiA scr 2 mX11_readsOne [.ref 136, .int (nI n), .int (nI (6 * n))] σ (fun r σ' => r = nI (gdN by' len n) ∧ (gdN by' len n = 5 → σ' 138 n = nI (so3 (by' (6 * n))) ∧ σ' 139 n = nI (by' (6 * n + 1) - 48) ∧ σ' 140 n = nI (by' (6 * n + 2) - 48) ∧ σ' 141 n = nI (by' (6 * n + 3) - 97) ∧ σ' 142 n = nI (by' (6 * n + 4) - 48)) ∧ ∀ a c, ¬ (138 ≤ a ∧ a ≤ 142 ∧ c = n) → σ' a c = σ a c) := by
  have ib : ∀ k, k ≤ 4 → ¬ σ 136 0 ≤ nI (6 * n + k) → inB (nI (6 * n + k)) 59 = true := fun k hk z => by
    rw [h.1, nI_le' (by omega) (by omega)] at z
    exact inB_nI (by omega) (by decide)
  have a1 : nI (6 * n) + 1 = nI (6 * n + 1) := nI_add1 _
  have a2 : nI (6 * n) + 2 = nI (6 * n + 2) := by rw [c2, nI_add]
  have a3 : nI (6 * n) + 3 = nI (6 * n + 3) := by rw [c3, nI_add]
  have a4 : nI (6 * n) + 4 = nI (6 * n + 4) := by rw [c4, nI_add]
  have k0 := ok_0 h hl hb hn
  have k1 := ok_1 h hl hb hn (p := 1) (by omega)
  have k2 := ok_1 h hl hb hn (p := 2) (by omega)
  have k3 := ok_3 h hl hb hn
  have nofr : ∀ g : Nat, gdN by' len n = g → g ≠ 5 → nI g = nI (gdN by' len n) ∧ (gdN by' len n = 5 → σ 138 n = nI (so3 (by' (6 * n))) ∧ σ 139 n = nI (by' (6 * n + 1) - 48) ∧ σ 140 n = nI (by' (6 * n + 2) - 48) ∧ σ 141 n = nI (by' (6 * n + 3) - 97) ∧ σ 142 n = nI (by' (6 * n + 4) - 48)) ∧ ∀ a c, ¬ (138 ≤ a ∧ a ≤ 142 ∧ c = n) → σ a c = σ a c := fun g e ne => ⟨by rw [e], fun q => absurd (e.symm.trans q) ne, fun _ _ _ => rfl⟩
  refine E_X11_readsOne (W_X11_readsOne_0 ?_)
  rw [a1, a2, a3, a4]
  refine ⟨ib 0 (by omega), ib 1 (by omega), ib 2 (by omega), ib 3 (by omega), ib 4 (by omega), fun z => ?_, fun _ => ⟨fun z0 => ⟨fun z1 => ⟨fun z2 => ⟨fun z3 => ⟨fun z4 => ?_, fun z4 => ?_⟩, fun z3 => ?_⟩, fun z2 => ?_⟩, fun z1 => ?_⟩, fun z0 => ?_⟩⟩
  · have : n = 10 := (nI_inj (by omega) (by omega)).mp z
    omega
  all_goals try have p0 : okN by' len n 0 = true := Decidable.byContradiction fun y => z0 (by have := k0; rw [if_neg y] at this; exact this)
  all_goals try have p1 : okN by' len n 1 = true := Decidable.byContradiction fun y => z1 (k1.mpr y)
  all_goals try have p2 : okN by' len n 2 = true := Decidable.byContradiction fun y => z2 (k2.mpr y)
  all_goals try have p3 : okN by' len n 3 = true := Decidable.byContradiction fun y => z3 (k3.mpr y)
  · have p4 : ¬ okN by' len n 4 = true := fun y => by
      unfold okN at y
      simp [gpP] at y
      rw [by_at h hl (by omega), if_pos y.1, i4_b _ (hb _ y.1)] at z4
      exact z4 y.2.1
    refine nofr 4 ?_ (by omega)
    unfold gdN
    rw [if_pos p0, if_pos p1, if_pos p2, if_pos p3, if_neg p4]
  · have hlen : 6 * n + 4 < len := Decidable.byContradiction fun y => z4 (by rw [by_at h hl (by omega), if_neg y]; decide)
    have hbb := hb _ hlen
    rw [by_at h hl (by omega), if_pos hlen, i4_b _ hbb] at z4
    have hrg : 48 ≤ by' (6 * n + 4) ∧ by' (6 * n + 4) ≤ 57 := Decidable.not_not.mp z4
    have e4 : byV σ (nI (6 * n + 4)) - 48 = nI (by' (6 * n + 4) - 48) := by rw [by_at h hl (by omega), if_pos hlen, show (48 : Int32) = nI 48 from rfl, pk_sub hrg.1]
    have l1 : 6 * n + 1 < len := by omega
    have l2 : 6 * n + 2 < len := by omega
    have l3 : 6 * n + 3 < len := by omega
    have g1 : 49 ≤ by' (6 * n + 1) ∧ by' (6 * n + 1) ≤ 57 := by unfold okN at p1; simp [gpP] at p1; exact p1.2
    have g2 : 49 ≤ by' (6 * n + 2) ∧ by' (6 * n + 2) ≤ 57 := by unfold okN at p2; simp [gpP] at p2; exact p2.2
    have g3 : 97 ≤ by' (6 * n + 3) ∧ by' (6 * n + 3) ≤ 120 := by unfold okN at p3; simp [gpP] at p3; exact p3.2
    have e1 : byV σ (nI (6 * n + 1)) - 48 = nI (by' (6 * n + 1) - 48) := by rw [by_at h hl (by omega), if_pos l1, show (48 : Int32) = nI 48 from rfl, pk_sub (by omega)]
    have e2 : byV σ (nI (6 * n + 2)) - 48 = nI (by' (6 * n + 2) - 48) := by rw [by_at h hl (by omega), if_pos l2, show (48 : Int32) = nI 48 from rfl, pk_sub (by omega)]
    have e3 : byV σ (nI (6 * n + 3)) - 97 = nI (by' (6 * n + 3) - 97) := by rw [by_at h hl (by omega), if_pos l3, show (97 : Int32) = nI 97 from rfl, pk_sub (by omega)]
    have e0' : (if ¬ byV σ (nI (6 * n)) = 115 then (if ¬ byV σ (nI (6 * n)) = 116 then (if ¬ byV σ (nI (6 * n)) = 99 then (-1) else 2 : Int32) else 1 : Int32) else 0 : Int32) = nI (so3 (by' (6 * n))) := by
      have := k0
      rw [if_pos p0] at this
      exact this
    have q4 : okN by' len n 4 = (hdF (plB by') (by' (6 * n + 4) - 48) n).isNone := by
      unfold okN
      simp [gpP, hlen, hrg.1, hrg.2]
    rw [e0', e1, e2, e3, e4]
    refine (ct_isTaken scr σ (by omega) (by omega) hr hpb).weak fun r s ⟨er, es⟩ => W_X11_readsOne_152 ?_
    subst es
    rw [er, ← q4]
    refine ⟨fun z => ?_, fun z => ?_⟩
    · have p4 : okN by' len n 4 = true := Decidable.byContradiction fun y => by rw [if_neg y] at z; exact absurd z (by decide)
      have eg : gdN by' len n = 5 := by
        unfold gdN
        rw [if_pos p0, if_pos p1, if_pos p2, if_pos p3, if_pos p4]
      refine ⟨inB_nI (by omega) (by decide), fun s1 d1 s2 d2 s3 d3 s4 d4 s5 d5 => ⟨by rw [eg]; rfl, fun _ => ?_, fun a c q => ?_⟩⟩
      · rw [tN_nI (by omega)] at d1 d2 d3 d4 d5
        rw [d5, d4, d3, d2, d1]
        refine ⟨?_, ?_, ?_, ?_, ?_⟩ <;> simp [su]
      · rw [tN_nI (by omega)] at d1 d2 d3 d4 d5
        rw [d5, d4, d3, d2, d1, frS a c (by omega), frS a c (by omega), frS a c (by omega), frS a c (by omega), frS a c (by omega)]
    · have p4 : ¬ okN by' len n 4 = true := fun y => z (by rw [if_pos y])
      refine nofr 4 ?_ (by omega)
      unfold gdN
      rw [if_pos p0, if_pos p1, if_pos p2, if_pos p3, if_neg p4]
  · have p3 : ¬ okN by' len n 3 = true := k3.mp z3
    refine nofr 3 ?_ (by omega)
    unfold gdN
    rw [if_pos p0, if_pos p1, if_pos p2, if_neg p3]
  · have p2 : ¬ okN by' len n 2 = true := k2.mp z2
    refine nofr 2 ?_ (by omega)
    unfold gdN
    rw [if_pos p0, if_pos p1, if_neg p2]
  · have p1 : ¬ okN by' len n 1 = true := k1.mp z1
    refine nofr 1 ?_ (by omega)
    unfold gdN
    rw [if_pos p0, if_neg p1]
  · have p0 : ¬ okN by' len n 0 = true := fun y => by
      have hh := k0
      rw [if_pos y] at hh
      have hlen : 6 * n < len := by
        unfold okN at y
        simp at y
        exact y.1
      exact so3_ne _ (hb _ hlen) (hh.symm.trans z0)
    refine nofr 0 ?_ (by omega)
    unfold gdN
    rw [if_neg p0]
