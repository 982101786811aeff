/-! the class's show: contracts -/
theorem su_sr (σ : Sg) (a j : Nat) (f : Nat → Int32) (v : Int32) : su (sr σ a f) a j v = sr σ a (upd f j v) := by
  funext x y
  by_cases h : x = a
  · by_cases h2 : y = j <;> simp [su, sr, upd, h, h2]
  · simp [su, sr, h]
theorem su_su (σ : Sg) (a j : Nat) (v w : Int32) : su (su σ a j v) a j w = su σ a j w := by
  funext x y
  by_cases h : x = a ∧ y = j <;> simp [su, h]
theorem sr_sr (σ : Sg) (a : Nat) (f g : Nat → Int32) : sr (sr σ a f) a g = sr σ a g := by
  funext x y
  by_cases h : x = a <;> simp [sr, h]
theorem sr_id (σ : Sg) (a : Nat) : sr σ a (σ a) = σ := by
  funext x y
  by_cases h : x = a
  · subst h; simp [sr]
  · simp [sr, h]
theorem sr_at (σ : Sg) (a b : Nat) (f : Nat → Int32) : sr σ a f a b = f b := by simp [sr]
theorem sr_ne (σ : Sg) {a x : Nat} (y : Nat) (f : Nat → Int32) (h : x ≠ a) : sr σ a f x y = σ x y := by simp [sr, h]
theorem su_nr (σ : Sg) {a x : Nat} (j y : Nat) (v : Int32) (h : x ≠ a) : su σ a j v x y = σ x y := by simp [su, h]
theorem su_nc (σ : Sg) (a : Nat) {j y : Nat} (x : Nat) (v : Int32) (h : y ≠ j) : su σ a j v x y = σ x y := by simp [su, h]
theorem upd_eq (f : Nat → Int32) (k : Nat) (x : Int32) : upd f k x k = x := pk_us
theorem upd_ne (f : Nat → Int32) {k j : Nat} (x : Int32) (h : j ≠ k) : upd f k x j = f j := pk_un h
theorem ct_fill (scr : ScA) {a n : Nat} (v : Int32) (σ : Sg) (ha : isAr a n) (hn : n < 2 ^ 31) : CvA scr 0 mJ7_fill_53178 [.ref a, .int v] σ (fun σ' => σ' = sr σ a (fun j => if j < n then v else σ a j)) := by
  refine E_J7_fill_53178 (W_J7_fill_53178_0 ha ?_)
  rw [ha.2]
  have key : ∀ (j i : Nat), i + j = n → K_J7_fill_53178_5 scr a v (nI i) (Int32.ofNat n) (sr σ a (fun x => if x < i then v else σ a x)) (fun σ' => σ' = sr σ a (fun j => if j < n then v else σ a j)) := by
    intro j
    induction j with
    | zero =>
      intro i hi
      refine W_J7_fill_53178_5 ha ⟨fun _ => ?_, fun h => absurd ((nI_le' (by omega) (by omega)).mpr (by omega)) h⟩
      rw [show i = n by omega]
    | succ j ih =>
      intro i hi
      refine W_J7_fill_53178_5 ha ⟨fun h => absurd ((nI_le' (a := n) (b := i) (by omega) (by omega)).mp h) (by omega), fun _ => ⟨inB_nI (by omega) hn, fun σ1 h1 => ?_⟩⟩
      rw [tN_nI (by omega), su_sr] at h1
      have e : upd (fun x => if x < i then v else σ a x) i v = fun x => if x < i + 1 then v else σ a x := by
        funext x
        by_cases hx : x = i
        · subst hx; simp [upd]
        · simp [upd, hx, show x < i + 1 ↔ x < i by omega]
      rw [e] at h1
      rw [h1, nI_add1]
      exact ih (i + 1) (by omega)
  have h0 := key n 0 (by omega)
  have e0 : (fun x => if x < 0 then v else σ a x) = σ a := by funext x; simp
  rw [e0, sr_id] at h0
  exact h0
theorem sw_ar {k : Nat} (hk : isSw k) : isAr (k + 1) 24 ∧ isAr (k + 2) 10 ∧ isAr (k + 3) 10 ∧ isAr (k + 4) 10 ∧ isAr (k + 5) 10 := by
  rcases hk with rfl | rfl | rfl | rfl | rfl <;> exact ⟨⟨by decide, rfl⟩, ⟨by decide, rfl⟩, ⟨by decide, rfl⟩, ⟨by decide, rfl⟩, ⟨by decide, rfl⟩⟩
theorem swtr {k q : Nat} (hk : isSw k) (hq : isTr q) {i j : Nat} (hi : i ≤ 6) (hj : j ≤ 6) : q + j ≠ k + i := by
  rcases hk with rfl | rfl | rfl | rfl | rfl <;> rcases hq with rfl | rfl | rfl <;> omega
theorem swev {k v : Nat} (hk : isSw k) (hv : isEv v) {i j : Nat} (hi : i ≤ 6) (hj : j ≤ 3) : v + j ≠ k + i := by
  rcases hk with rfl | rfl | rfl | rfl | rfl <;> rcases hv with rfl | rfl <;> omega
def lyI (l : Nat) : Int32 := if l = 0 then -1 else nI (l - 1)
theorem lyI_le {m l : Nat} (hm : m < 1000) (hl : l < 1000) : nI m ≤ lyI l ↔ m < l := by
  unfold lyI
  split
  · rename_i h
    subst h
    refine ⟨fun q => ?_, fun q => by omega⟩
    rw [Int32.le_iff_toInt_le, nI_toInt (by omega)] at q
    have h2 : (-1 : Int32).toInt = -1 := by decide
    rw [h2] at q
    omega
  · rw [nI_le' (by omega) (by omega)]
    omega
theorem lyI_lt {m l : Nat} (hm : m < 1000) (hl : l < 1000) : lyI l < nI m ↔ l ≤ m := by
  have h := lyI_le hm hl
  rw [← Int32.not_le, h]
  omega
/-- the cells of a show hold a state -/
def ShS (σ : Sg) (k : Nat) (T : TT) (S : SS) : Prop := σ k 6 = nI S.1 ∧ (∀ a, a < tn T → σ (k + 2) a = nI (S.2.1 a) ∧ σ (k + 3) a = nI (S.2.2.1 a) ∧ σ (k + 4) a = lyI (S.2.2.2.1 a)) ∧ σ k 11 = nI S.2.2.2.2.1 ∧ σ k 12 = nI S.2.2.2.2.2
/-- begin: all new -/
theorem ct_begin (scr : ScA) {k : Nat} (hk : isSw k) (σ : Sg) (T : TT) (hT : TW T) : CvA scr 1 mX5_begin [.ref k] σ (fun σ' => ShS σ' k T st0 ∧ σ' k 10 = 0 ∧ ∀ a, (a < k ∨ k + 5 < a ∨ a = k + 1) → σ' a = σ a) := by
  obtain ⟨-, h2, h3, h4, -⟩ := sw_ar hk
  refine E_X5_begin (W_X5_begin_0 hk ((ct_fill scr 0 σ h2 (by decide)).weak fun s1 e1 => W_X5_begin_8 hk ((ct_fill scr 0 s1 h3 (by decide)).weak fun s2 e2 => W_X5_begin_16 hk ((ct_fill scr (-1) s2 h4 (by decide)).weak fun s3 e3 => W_X5_begin_24 hk fun s4 e4 s5 e5 s6 e6 s7 e7 => ?_))))
  subst e1 e2 e3 e4 e5 e6 e7
  refine ⟨⟨?_, fun a ha => ⟨?_, ?_, ?_⟩, ?_, ?_⟩, ?_, fun a ha => ?_⟩
  · simp [su]; rfl
  · have := hT.1
    simp [su, sr, show a < 10 by omega]; rfl
  · have := hT.1
    simp [su, sr, show a < 10 by omega]; rfl
  · have := hT.1
    simp [su, sr, show a < 10 by omega]; rfl
  · simp [su]; rfl
  · simp [su]; rfl
  · simp [su]
  · funext b
    simp [su, sr, show a ≠ k by omega, show a ≠ k + 2 by omega, show a ≠ k + 3 by omega, show a ≠ k + 4 by omega]
/-- gather: what this moment's events do -/
theorem ct_gather (scr : ScA) {k v : Nat} (hk : isSw k) (hv : isEv v) (σ : Sg) {E : EE} (hE : EW E) (hC : EvC σ v E) {ch m : Nat} (hch : ch < 2 ^ 31) (hm : m < 24) : CvA scr 1 mX5_gather [.ref k, .ref v, .int (nI ch), .int (nI m)] σ (fun σ' => σ' k 7 = nI (gaS E ch m E.1) ∧ σ' k 8 = nI (gaH E ch m E.1) ∧ σ' k 9 = nI (gaR E ch m E.1) ∧ ∀ a b, ¬ (a = k ∧ 7 ≤ b ∧ b ≤ 9) → σ' a b = σ a b) := by
  refine E_X5_gather (W_X5_gather_0 hk hv fun s1 e1 s2 e2 s3 e3 => ?_)
  have key : ∀ (j i : Nat) (s : Sg), i + j = E.1 → s k 7 = nI (gaS E ch m i) → s k 8 = nI (gaH E ch m i) → s k 9 = nI (gaR E ch m i) → (∀ a b, ¬ (a = k ∧ 7 ≤ b ∧ b ≤ 9) → s a b = σ a b) → K_X5_gather_18 scr k v (nI ch) (nI m) (nI i) s (fun σ' => σ' k 7 = nI (gaS E ch m E.1) ∧ σ' k 8 = nI (gaH E ch m E.1) ∧ σ' k 9 = nI (gaR E ch m E.1) ∧ ∀ a b, ¬ (a = k ∧ 7 ≤ b ∧ b ≤ 9) → σ' a b = σ a b) := by
    intro j
    induction j with
    | zero =>
      intro i s hi h7 h8 h9 hf
      have hn : s v 3 = nI E.1 := by
        rw [hf v 3 (fun q => swev hk hv (i := 0) (j := 0) (by omega) (by omega) (by omega))]
        exact hC.1
      have : i = E.1 := by omega
      subst this
      refine W_X5_gather_18 hk hv ⟨fun _ => ⟨h7, h8, h9, hf⟩, fun h => absurd ?_ h⟩
      rw [hn]
      exact Int32.le_refl _
    | succ j ih =>
      intro i s hi h7 h8 h9 hf
      have hE8 := hE.1
      have hfv : ∀ x b, x ≤ 3 → s (v + x) b = σ (v + x) b := fun x b hx => hf (v + x) b (fun q => swev hk hv (i := 0) (j := x) (by omega) hx (by omega))
      have hn : s v 3 = nI E.1 := by
        have := hfv 0 3 (by omega)
        rw [Nat.add_zero] at this
        rw [this]
        exact hC.1
      obtain ⟨c1, c2, c3⟩ := hC.2 i (by omega)
      obtain ⟨b1, b2, b3⟩ := hE.2 i (by omega)
      have r1 : s (v + 1) (Int32.toNatClampNeg (nI i)) = nI (E.2.1 i) := by rw [tN_nI (by omega), hfv 1 i (by omega), c1]
      have r2 : s (v + 2) (Int32.toNatClampNeg (nI i)) = nI (E.2.2.1 i) := by rw [tN_nI (by omega), hfv 2 i (by omega), c2]
      have r3 : s (v + 3) (Int32.toNatClampNeg (nI i)) = nI (E.2.2.2 i) := by rw [tN_nI (by omega), hfv 3 i (by omega), c3]
      have hsl := gaS_lt hE ch m i (by omega)
      have hhl := gaH_lt hE ch m i (by omega)
      have hnext : ∀ s' : Sg, s' k 7 = nI (gaS E ch m (i + 1)) → s' k 8 = nI (gaH E ch m (i + 1)) → s' k 9 = nI (gaR E ch m (i + 1)) → (∀ a b, ¬ (a = k ∧ 7 ≤ b ∧ b ≤ 9) → s' a b = σ a b) → K_X5_gather_18 scr k v (nI ch) (nI m) (nI i + 1) s' _ := fun s' g7 g8 g9 gf => by
        rw [nI_add1]
        exact ih (i + 1) s' (by omega) g7 g8 g9 gf
      have hskip : evI E ch m i = false → K_X5_gather_18 scr k v (nI ch) (nI m) (nI i + 1) s _ := fun he => hnext s (by rw [gaS, if_neg (by rw [he]; simp)]; exact h7) (by rw [gaH, if_neg (by rw [he]; simp)]; exact h8) (by rw [gaR, if_neg (by rw [he]; simp)]; exact h9) hf
      refine W_X5_gather_18 hk hv ⟨fun h => ?_, fun _ => ⟨inB_nI (by omega) (by omega), fun hm' => ?_, fun hm' => ⟨fun hb => ⟨fun k0 => ?_, fun k1 => ?_, fun k0 k1 => ?_⟩, fun hb => ?_⟩⟩⟩
      · rw [hn, nI_le' (by omega) (by omega)] at h
        omega
      · refine hskip ?_
        rw [r2, nI_inj (by omega) (by omega)] at hm'
        simp [evI, hm']
      · intro σ1 e1
        rw [r2, nI_inj (by omega) (by omega)] at hm'
        rw [hbV_0 hch (by omega)] at hb
        rw [r1] at k0
        have hk0 : E.2.1 i = 0 := (nI_inj (by omega) (by omega)).mp k0
        have hev : evI E ch m i = true := by simp [evI, hm']; cases h : ch.testBit i with | true => rfl | false => exact absurd h hb
        rw [r3, h7, shl1 (by omega), or_nI] at e1
        subst e1
        refine hnext _ ?_ ?_ ?_ (fun a b hab => ?_)
        · rw [su_eq, gaS, if_pos ⟨hev, hk0⟩]
        · rw [su_nc _ _ _ _ (by omega), h8, gaH, if_neg (by rw [hk0]; simp)]
        · rw [su_nc _ _ _ _ (by omega), h9, gaR, if_neg (by rw [hk0]; simp)]
        · rw [frS a b (fun q => hab ⟨q.1, by omega, by omega⟩)]
          exact hf a b hab
      · intro σ1 e1
        rw [r2, nI_inj (by omega) (by omega)] at hm'
        rw [hbV_0 hch (by omega)] at hb
        rw [r1] at k1
        have hk0 : E.2.1 i = 1 := (nI_inj (b := 1) (by omega) (by omega)).mp k1
        have hev : evI E ch m i = true := by simp [evI, hm']; cases h : ch.testBit i with | true => rfl | false => exact absurd h hb
        rw [h9, show (3 : Int32) = nI 3 from rfl, nI_add] at e1
        subst e1
        refine hnext _ ?_ ?_ ?_ (fun a b hab => ?_)
        · rw [su_nc _ _ _ _ (by omega), h7, gaS, if_neg (by rw [hk0]; simp)]
        · rw [su_nc _ _ _ _ (by omega), h8, gaH, if_neg (by rw [hk0]; simp)]
        · rw [su_eq, gaR, if_pos ⟨hev, hk0⟩]
        · rw [frS a b (fun q => hab ⟨q.1, by omega, by omega⟩)]
          exact hf a b hab
      · intro σ1 e1
        rw [r2, nI_inj (by omega) (by omega)] at hm'
        rw [hbV_0 hch (by omega)] at hb
        rw [r1] at k0 k1
        have hk0 : ¬ E.2.1 i = 0 := fun q => k0 (by rw [q]; rfl)
        have hk1 : ¬ E.2.1 i = 1 := fun q => k1 (by rw [q]; rfl)
        have hev : evI E ch m i = true := by simp [evI, hm']; cases h : ch.testBit i with | true => rfl | false => exact absurd h hb
        rw [r3, h8, shl1 (by omega), or_nI] at e1
        subst e1
        refine hnext _ ?_ ?_ ?_ (fun a b hab => ?_)
        · rw [su_nc _ _ _ _ (by omega), h7, gaS, if_neg (fun q => hk0 q.2)]
        · rw [su_eq, gaH, if_pos ⟨hev, hk0, hk1⟩]
        · rw [su_nc _ _ _ _ (by omega), h9, gaR, if_neg (fun q => hk1 q.2)]
        · rw [frS a b (fun q => hab ⟨q.1, by omega, by omega⟩)]
          exact hf a b hab
      · refine hskip ?_
        rw [hbV_0 hch (by omega)] at hb
        simp [evI, hb]
  subst e1 e2 e3
  refine key E.1 0 _ (by omega) ?_ ?_ ?_ (fun a b hab => ?_)
  · simp [su]; rfl
  · simp [su]; rfl
  · simp [su]; rfl
  · rw [frS a b (fun q => hab ⟨q.1, by omega, by omega⟩), frS a b (fun q => hab ⟨q.1, by omega, by omega⟩), frS a b (fun q => hab ⟨q.1, by omega, by omega⟩)]
