/-! the reference's sheets -/
theorem RM.sh {σ σ' : Sg} {b : AB} (h : RM σ b) {X : XS} {f : Int32} (hf : ∀ a c, ¬ (167 ≤ a ∧ a ≤ 171) → (a = 136 → c ≠ 53) → σ' a c = σ a c) (hF : σ' 136 53 = f) (hX : ∀ s, s < 4 → X.2.1 s < 3 ∧ X.2.2.1 s ≤ 60) (hS : ∀ s, s < 4 → σ' 167 s = b2I (!X.1 s) ∧ σ' 168 s = nI (X.2.1 s) ∧ σ' 169 s = nI (X.2.2.1 s) ∧ ∀ i, i < 60 → σ' 170 (60 * s + i) = X.2.2.2 s i) : RM σ' (shB b X f) ∧ ∀ a, a < 136 → σ' a = σ a := by
  obtain ⟨hW, hT, hE, hI, -, -⟩ := h
  have r : ∀ a, ¬ (167 ≤ a ∧ a ≤ 171) → a ≠ 136 → σ' a = σ a := fun a z1 z2 => funext fun c => hf a c z1 (fun z => absurd z z2)
  refine ⟨⟨⟨hW.1, hW.2.1, hW.2.2.1, hW.2.2.2.1, hX⟩, ⟨?_, fun i hi => ?_⟩, ?_, ?_, hS, hF⟩, fun a ha => r a (by omega) (by omega)⟩
  · rw [hf 136 0 (by omega) (by omega)]; exact hT.1
  · rw [r 137 (by omega) (by omega)]; exact hT.2 i hi
  · rw [hf 136 8 (by omega) (by omega), r 143 (by omega) (by omega), r 144 (by omega) (by omega), r 145 (by omega) (by omega)]; exact hE
  · rw [hf 136 43 (by omega) (by omega), r 163 (by omega) (by omega), r 164 (by omega) (by omega), r 165 (by omega) (by omega)]; exact hI
theorem ct_meets (scr : ScA) (σ : Sg) {b : AB} (hR : RM σ b) (x : Int32) : CiA scr 0 mX11_meets [.ref 136, .int x] σ (fun r σ' => r = -10 - x ∧ RM σ' (fnB b x) ∧ ∀ a, a < 136 → σ' a = σ a) := by
  refine E_X11_meets (W_X11_meets_0 fun s1 e1 => ⟨rfl, ?_⟩)
  refine hR.sh (fun a c z1 z2 => ?_) (by rw [e1, su_eq]) hR.1.2.2.2.2 fun s hs => ?_
  · rw [e1]
    by_cases z : a = 136
    · rw [su_nc _ _ _ _ (z2 z)]
    · rw [su_nr _ _ _ _ z]
  · rw [e1, su_nr _ _ _ _ (by omega), su_nr _ _ _ _ (by omega), su_nr _ _ _ _ (by omega)]
    obtain ⟨q1, q2, q3, q4⟩ := hR.2.2.2.2.1 s hs
    exact ⟨q1, q2, q3, fun i hi => by rw [su_nr _ _ _ _ (by omega)]; exact q4 i hi⟩
theorem om_sheet (scr : ScA) (b : AB) (s f n : Int32) : OkM scr 2 mX11_sheet [.ref 136, .int s, .int f, .int n] b (sp_sheet b s f n) := by
  intro σ hR
  unfold sp_sheet
  have bad : ∀ t : Int32 × AB, t = (-2, b) → (-2 : Int32) = t.1 ∧ RM σ t.2 ∧ ∀ a, a < 136 → σ a = σ a := fun t h => by rw [h]; exact ⟨rfl, hR, fun _ _ => rfl⟩
  refine E_X11_sheet (W_X11_sheet_0 ?_)
  rw [in4, in3]
  refine ⟨fun z => bad _ (if_pos (Or.inl z)), fun z1 => ⟨fun z => bad _ (if_pos (Or.inr (Or.inl z))), fun z2 => ⟨fun z3 => ?_, fun z => bad _ (if_pos (Or.inr (Or.inr z)))⟩⟩⟩
  rw [if_neg (fun z => z.elim z1 fun z => z.elim z2 fun z => z z3)]
  refine ⟨fun z4 => ?_, fun z4 => ?_⟩
  · rw [if_neg (fun z => z z4)]
    obtain ⟨j1, hj1, rfl, -⟩ := (isW_or s (n := 4) (by decide)).resolve_left z1
    obtain ⟨j2, hj2, rfl, -⟩ := (isW_or f (n := 3) (by decide)).resolve_left z2
    obtain ⟨k, hk, rfl⟩ := nI_of (x := n) (Int32.not_lt.mpr z4)
    have hk60 : k ≤ 60 := by
      rw [show (60 : Int32) = nI 60 from rfl, nI_le' hk (by omega)] at z3
      exact z3
    rw [tN_nI (n := j1) (by omega), tN_nI (n := j2) (by omega), tN_nI (n := k) (by omega)]
    refine ⟨inB_nI hj1 (by decide), fun s1 e1 s2 e2 s3 e3 => ?_⟩
    have key : ∀ (j i : Nat) (t : Sg), i + j = 60 → (∀ a c, ¬ (167 ≤ a ∧ a ≤ 170) → t a c = σ a c) → (∀ x, x < 4 → t 167 x = b2I (!(if x = j1 then false else aLo b x)) ∧ t 168 x = nI (if x = j1 then j2 else aFo b x) ∧ t 169 x = nI (if x = j1 then k else aSz b x) ∧ ∀ y, y < 60 → t 170 (60 * x + y) = if x = j1 ∧ y < i then 0 else aIt b x y) → K_X11_sheet_59 scr (nI j1) (nI k) (nI i) t (fun r σ' => r = nI k ∧ RM σ' (shB b (rnX b j1 j2 k) (aF b)) ∧ ∀ a, a < 136 → σ' a = σ a) := by
      intro j
      induction j with
      | zero =>
        intro i t hi hf hx
        have : i = 60 := by omega
        subst this
        refine W_X11_sheet_59 ⟨fun _ => ⟨rfl, ?_⟩, fun h => absurd (Int32.le_refl _) h⟩
        refine hR.sh (fun a c y1 y2 => hf a c (by omega)) (by rw [hf 136 53 (by omega)]; exact hR.2.2.2.2.2) (fun x hx' => ?_) (fun x hx' => ?_)
        · show (if x = j1 then j2 else aFo b x) < 3 ∧ (if x = j1 then k else aSz b x) ≤ 60
          have := hR.1.2.2.2.2 x hx'
          split
          · exact ⟨hj2, hk60⟩
          · exact this
        · obtain ⟨q1, q2, q3, q4⟩ := hx x hx'
          refine ⟨q1, q2, q3, fun y hy => ?_⟩
          rw [q4 y hy]
          show _ = if x = j1 then 0 else aIt b x y
          by_cases z : x = j1
          · rw [if_pos ⟨z, hy⟩, if_pos z]
          · rw [if_neg (fun q => z q.1), if_neg z]
      | succ j ih =>
        intro i t hi hf hx
        have e60 : 60 * nI j1 + nI i = nI (60 * j1 + i) := by rw [show (60 : Int32) = nI 60 from rfl, pk_mul, nI_add]
        refine W_X11_sheet_59 ⟨fun h => ?_, fun _ => ?_⟩
        · rw [show (60 : Int32) = nI 60 from rfl, nI_le' (by omega) (by omega)] at h
          omega
        rw [e60, nI_add1]
        refine ⟨inB_nI (by omega) (by decide), fun t2 d2 => ih (i + 1) t2 (by omega) (fun a c y1 => ?_) (fun x hx' => ?_)⟩
        · rw [d2, su_nr _ _ _ _ (by omega)]; exact hf a c y1
        · rw [tN_nI (by omega)] at d2
          obtain ⟨q1, q2, q3, q4⟩ := hx x hx'
          rw [d2, su_nr _ _ _ _ (by omega), su_nr _ _ _ _ (by omega), su_nr _ _ _ _ (by omega)]
          refine ⟨q1, q2, q3, fun y hy => ?_⟩
          by_cases z : x = j1 ∧ y = i
          · rw [z.1, z.2, su_eq, if_pos ⟨rfl, by omega⟩]
          · rw [su_nc _ _ _ _ (show 60 * x + y ≠ 60 * j1 + i by omega), q4 y hy]
            by_cases w : x = j1 ∧ y < i
            · rw [if_pos w, if_pos ⟨w.1, by omega⟩]
            · rw [if_neg w, if_neg (by omega)]
    refine key 60 0 s3 (by omega) (fun a c y1 => ?_) (fun x hx' => ?_)
    · rw [e3, su_nr _ _ _ _ (by omega), e2, su_nr _ _ _ _ (by omega), e1, su_nr _ _ _ _ (by omega)]
    · obtain ⟨q1, q2, q3, q4⟩ := hR.2.2.2.2.1 x hx'
      refine ⟨?_, ?_, ?_, fun y hy => ?_⟩
      · rw [e3, su_nr _ _ _ _ (by omega), e2, su_nr _ _ _ _ (by omega), e1]
        by_cases z : x = j1
        · rw [if_pos z, z, su_eq]; rfl
        · rw [if_neg z, su_nc _ _ _ _ z]; exact q1
      · rw [e3, su_nr _ _ _ _ (by omega), e2]
        by_cases z : x = j1
        · rw [if_pos z, z, su_eq]
        · rw [if_neg z, su_nc _ _ _ _ z, e1, su_nr _ _ _ _ (by omega)]; exact q2
      · rw [e3]
        by_cases z : x = j1
        · rw [if_pos z, z, su_eq]
        · rw [if_neg z, su_nc _ _ _ _ z, e2, su_nr _ _ _ _ (by omega), e1, su_nr _ _ _ _ (by omega)]; exact q3
      · rw [if_neg (by omega), e3, su_nr _ _ _ _ (by omega), e2, su_nr _ _ _ _ (by omega), e1, su_nr _ _ _ _ (by omega)]; exact q4 y hy
  · rw [if_pos z4]
    exact (ct_meets scr σ hR 5).weak fun r s1 ⟨h1, h2, h3⟩ => W_X11_sheet_34 ⟨h1, h2, h3⟩
theorem b2n_0 {x : Bool} : b2I (!x) = 0 ↔ x = true := by cases x <;> simp [b2I]
theorem om_lose (scr : ScA) (b : AB) (s : Int32) : OkM scr 2 mX11_lose [.ref 136, .int s] b (sp_lose b s) := by
  intro σ hR
  unfold sp_lose
  refine E_X11_lose (W_X11_lose_0 ?_)
  rw [in4]
  refine ⟨fun z1 => ?_, fun z => by rw [if_pos z]; exact ⟨rfl, hR, fun _ _ => rfl⟩⟩
  rw [if_neg z1]
  obtain ⟨j1, hj1, rfl, -⟩ := (isW_or s (n := 4) (by decide)).resolve_left z1
  obtain ⟨q1, q2, q3, q4⟩ := hR.2.2.2.2.1 j1 hj1
  rw [tN_nI (by omega), q1, b2n_0]
  refine ⟨inB_nI hj1 (by decide), fun z s1 e1 => ?_, fun z => ?_⟩
  · rw [if_neg z]
    refine ⟨by rw [e1, su_nr _ _ _ _ (by omega)]; exact q3, ?_⟩
    refine hR.sh (fun a c y1 y2 => by rw [e1, su_nr _ _ _ _ (by omega)]) (by rw [e1, su_nr _ _ _ _ (by omega)]; exact hR.2.2.2.2.2) hR.1.2.2.2.2 (fun x hx' => ?_)
    obtain ⟨q1, q2, q3, q4⟩ := hR.2.2.2.2.1 x hx'
    rw [e1, su_nr (x := 168) _ _ _ _ (by omega), su_nr (x := 169) _ _ _ _ (by omega)]
    refine ⟨?_, q2, q3, fun y hy => by rw [su_nr _ _ _ _ (by omega)]; exact q4 y hy⟩
    show _ = b2I (!(if x = j1 then true else aLo b x))
    by_cases w : x = j1
    · rw [if_pos w, w, su_eq]; rfl
    · rw [if_neg w, su_nc _ _ _ _ w]; exact q1
  · rw [if_pos z]
    exact (ct_meets scr σ hR 1).weak fun r s1 ⟨h1, h2, h3⟩ => W_X11_lose_24 ⟨h1, h2, h3⟩
theorem la_wf {σ : Sg} {b : AB} (hR : RM σ b) {s : Nat} (hs : s < 4) (f i : Int32) : laV σ (nI s) f i = wfN b s f i := by
  obtain ⟨q1, q2, q3, q4⟩ := hR.2.2.2.2.1 s hs
  have hz := (hR.1.2.2.2.2 s hs).2
  unfold laV wfN
  rw [tN_nI (by omega), q1, q2, q3, in_isW i (by omega)]
  by_cases z : aLo b s = true
  · rw [if_neg (fun y => y (b2n_0.mpr z)), if_pos z]
  · rw [if_pos (fun y => z (b2n_0.mp y)), if_neg z]
    by_cases y : nI (aFo b s) = f
    · rw [if_pos y, if_pos y.symm]
    · rw [if_neg y, if_neg (fun q => y q.symm)]
theorem wf_c (b : AB) (s : Nat) (f i : Int32) : wfN b s f i = 0 ∧ wfN b s f i ≤ 0 ∨ ¬ wfN b s f i = 0 ∧ ¬ wfN b s f i ≤ 0 := by
  unfold wfN
  split
  · exact Or.inr ⟨by decide, by decide⟩
  · split
    · split
      · exact Or.inr ⟨by decide, by decide⟩
      · exact Or.inl ⟨rfl, by decide⟩
    · exact Or.inr ⟨by decide, by decide⟩
theorem cvv_eq {n : Nat} (h : n < 3) (v : Int32) : (if ¬ nI n = 0 then (if ¬ nI n = 1 then v else (Int32.toInt16 v).toInt32 : Int32) else (Int32.toInt8 v).toInt32 : Int32) = cvF n v := by
  rcases (by omega : n = 0 ∨ n = 1 ∨ n = 2) with rfl | rfl | rfl <;> rfl
theorem ct_keep (scr : ScA) (σ : Sg) {b : AB} (hR : RM σ b) {s i : Nat} (hs : s < 4) (hi : i < 60) (v : Int32) : CvA scr 0 mX11_keep [.ref 136, .int (nI s), .int (nI i), .int v] σ (fun σ' => RM σ' (shB b (stX b s i v) (aF b)) ∧ (∀ a, a < 136 → σ' a = σ a) ∧ σ' 157 = σ 157) := by
  obtain ⟨q1, q2, q3, q4⟩ := hR.2.2.2.2.1 s hs
  have e60 : 60 * nI s + nI i = nI (60 * s + i) := by rw [show (60 : Int32) = nI 60 from rfl, pk_mul, nI_add]
  refine E_X11_keep (W_X11_keep_0 ?_)
  rw [e60, tN_nI (n := s) (by omega), q2, cvv_eq (hR.1.2.2.2.2 s hs).1, tN_nI (by omega)]
  refine ⟨inB_nI hs (by decide), inB_nI (by omega) (by decide), fun s1 e1 => ?_⟩
  have := hR.sh (σ' := s1) (X := stX b s i v) (f := aF b) (fun a c y1 y2 => by rw [e1, su_nr _ _ _ _ (by omega)]) (by rw [e1, su_nr _ _ _ _ (by omega)]; exact hR.2.2.2.2.2) hR.1.2.2.2.2 (fun x hx' => by
    obtain ⟨q1, q2, q3, q4⟩ := hR.2.2.2.2.1 x hx'
    rw [e1, su_nr (x := 167) _ _ _ _ (by omega), su_nr (x := 168) _ _ _ _ (by omega), su_nr (x := 169) _ _ _ _ (by omega)]
    refine ⟨q1, q2, q3, fun y hy => ?_⟩
    show _ = if x = s ∧ y = i then cvF (aFo b s) v else aIt b x y
    by_cases z : x = s ∧ y = i
    · rw [if_pos z, z.1, z.2, su_eq]
    · rw [if_neg z, su_nc _ _ _ _ (by omega)]; exact q4 y hy)
  exact ⟨this.1, this.2, by rw [e1, su_off _ _ _ _ (by omega)]⟩
theorem om_put (scr : ScA) (b : AB) (s f i v : Int32) : OkM scr 2 mX11_put [.ref 136, .int s, .int f, .int i, .int v] b (sp_put b s f i v) := by
  intro σ hR
  unfold sp_put
  have bad : ∀ t : Int32 × AB, t = (-2, b) → (-2 : Int32) = t.1 ∧ RM σ t.2 ∧ ∀ a, a < 136 → σ a = σ a := fun t h => by rw [h]; exact ⟨rfl, hR, fun _ _ => rfl⟩
  refine E_X11_put (W_X11_put_0 ?_)
  rw [in4, in3]
  refine ⟨fun z => bad _ (if_pos (Or.inl z)), fun z1 => ⟨fun z2 => ?_, fun z => bad _ (if_pos (Or.inr z))⟩⟩
  rw [if_neg (show ¬ (isW s 4 = 0 ∨ isW f 3 = 0) from fun z => z.elim z1 z2)]
  obtain ⟨j1, hj1, rfl, -⟩ := (isW_or s (n := 4) (by decide)).resolve_left z1
  rw [la_wf hR hj1, tN_nI (n := j1) (by omega)]
  refine ⟨inB_nI hj1 (by decide), ?_⟩
  rcases wf_c b j1 f i with ⟨w0, w1⟩ | ⟨w0, w1⟩
  · rw [if_pos w0]
    refine ⟨fun _ => ?_, fun h => absurd w1 h⟩
    have hz := (hR.1.2.2.2.2 j1 hj1).2
    obtain ⟨k, hk, rfl⟩ := wf_0 w0 hz
    rw [tN_nI (by omega)]
    exact (ct_keep scr σ hR hj1 (show k < 60 by omega) v).weak fun s1 ⟨h1, h2, _⟩ => W_X11_put_48 ⟨rfl, h1, h2⟩
  · rw [if_neg w0]
    exact ⟨fun h => absurd h w1, fun _ => (ct_meets scr σ hR _).weak fun r s1 ⟨h1, h2, h3⟩ => W_X11_put_39 ⟨h1, h2, h3⟩⟩
theorem om_get (scr : ScA) (b : AB) (s f i : Int32) : OkM scr 2 mX11_get [.ref 136, .int s, .int f, .int i] b (sp_get b s f i) := by
  intro σ hR
  unfold sp_get
  have bad : ∀ t : Int32 × AB, t = (-2147483648, b) → (-2147483648 : Int32) = t.1 ∧ RM σ t.2 ∧ ∀ a, a < 136 → σ a = σ a := fun t h => by rw [h]; exact ⟨rfl, hR, fun _ _ => rfl⟩
  refine E_X11_get (W_X11_get_0 ?_)
  rw [in4, in3]
  refine ⟨fun z => bad _ (if_pos (Or.inl z)), fun z1 => ⟨fun z2 => ?_, fun z => bad _ (if_pos (Or.inr z))⟩⟩
  rw [if_neg (show ¬ (isW s 4 = 0 ∨ isW f 3 = 0) from fun z => z.elim z1 z2)]
  obtain ⟨j1, hj1, rfl, -⟩ := (isW_or s (n := 4) (by decide)).resolve_left z1
  rw [la_wf hR hj1, tN_nI (n := j1) (by omega)]
  refine ⟨inB_nI hj1 (by decide), ?_⟩
  rcases wf_c b j1 f i with ⟨w0, w1⟩ | ⟨w0, w1⟩
  · rw [if_pos w0]
    refine ⟨fun _ => ?_, fun h => absurd w1 h⟩
    have hz := (hR.1.2.2.2.2 j1 hj1).2
    obtain ⟨k, hk, rfl⟩ := wf_0 w0 hz
    have e60 : 60 * nI j1 + nI k = nI (60 * j1 + k) := by rw [show (60 : Int32) = nI 60 from rfl, pk_mul, nI_add]
    rw [tN_nI (n := k) (by omega), e60, tN_nI (by omega)]
    exact ⟨inB_nI (by omega) (by decide), (hR.2.2.2.2.1 j1 hj1).2.2.2 k (by omega), hR, fun _ _ => rfl⟩
  · rw [if_neg w0]
    refine ⟨fun h => absurd h w1, fun _ s1 e1 => ⟨rfl, ?_⟩⟩
    refine hR.sh (fun a c y1 y2 => ?_) (by rw [e1, su_eq]) hR.1.2.2.2.2 fun s hs => ?_
    · rw [e1]
      by_cases z : a = 136
      · rw [su_nc _ _ _ _ (y2 z)]
      · rw [su_nr _ _ _ _ z]
    · rw [e1, su_nr _ _ _ _ (by omega), su_nr _ _ _ _ (by omega), su_nr _ _ _ _ (by omega)]
      obtain ⟨q1, q2, q3, q4⟩ := hR.2.2.2.2.1 s hs
      exact ⟨q1, q2, q3, fun i hi => by rw [su_nr _ _ _ _ (by omega)]; exact q4 i hi⟩
theorem om_write (scr : ScA) (b : AB) (m s : Int32) : OkM scr 7 mX11_write [.ref 136, .int m, .int s] b (sp_write b m s) := by
  intro σ hR
  unfold sp_write
  have bad : ∀ t : Int32 × AB, t = (-2, b) → (-2 : Int32) = t.1 ∧ RM σ t.2 ∧ ∀ a, a < 136 → σ a = σ a := fun t h => by rw [h]; exact ⟨rfl, hR, fun _ _ => rfl⟩
  refine E_X11_write (W_X11_write_0 ?_)
  rw [in24, in4]
  refine ⟨fun z => bad _ (if_pos (Or.inl z)), fun z1 => ⟨fun z2 => ?_, fun z => bad _ (if_pos (Or.inr z))⟩⟩
  rw [if_neg (show ¬ (isW m 24 = 0 ∨ isW s 4 = 0) from fun z => z.elim z1 z2)]
  obtain ⟨j1, hj1, rfl, -⟩ := (isW_or m (n := 24) (by decide)).resolve_left z1
  obtain ⟨j2, hj2, rfl, -⟩ := (isW_or s (n := 4) (by decide)).resolve_left z2
  obtain ⟨q1, q2, q3, q4⟩ := hR.2.2.2.2.1 j2 hj2
  have hz := (hR.1.2.2.2.2 j2 hj2).2
  rw [tN_nI (n := j1) (by omega), tN_nI (n := j2) (by omega), q1, b2n_0]
  refine ⟨inB_nI hj2 (by decide), fun z => ?_, fun z => ?_⟩
  · rw [if_neg z]
    refine (ct_runsTold scr σ hR).weak fun s1 ⟨M1, S1, N1, f1⟩ => W_X11_write_36 ?_
    have key : ∀ (j i : Nat) (t : Sg), i + j = mn10 (aSz b j2) → RM t (wrB b j1 j2 i) → (∀ a, a < 136 → t a = σ a) → t 157 = s1 157 → K_X11_write_38 scr (nI j1) (nI j2) (nI i) t (fun r σ' => r = nI (mn10 (aSz b j2)) ∧ RM σ' (wrB b j1 j2 (mn10 (aSz b j2))) ∧ ∀ a, a < 136 → σ' a = σ a) := by
      intro j
      induction j with
      | zero =>
        intro i t hi R f hw
        have hi' : i = mn10 (aSz b j2) := by omega
        have sz : t 169 j2 = nI (aSz b j2) := by rw [(R.2.2.2.2.1 j2 hj2).2.2.1, (wrB_same b j1 j2 i).2.2.2.1]
        refine W_X11_write_38 ⟨inB_nI hj2 (by decide), ?_⟩
        have fin' : nI i = nI (mn10 (aSz b j2)) ∧ RM t (wrB b j1 j2 (mn10 (aSz b j2))) ∧ ∀ a, a < 136 → t a = σ a := by
          rw [← hi']
          exact ⟨rfl, R, f⟩
        rw [tN_nI (by omega), sz]
        have hm : i = if aSz b j2 < 10 then aSz b j2 else 10 := hi'
        refine ⟨fun _ => fin', fun h => ⟨fun _ => fin', fun h2 => ?_⟩⟩
        rw [nI_le' (by omega) (by split at hm <;> omega)] at h
        rw [c10, nI_le' (by omega) (by split at hm <;> omega)] at h2
        split at hm <;> omega
      | succ j ih =>
        intro i t hi R f hw
        have hm : i + (j + 1) = if aSz b j2 < 10 then aSz b j2 else 10 := hi
        have hi10 : i < 10 ∧ i < aSz b j2 := by split at hm <;> omega
        obtain ⟨w1, w2, w3, w4, w5⟩ := wrB_same b j1 j2 i
        have sz : t 169 j2 = nI (aSz b j2) := by rw [(R.2.2.2.2.1 j2 hj2).2.2.1, w4]
        refine W_X11_write_38 ⟨inB_nI hj2 (by decide), ?_⟩
        have e10 : 10 * nI j1 + nI i = nI (10 * j1 + i) := by rw [c10, pk_mul, nI_add]
        rw [tN_nI (by omega), sz, e10]
        refine ⟨fun h => ?_, fun _ => ⟨fun h => ?_, fun _ => ⟨inB_nI (by omega) (by decide), ?_⟩⟩⟩
        · rw [nI_le' (by omega) (by omega)] at h
          omega
        · rw [c10, nI_le' (by omega) (by omega)] at h
          omega
        rw [tN_nI (by omega), hw, (N1.1 j1 hj1).2.2.1 i hi10.1]
        refine (ct_keep scr t R hj2 (show i < 60 by omega) _).weak fun t2 ⟨h1, h2, h3⟩ => W_X11_write_71 ?_
        rw [nI_add1]
        refine ih (i + 1) t2 (by omega) ?_ (fun a ha => by rw [h2 a ha, f a ha]) (by rw [h3, hw])
        rw [w5] at h1
        exact h1
    exact key (mn10 (aSz b j2)) 0 s1 (by omega) (f1.rm hR) f1.lo rfl
  · rw [if_pos z]
    exact (ct_meets scr σ hR 1).weak fun r s1 ⟨h1, h2, h3⟩ => W_X11_write_31 ⟨h1, h2, h3⟩
theorem ev_val (c : AB) (x y z : Int32) (h8 : (aE c).1 ≤ 8) : 0 ≤ (sp_event c x y z).1 ↔ ¬ (sp_event c x y z).1 ≤ 0 := by
  unfold sp_event
  split
  · show (0 : Int32) ≤ -2 ↔ ¬ (-2 : Int32) ≤ 0
    decide
  · split
    · show 0 ≤ nI ((aE c).1 + 1) ↔ ¬ nI ((aE c).1 + 1) ≤ 0
      rw [show (0 : Int32) = nI 0 from rfl, nI_le' (by omega) (by omega), nI_le' (by omega) (by omega)]
      omega
    · show (0 : Int32) ≤ -4 ↔ ¬ (-4 : Int32) ≤ 0
      decide
theorem om_read (scr : ScA) (b : AB) (s : Int32) : OkM scr 3 mX11_read [.ref 136, .int s] b (sp_read b s) := by
  intro σ hR
  unfold sp_read
  refine E_X11_read (W_X11_read_0 ?_)
  rw [in4]
  refine ⟨fun z1 => ?_, fun z => by rw [if_pos z]; exact ⟨rfl, hR, fun _ _ => rfl⟩⟩
  rw [if_neg z1]
  obtain ⟨j1, hj1, rfl, -⟩ := (isW_or s (n := 4) (by decide)).resolve_left z1
  obtain ⟨q1, q2, q3, q4⟩ := hR.2.2.2.2.1 j1 hj1
  have w1 := hR.1.2.2.2.2 j1 hj1
  have e60 : 60 * nI j1 = nI (60 * j1) := by rw [show (60 : Int32) = nI 60 from rfl, pk_mul]
  rw [tN_nI (by omega), q1, b2n_0, e60]
  refine ⟨inB_nI hj1 (by decide), fun z => ?_, fun z => ?_⟩
  · rw [if_neg z]
    have key : ∀ (f n : Nat) (c : AB) (s1 : Sg), n + f = 20 → RM s1 c → aX c = aX b → (∀ a, a < 136 → s1 a = σ a) → rdE b j1 f n c = rdE b j1 20 0 b → K_X11_read_32 scr (nI j1) (nI n) (nI (60 * j1)) s1 (fun r σ' => r = nI (rdE b j1 20 0 b).1 ∧ RM σ' (rdE b j1 20 0 b).2 ∧ ∀ a, a < 136 → σ' a = σ a) := by
      intro f
      induction f with
      | zero =>
        intro n c s1 hn R1 hX f1 he
        have he' : (n, c) = rdE b j1 20 0 b := he
        have kz : s1 169 j1 = nI (aSz b j1) := by
          rw [(R1.2.2.2.2.1 j1 hj1).2.2.1]
          show nI ((aX c).2.2.1 j1) = nI ((aX b).2.2.1 j1)
          rw [hX]
        refine W_X11_read_32 ⟨inB_nI hj1 (by decide), fun _ => by rw [← he']; exact ⟨rfl, R1, f1⟩, fun h => absurd ?_ h⟩
        rw [tN_nI (by omega), kz, c2, c3, pk_mul, nI_add, nI_le' (by omega) (by omega)]
        omega
      | succ f ih =>
        intro n c s1 hn R1 hX f1 he
        have kz : s1 169 j1 = nI (aSz b j1) := by
          rw [(R1.2.2.2.2.1 j1 hj1).2.2.1]
          show nI ((aX c).2.2.1 j1) = nI ((aX b).2.2.1 j1)
          rw [hX]
        have ei : ∀ k, k < 60 → s1 170 (60 * j1 + k) = aIt b j1 k := fun k hk => by
          rw [(R1.2.2.2.2.1 j1 hj1).2.2.2 k hk]
          show (aX c).2.2.2 j1 k = (aX b).2.2.2 j1 k
          rw [hX]
        have hs : rdE b j1 (f + 1) n c = if 3 * n + 2 < aSz b j1 then (if 0 ≤ (sp_event c (aIt b j1 (3 * n)) (aIt b j1 (3 * n + 1)) (aIt b j1 (3 * n + 2))).1 then rdE b j1 f (n + 1) (sp_event c (aIt b j1 (3 * n)) (aIt b j1 (3 * n + 1)) (aIt b j1 (3 * n + 2))).2 else (n, (sp_event c (aIt b j1 (3 * n)) (aIt b j1 (3 * n + 1)) (aIt b j1 (3 * n + 2))).2)) else (n, c) := rfl
        rw [hs] at he
        refine W_X11_read_32 ⟨inB_nI hj1 (by decide), ?_⟩
        rw [tN_nI (n := j1) (by omega), kz, c2, c3, pk_mul, nI_add, nI_add, nI_add1, nI_add, nI_le' (by omega) (by omega)]
        refine ⟨fun h => ?_, fun h => ?_⟩
        · rw [if_neg (by omega)] at he
          rw [← he]
          exact ⟨rfl, R1, f1⟩
        · rw [if_pos (by omega)] at he
          have hn3 : 3 * n + 2 < 60 := by omega
          refine ⟨inB_nI (by omega) (by decide), inB_nI (by omega) (by decide), inB_nI (by omega) (by decide), ?_⟩
          rw [tN_nI (n := 60 * j1 + 3 * n) (by omega), tN_nI (n := 60 * j1 + 3 * n + 1) (by omega), tN_nI (n := 60 * j1 + 3 * n + 2) (by omega), Nat.add_assoc (60 * j1) (3 * n) 1, Nat.add_assoc (60 * j1) (3 * n) 2, ei _ (by omega), ei _ (by omega), ei _ (by omega)]
          refine (om_event scr c _ _ _ s1 R1).weak fun r s2 ⟨hr, R2, f2⟩ => W_X11_read_84 ?_
          rw [hr]
          have ev := ev_val c (aIt b j1 (3 * n)) (aIt b j1 (3 * n + 1)) (aIt b j1 (3 * n + 2)) R1.1.2.2.1.1
          refine ⟨fun z => ?_, fun z => ?_⟩
          · rw [if_neg (fun y => ev.mp y z)] at he
            rw [← he]
            exact ⟨rfl, R2, fun a ha => by rw [f2 a ha, f1 a ha]⟩
          · rw [if_pos (ev.mpr z)] at he
            rw [nI_add1]
            exact ih (n + 1) _ s2 (by omega) R2 (by rw [sp_event_X]; exact hX) (fun a ha => by rw [f2 a ha, f1 a ha]) he
    exact key 20 0 b σ (by omega) hR rfl (fun _ _ => rfl) rfl
  · rw [if_pos z]
    exact (ct_meets scr σ hR 1).weak fun r s1 ⟨h1, h2, h3⟩ => W_X11_read_24 ⟨h1, h2, h3⟩
