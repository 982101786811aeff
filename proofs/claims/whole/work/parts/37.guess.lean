/-! the class's guesses -/
def nvF (T : TT) (E : EE) (I : SI) : Nat → Nat
  | 0 => 0
  | i + 1 => if fitB T E (dif (alB E) (2 ^ i)) I = true then nvF T E I i ||| 2 ^ i else nvF T E I i
theorem nvF_lt {T : TT} {E : EE} {I : SI} : ∀ i, i ≤ 8 → nvF T E I i < 256
  | 0, _ => (show 0 < 256 by omega)
  | i + 1, h => by
    have ih := nvF_lt (T := T) (E := E) (I := I) i (by omega)
    unfold nvF
    split
    · exact or_lt (n := 8) ih (pow_lt (n := 8) (by omega))
    · exact ih
def wtF (T : TT) (E : EE) (I : SI) (a : Nat) : Nat → Nat
  | 0 => 0
  | v + 1 => if fitB (weT T a (v + 1)) E (alB E) I = true then wtF T E I a v ||| 2 ^ (v + 1) else wtF T E I a v
def sgF (T : TT) (E : EE) (I : SI) (a : Nat) : Nat → Nat
  | 0 => 0
  | v + 1 => if fitB (stT T a (v + 1)) E (alB E) I = true then sgF T E I a v ||| 2 ^ (v + 1) else sgF T E I a v
theorem wtF_lt {T : TT} {E : EE} {I : SI} {a : Nat} : ∀ i, i ≤ 9 → wtF T E I a i < 1024
  | 0, _ => (show 0 < 1024 by omega)
  | i + 1, h => by
    have ih := wtF_lt (T := T) (E := E) (I := I) (a := a) i (by omega)
    unfold wtF
    split
    · exact or_lt (n := 10) ih (pow_lt (n := 10) (by omega))
    · exact ih
theorem sgF_lt {T : TT} {E : EE} {I : SI} {a : Nat} : ∀ i, i ≤ 9 → sgF T E I a i < 1024
  | 0, _ => (show 0 < 1024 by omega)
  | i + 1, h => by
    have ih := sgF_lt (T := T) (E := E) (I := I) (a := a) i (by omega)
    unfold sgF
    split
    · exact or_lt (n := 10) ih (pow_lt (n := 10) (by omega))
    · exact ih
theorem b2I_0 {b : Bool} : b2I b = 0 ↔ b = false := by cases b <;> simp [b2I]
theorem dif_lt256 {b : Nat} (x : Nat) (hb : b < 256) : dif b x < 256 := and_lt (n := 8) _ hb
theorem ct_never (scr : ScA) (σ : Sg) {T : TT} (hT : TW T) (hC : TrC σ 3 T) {E : EE} (hE : EW E) (hV : EvC σ 10 E) {I : SI} (hI : SIW I) (hS : SiC σ I) (hK : σ 77 6 = -1 ∨ σ 77 6 = nI (nvF T E I E.1)) : CiA scr 4 mX2_neverBits [.ref 77, .ref 3, .ref 10, .ref 14] σ (fun r σ' => r = nI (nvF T E I E.1) ∧ σ' 77 6 = nI (nvF T E I E.1) ∧ ∀ a, a ≠ 77 → ¬ (85 ≤ a ∧ a ≤ 90) → σ' a = σ a) := by
  have h8 := hE.1
  refine E_X2_neverBits (W_X2_neverBits_0 ⟨fun _ s1 e1 => ?_, fun h => ?_⟩)
  · have key : ∀ (j i : Nat) (s : Sg), i + j = E.1 → s 77 6 = nI (nvF T E I i) → (∀ a, a ≠ 77 → ¬ (85 ≤ a ∧ a ≤ 90) → s a = σ a) → K_X2_neverBits_21 scr (nI i) s (fun r σ' => r = nI (nvF T E I E.1) ∧ σ' 77 6 = nI (nvF T E I E.1) ∧ ∀ a, a ≠ 77 → ¬ (85 ≤ a ∧ a ≤ 90) → σ' a = σ a) := by
      intro j
      induction j with
      | zero =>
        intro i s hi h6 hf
        have : i = E.1 := by omega
        subst this
        refine W_X2_neverBits_21 ⟨fun _ => ⟨h6, h6, hf⟩, fun h => absurd ?_ h⟩
        rw [hf 10 (by omega) (by omega), hV.1]
        exact Int32.le_refl _
      | succ j ih =>
        intro i s hi h6 hf
        have Vs : EvC s 10 E := hV.fr fun y hy => hf _ (by omega) (by omega)
        have Cs : TrC s 3 T := hC.fr fun y hy => hf _ (by omega) (by omega)
        have ha := alB_lt hE
        have hd := dif_lt256 (2 ^ i) ha
        refine W_X2_neverBits_21 ⟨fun h => ?_, fun _ => ?_⟩
        · rw [Vs.1, nI_le' (by omega) (by omega)] at h
          omega
        rw [all_E hE Vs, shl1 (by omega), dif_nI (by omega) (pow_lt (n := 10) (by omega))]
        refine (ct_play scr (Or.inr (Or.inr (Or.inl rfl))) (Or.inl rfl) (Or.inl rfl) s hT Cs hE Vs (ch := dif (alB E) (2 ^ i)) (by omega)).weak fun s2 ⟨P2, f2⟩ => W_X2_neverBits_51 ?_
        have g2 : ∀ a, ¬ (85 ≤ a ∧ a ≤ 90) → s2 a = s a := fun a z => f2 a fun y => by unfold inSh at y; omega
        have S2 : SiC s2 I := hS.fr fun a z1 z2 => by rw [g2 a (by omega)]; exact hf a (by omega) (by omega)
        have C2 : TrC s2 3 T := Cs.fr fun y hy => g2 _ (by omega)
        refine (ct_fit scr (Or.inl rfl) s2 hT C2 P2 hI S2).weak fun r s3 ⟨hr, hs3⟩ => W_X2_neverBits_60 ?_
        subst hs3
        have w6 : s3 77 6 = nI (nvF T E I i) := by rw [g2 77 (by omega)]; exact h6
        have g3 : ∀ a, a ≠ 77 → ¬ (85 ≤ a ∧ a ≤ 90) → s3 a = σ a := fun a z1 z2 => by rw [g2 a z2]; exact hf a z1 z2
        rw [hr, b2I_0, nI_add1]
        refine ⟨fun h => ?_, fun h s4 e4 => ?_⟩
        · refine ih (i + 1) s3 (by omega) ?_ g3
          rw [nvF, if_neg (by rw [h]; simp)]
          exact w6
        · have h' : fitB T E (dif (alB E) (2 ^ i)) I = true := by cases z : fitB T E (dif (alB E) (2 ^ i)) I with | true => rfl | false => exact absurd z h
          refine ih (i + 1) s4 (by omega) ?_ (fun a z1 z2 => by rw [e4, su_off _ _ _ _ z1]; exact g3 a z1 z2)
          rw [e4, su_eq, w6, shl1 (by omega), or_nI, nvF, if_pos h']
    refine key E.1 0 s1 (by omega) (by rw [e1, su_eq]; rfl) (fun a z1 z2 => by rw [e1, su_off _ _ _ _ z1])
  · have := hK.resolve_left h
    exact ⟨this, this, fun _ _ _ => rfl⟩
/-- the guessing show, of a troupe on trial -/
theorem ct_gplay (scr : ScA) {T : TT} (hT : TW T) {E : EE} (hE : EW E) (σ : Sg) (hC : TrC σ 78 T) (hV : EvC σ 10 E) : CvA scr 3 mX5_play [.ref 85, .ref 78, .ref 10, .int (((1 : Int32) <<< ((σ 10 3) &&& 31)) - 1), .int 0] σ (fun σ' => PlR σ' 85 T E (alB E) 24 ∧ ∀ a, ¬ (85 ≤ a ∧ a ≤ 90) → σ' a = σ a) := by
  rw [all_E hE hV]
  refine (ct_play scr (Or.inr (Or.inr (Or.inl rfl))) (Or.inr (Or.inr rfl)) (Or.inl rfl) σ hT hC hE hV (by have := alB_lt hE; omega)).weak fun s ⟨hP, hf⟩ => ⟨hP, fun a ha => hf a fun z => ?_⟩
  unfold inSh at z
  omega
theorem weT_we (T : TT) (a v w : Nat) : weT (weT T a v) a w = weT T a w := by
  have e1 : (fun x => if x = a then w else twe (weT T a v) x) = fun x => if x = a then w else twe T x := by
    funext x
    by_cases z : x = a
    · rw [if_pos z, if_pos z]
    · rw [if_neg z, if_neg z]
      show (if x = a then v else twe T x) = twe T x
      rw [if_neg z]
  show (tn T, tso T, (fun x => if x = a then w else twe (weT T a v) x), tst T, tco T, tpl T) = _
  rw [e1]
  rfl
theorem ifb {b : Bool} {x y : Int32} : (if b2I b = 0 then x else y : Int32) = if b = true then y else x := by cases b <;> rfl
theorem ct_tryWeights (scr : ScA) (σ : Sg) {T : TT} (hT : TW T) (hC : TrC σ 3 T) {E : EE} (hE : EW E) (hV : EvC σ 10 E) {I : SI} (hI : SIW I) (hS : SiC σ I) {a : Nat} (ha : a < tn T) (hK : σ 93 a = -1 ∨ σ 93 a = nI (wtF T E I a 9)) : CvA scr 4 mX2_tryWeights [.ref 77, .ref 3, .ref 10, .ref 14, .int (nI a)] σ (fun σ' => σ' 93 a = nI (wtF T E I a 9) ∧ (∀ b, b ≠ a → σ' 93 b = σ 93 b) ∧ ∀ x, x ≠ 93 → ¬ (78 ≤ x ∧ x ≤ 90) → σ' x = σ x) := by
  have hn := hT.1
  have ta : (nI a).toNatClampNeg = a := tN_nI (by omega)
  refine E_X2_tryWeights (W_X2_tryWeights_0 ⟨inB_nI (by omega) (by decide), ?_⟩)
  rw [ta]
  refine ⟨fun _ => ?_, fun h => ⟨hK.resolve_left h, fun _ _ => rfl, fun _ _ _ => rfl⟩⟩
  refine (ct_become scr (Or.inr rfl) σ hT hC).weak fun s2 ⟨C2, f2⟩ => W_X2_tryWeights_23 ?_
  have key : ∀ (j v : Nat) (s : Sg), v + j = 9 → (∀ w, TrC (su s 80 a (nI w)) 78 (weT T a w)) → (∀ x, ¬ (78 ≤ x ∧ x ≤ 90) → s x = σ x) → K_X2_tryWeights_26 scr (nI a) (nI (wtF T E I a v)) (nI (v + 1)) s (fun σ' => σ' 93 a = nI (wtF T E I a 9) ∧ (∀ b, b ≠ a → σ' 93 b = σ 93 b) ∧ ∀ x, x ≠ 93 → ¬ (78 ≤ x ∧ x ≤ 90) → σ' x = σ x) := by
    intro j
    induction j with
    | zero =>
      intro v s hv hs hf
      have : v = 9 := by omega
      subst this
      refine W_X2_tryWeights_26 ⟨fun _ => ⟨inB_nI (by omega) (by decide), fun s3 e3 => ?_⟩, fun h => absurd (by decide) h⟩
      rw [ta] at e3
      subst e3
      refine ⟨su_eq .., fun b hb => ?_, fun x z1 z2 => ?_⟩
      · rw [su_nc _ _ _ _ hb, hf 93 (by omega)]
      · rw [su_off _ _ _ _ z1]
        exact hf x z2
    | succ j ih =>
      intro v s hv hs hf
      refine W_X2_tryWeights_26 ⟨fun h => ?_, fun _ => ⟨inB_nI (by omega) (by decide), fun s3 e3 => ?_⟩⟩
      · rw [show (9 : Int32) = nI 9 from rfl, nI_lt' (by omega) (by omega)] at h
        omega
      rw [ta] at e3
      have C3 : TrC s3 78 (weT T a (v + 1)) := by rw [e3]; exact hs (v + 1)
      have g3 : ∀ x, x ≠ 80 → s3 x = s x := fun x hx => by rw [e3, su_off _ _ _ _ hx]
      have V3 : EvC s3 10 E := hV.fr fun y hy => by rw [g3 _ (by omega), hf _ (by omega)]
      have W3 := weT_W hT (a := a) (v := v + 1) (by omega) (by omega)
      refine (ct_gplay scr W3 hE s3 C3 V3).weak fun s4 ⟨P4, f4⟩ => W_X2_tryWeights_62 ?_
      have C4 : TrC s4 78 (weT T a (v + 1)) := C3.fr fun y hy => f4 _ (by omega)
      have g4 : ∀ x, ¬ (78 ≤ x ∧ x ≤ 90) → s4 x = σ x := fun x z => by rw [f4 x (by omega), g3 x (by omega)]; exact hf x z
      refine (ct_fit scr (Or.inr (Or.inr rfl)) s4 W3 C4 P4 hI (hS.fr fun x z1 z2 => g4 x (by omega))).weak fun r s5 ⟨hr, hs5⟩ => W_X2_tryWeights_74 ?_
      subst hs5
      rw [hr, ifb, shl1 (by omega), or_nI, nI_add1]
      have e9 : (if fitB (weT T a (v + 1)) E (alB E) I = true then nI (wtF T E I a v ||| 2 ^ (v + 1)) else nI (wtF T E I a v) : Int32) = nI (wtF T E I a (v + 1)) := by
        rw [wtF]
        split <;> rfl
      rw [e9]
      refine ih (v + 1) s5 (by omega) (fun w => ?_) g4
      have := C4.we a w
      rw [weT_we] at this
      exact this
  exact key 9 0 s2 (by omega) (fun w => C2.we a w) (fun x z => f2 x (by omega))
def alN (bits : Nat) (tk : Nat → Nat → Nat) (m s : Nat) : Nat → Nat
  | 0 => 0
  | j + 1 => if bits.testBit s = true ∧ bits.testBit (j + 1) = true ∧ tk s m = tk (j + 1) m then alN bits tk m s j + 1 else alN bits tk m s j
def maN (bits : Nat) (tk : Nat → Nat → Nat) (m : Nat) : Nat → Nat
  | 0 => 0
  | s + 1 => if maN bits tk m s < alN bits tk m (s + 1) 9 then alN bits tk m (s + 1) 9 else maN bits tk m s
def tlN (bits : Nat) (tk : Nat → Nat → Nat) : Nat → Nat × Nat
  | 0 => (0, 10)
  | m + 1 => if maN bits tk m 9 < (tlN bits tk m).2 then (m, maN bits tk m 9) else tlN bits tk m
theorem alN_le (bits : Nat) (tk : Nat → Nat → Nat) (m s : Nat) : ∀ j, alN bits tk m s j ≤ j
  | 0 => Nat.le_refl _
  | j + 1 => by
    have := alN_le bits tk m s j
    unfold alN
    split <;> omega
theorem maN_le (bits : Nat) (tk : Nat → Nat → Nat) (m : Nat) : ∀ s, maN bits tk m s ≤ 9
  | 0 => by show 0 ≤ 9; omega
  | s + 1 => by
    have := maN_le bits tk m s
    have := alN_le bits tk m (s + 1) 9
    unfold maN
    split <;> omega
theorem tlN_le (bits : Nat) (tk : Nat → Nat → Nat) : ∀ m, (tlN bits tk m).2 ≤ 10 ∧ (tlN bits tk m).1 ≤ m
  | 0 => ⟨by show 10 ≤ 10; omega, by show 0 ≤ 0; omega⟩
  | m + 1 => by
    have h := tlN_le bits tk m
    have h2 := maN_le bits tk m 9
    unfold tlN
    split
    · exact ⟨by show maN bits tk m 9 ≤ 10; omega, by show m ≤ m + 1; omega⟩
    · exact ⟨h.1, by omega⟩
theorem ct_mostAlike (scr : ScA) (σ : Sg) {bits m : Nat} (hb : bits < 1024) (hm : m < 24) (tk : Nat → Nat → Nat) (htk : ∀ s, 1 ≤ s → s ≤ 9 → σ (96 + s) m = nI (tk s m) ∧ tk s m < 1024) : CiA scr 1 mX2_mostAlike [.ref 77, .int (nI bits), .int (nI m)] σ (fun r σ' => r = nI (maN bits tk m 9) ∧ σ' = σ) := by
  refine E_X2_mostAlike (W_X2_mostAlike_0 ?_)
  have tm : (nI m).toNatClampNeg = m := tN_nI (by omega)
  have outer : ∀ (j s : Nat), s + j = 9 → K_X2_mostAlike_5 scr (nI bits) (nI m) (nI (maN bits tk m s)) (nI (s + 1)) σ (fun r σ' => r = nI (maN bits tk m 9) ∧ σ' = σ) := by
    intro j
    induction j with
    | zero =>
      intro s hs
      have : s = 9 := by omega
      subst this
      exact W_X2_mostAlike_5 ⟨fun _ => ⟨rfl, rfl⟩, fun h => absurd (by decide) h⟩
    | succ j ih =>
      intro s hs
      refine W_X2_mostAlike_5 ⟨fun h => ?_, fun _ => ?_⟩
      · rw [show (9 : Int32) = nI 9 from rfl, nI_lt' (by omega) (by omega)] at h
        omega
      have inner : ∀ (i o : Nat), o + i = 9 → K_X2_mostAlike_18 scr (nI bits) (nI m) (nI (maN bits tk m s)) (nI (s + 1)) (nI (alN bits tk m (s + 1) o)) (nI (o + 1)) σ (fun r σ' => r = nI (maN bits tk m 9) ∧ σ' = σ) := by
        intro i
        induction i with
        | zero =>
          intro o ho
          have : o = 9 := by omega
          subst this
          have l1 := maN_le bits tk m s
          have l2 := alN_le bits tk m (s + 1) 9
          refine W_X2_mostAlike_18 ⟨fun _ => ?_, fun h => absurd (by decide) h⟩
          have e : (if nI (maN bits tk m s) < nI (alN bits tk m (s + 1) 9) then nI (alN bits tk m (s + 1) 9) else nI (maN bits tk m s) : Int32) = nI (maN bits tk m (s + 1)) := by
            rw [maN]
            have q := nI_lt' (a := maN bits tk m s) (b := alN bits tk m (s + 1) 9) (by omega) (by omega)
            by_cases z : maN bits tk m s < alN bits tk m (s + 1) 9
            · rw [if_pos (q.mpr z), if_pos z]
            · rw [if_neg (fun y => z (q.mp y)), if_neg z]
          rw [e, nI_add1]
          exact ih (s + 1) (by omega)
        | succ i ih2 =>
          intro o ho
          obtain ⟨t1, t1'⟩ := htk (s + 1) (by omega) (by omega)
          obtain ⟨t2, t2'⟩ := htk (o + 1) (by omega) (by omega)
          refine W_X2_mostAlike_18 ⟨fun h => ?_, fun _ => ⟨fun _ _ => ⟨inB_nI (by omega) (by decide), inB_nI (by omega) (by decide), inB_nI (by omega) (by decide)⟩, ?_⟩⟩
          · rw [show (9 : Int32) = nI 9 from rfl, nI_lt' (by omega) (by omega)] at h
            omega
          rw [tN_nI (n := s + 1) (by omega), tN_nI (n := o + 1) (by omega), tm, show 95 + 1 + 1 * (s + 1) = 96 + (s + 1) by omega, show 95 + 1 + 1 * (o + 1) = 96 + (o + 1) by omega, t1, t2, nI_add1, nI_add1]
          have q1 : hbV (nI bits) (nI (s + 1)) = 0 ↔ bits.testBit (s + 1) = false := hbV_0 (by omega) (by omega)
          have q2 : hbV (nI bits) (nI (o + 1)) = 0 ↔ bits.testBit (o + 1) = false := hbV_0 (by omega) (by omega)
          have q3 : nI (tk (s + 1) m) = nI (tk (o + 1) m) ↔ tk (s + 1) m = tk (o + 1) m := nI_inj (by omega) (by omega)
          have e : (if hbV (nI bits) (nI (s + 1)) = 0 then nI (alN bits tk m (s + 1) o) else (if hbV (nI bits) (nI (o + 1)) = 0 then nI (alN bits tk m (s + 1) o) else (if ¬ nI (tk (s + 1) m) = nI (tk (o + 1) m) then nI (alN bits tk m (s + 1) o) else nI (alN bits tk m (s + 1) o + 1) : Int32) : Int32) : Int32) = nI (alN bits tk m (s + 1) (o + 1)) := by
            rw [alN]
            by_cases z1 : bits.testBit (s + 1) = false
            · rw [if_pos (q1.mpr z1), if_neg (by rw [z1]; simp)]
            · rw [if_neg (fun y => z1 (q1.mp y))]
              by_cases z2 : bits.testBit (o + 1) = false
              · rw [if_pos (q2.mpr z2), if_neg (by rw [z2]; simp)]
              · rw [if_neg (fun y => z2 (q2.mp y))]
                by_cases z3 : tk (s + 1) m = tk (o + 1) m
                · rw [if_neg (fun y => y (q3.mpr z3)), if_pos ⟨by simpa using z1, by simpa using z2, z3⟩]
                · rw [if_pos (fun y => z3 (q3.mp y)), if_neg (fun y => z3 y.2.2)]
          rw [e]
          exact ih2 (o + 1) (by omega)
      exact inner 9 0 (by omega)
  exact outer 9 0 (by omega)
theorem ct_telling (scr : ScA) (σ : Sg) {bits : Nat} (hb : bits < 1024) (tk : Nat → Nat → Nat) (htk : ∀ m, m < 24 → ∀ s, 1 ≤ s → s ≤ 9 → σ (96 + s) m = nI (tk s m) ∧ tk s m < 1024) : CiA scr 2 mX2_tellingMoment [.ref 77, .int (nI bits)] σ (fun r σ' => r = nI (tlN bits tk 24).1 ∧ σ' = σ) := by
  refine E_X2_tellingMoment (W_X2_tellingMoment_0 ?_)
  have key : ∀ (j m : Nat), m + j = 24 → K_X2_tellingMoment_8 scr (nI bits) (nI (tlN bits tk m).1) (nI (tlN bits tk m).2) (nI m) σ (fun r σ' => r = nI (tlN bits tk 24).1 ∧ σ' = σ) := by
    intro j
    induction j with
    | zero =>
      intro m hm
      have : m = 24 := by omega
      subst this
      exact W_X2_tellingMoment_8 ⟨fun _ => ⟨rfl, rfl⟩, fun h => absurd (Int32.le_refl _) h⟩
    | succ j ih =>
      intro m hm
      refine W_X2_tellingMoment_8 ⟨fun h => ?_, fun _ => ?_⟩
      · rw [show (24 : Int32) = nI 24 from rfl, nI_le' (by omega) (by omega)] at h
        omega
      refine (ct_mostAlike scr σ hb (by omega) tk (htk m (by omega))).weak fun r s ⟨hr, hs⟩ => W_X2_tellingMoment_22 ?_
      subst hr hs
      have l1 := maN_le bits tk m 9
      have l2 := tlN_le bits tk m
      have q : nI (tlN bits tk m).2 ≤ nI (maN bits tk m 9) ↔ ¬ maN bits tk m 9 < (tlN bits tk m).2 := by rw [nI_le' (by omega) (by omega)]; omega
      have i1 := ih (m + 1) (by omega)
      rw [nI_add1]
      by_cases z : maN bits tk m 9 < (tlN bits tk m).2
      · rw [if_neg (fun y => q.mp y z), if_neg (fun y => q.mp y z)]
        rw [tlN, if_pos z] at i1
        exact i1
      · rw [if_pos (q.mpr z), if_pos (q.mpr z)]
        rw [tlN, if_neg z] at i1
        exact i1
  exact key 24 0 (by omega)
def tkS (T : TT) (E : EE) (a : Nat) (s m : Nat) : Nat := (sim (stT T a s) E (alB E) (m + 1)).1
def askN (T : TT) (E : EE) (I : SI) (a : Nat) : Nat := (tlN (sgF T E I a 9) (tkS T E a) 24).1
theorem cpy24 (f g : Nat → Int32) {j : Nat} (h : j < 24) : va_cpy f g (Int32.toNatClampNeg 0) (Int32.toNatClampNeg 0) (Int32.toNatClampNeg 24) j = f j := by
  rw [show Int32.toNatClampNeg 0 = 0 from rfl, show Int32.toNatClampNeg 24 = 24 from rfl, pk_cpy_in (by omega) (by omega)]
  congr 1
  omega
theorem ct_tryStrengths (scr : ScA) (σ : Sg) {T : TT} (hT : TW T) (hC : TrC σ 3 T) {E : EE} (hE : EW E) (hV : EvC σ 10 E) {I : SI} (hI : SIW I) (hS : SiC σ I) {a : Nat} (ha : a < tn T) (hK : σ 92 a = -1 ∨ (σ 92 a = nI (sgF T E I a 9) ∧ σ 94 a = nI (askN T E I a))) : CvA scr 4 mX2_tryStrengths [.ref 77, .ref 3, .ref 10, .ref 14, .int (nI a)] σ (fun σ' => σ' 92 a = nI (sgF T E I a 9) ∧ σ' 94 a = nI (askN T E I a) ∧ (∀ b, b ≠ a → σ' 92 b = σ 92 b ∧ σ' 94 b = σ 94 b) ∧ ∀ x, x ≠ 92 → x ≠ 94 → ¬ (78 ≤ x ∧ x ≤ 90) → ¬ (96 ≤ x ∧ x ≤ 105) → σ' x = σ x) := by
  have hn := hT.1
  have ta : (nI a).toNatClampNeg = a := tN_nI (by omega)
  refine E_X2_tryStrengths (W_X2_tryStrengths_0 ⟨inB_nI (by omega) (by decide), ?_⟩)
  rw [ta]
  refine ⟨fun _ => ?_, fun h => ⟨(hK.resolve_left h).1, (hK.resolve_left h).2, fun _ _ => ⟨rfl, rfl⟩, fun _ _ _ _ _ => rfl⟩⟩
  refine (ct_become scr (Or.inr rfl) σ hT hC).weak fun s2 ⟨C2, f2⟩ => W_X2_tryStrengths_23 ?_
  have key : ∀ (j v : Nat) (s : Sg), v + j = 9 → (∀ w, TrC (su s 81 a (nI w)) 78 (stT T a w)) → (∀ u, 1 ≤ u → u ≤ v → ∀ m, m < 24 → s (96 + u) m = nI (tkS T E a u m)) → (∀ x, ¬ (78 ≤ x ∧ x ≤ 90) → ¬ (96 ≤ x ∧ x ≤ 105) → s x = σ x) → K_X2_tryStrengths_26 scr (nI a) (nI (sgF T E I a v)) (nI (v + 1)) s (fun σ' => σ' 92 a = nI (sgF T E I a 9) ∧ σ' 94 a = nI (askN T E I a) ∧ (∀ b, b ≠ a → σ' 92 b = σ 92 b ∧ σ' 94 b = σ 94 b) ∧ ∀ x, x ≠ 92 → x ≠ 94 → ¬ (78 ≤ x ∧ x ≤ 90) → ¬ (96 ≤ x ∧ x ≤ 105) → σ' x = σ x) := by
    intro j
    induction j with
    | zero =>
      intro v s hv hs htk hf
      have : v = 9 := by omega
      subst this
      refine W_X2_tryStrengths_26 ⟨fun _ => ⟨inB_nI (by omega) (by decide), fun s3 e3 => ?_⟩, fun h => absurd (by decide) h⟩
      rw [ta] at e3
      refine (ct_telling scr s3 (sgF_lt 9 (by omega)) (tkS T E a) (fun m hm u h1 h2 => ⟨?_, (sim_B (stT_W hT (a := a) h1 h2) E (alB E) (m + 1) (by omega)).1⟩)).weak fun r s4 ⟨hr, hs4⟩ => W_X2_tryStrengths_134 ⟨inB_nI (by omega) (by decide), fun s5 e5 => ?_⟩
      · rw [e3, su_nr _ _ _ _ (by omega)]
        exact htk u h1 h2 m hm
      · rw [ta] at e5
        subst hr hs4 e3 e5
        refine ⟨?_, ?_, fun b hb => ⟨?_, ?_⟩, fun x z1 z2 z3 z4 => ?_⟩
        · rw [su_nr _ _ _ _ (by omega), su_eq]
        · rw [su_eq]; rfl
        · rw [su_nr _ _ _ _ (by omega), su_nc _ _ _ _ hb, hf 92 (by omega) (by omega)]
        · rw [su_nc _ _ _ _ hb, su_nr _ _ _ _ (by omega), hf 94 (by omega) (by omega)]
        · rw [su_off _ _ _ _ z2, su_off _ _ _ _ z1]
          exact hf x z3 z4
    | succ j ih =>
      intro v s hv hs htk hf
      refine W_X2_tryStrengths_26 ⟨fun h => ?_, fun _ => ⟨inB_nI (by omega) (by decide), fun s3 e3 => ?_⟩⟩
      · rw [show (9 : Int32) = nI 9 from rfl, nI_lt' (by omega) (by omega)] at h
        omega
      rw [ta] at e3
      have C3 : TrC s3 78 (stT T a (v + 1)) := by rw [e3]; exact hs (v + 1)
      have g3 : ∀ x, x ≠ 81 → s3 x = s x := fun x hx => by rw [e3, su_off _ _ _ _ hx]
      have V3 : EvC s3 10 E := hV.fr fun y hy => by rw [g3 _ (by omega), hf _ (by omega) (by omega)]
      have W3 := stT_W hT (a := a) (v := v + 1) (by omega) (by omega)
      refine (ct_gplay scr W3 hE s3 C3 V3).weak fun s4 ⟨P4, f4⟩ => W_X2_tryStrengths_62 ⟨inB_nI (by omega) (by decide), ?_⟩
      rw [tN_nI (by omega), show 95 + 1 + 1 * (v + 1) = 96 + (v + 1) by omega]
      refine ⟨(by decide : ∀ u, u < 10 → decide ((96 + u) < 172 ∧ (S0 (96 + u)).1 = 1 ∧ 86 < 172 ∧ (S0 86).1 = 1) = true) (v + 1) (by omega), (by decide : ∀ u, u < 10 → decide (¬ (0 : Int32) < 0 ∧ ¬ (0 : Int32) < 0 ∧ ¬ (24 : Int32) < 0 ∧ Int32.toNatClampNeg (0 : Int32) + Int32.toNatClampNeg (24 : Int32) ≤ (S0 86).2 ∧ Int32.toNatClampNeg (0 : Int32) + Int32.toNatClampNeg (24 : Int32) ≤ (S0 (96 + u)).2) = true) (v + 1) (by omega), fun s5 e5 => ?_⟩
      have f5 : ∀ x, x ≠ 96 + (v + 1) → s5 x = s4 x := fun x hx => by rw [e5]; funext b; exact sr_ne _ _ _ hx
      have C5 : TrC s5 78 (stT T a (v + 1)) := C3.fr fun y hy => by rw [f5 _ (by omega), f4 _ (by omega)]
      have P5 : PlR s5 85 (stT T a (v + 1)) E (alB E) 24 := by
        unfold PlR ShS
        rw [f5 85 (by omega), f5 (85 + 1) (by omega), f5 (85 + 2) (by omega), f5 (85 + 3) (by omega), f5 (85 + 4) (by omega)]
        exact ⟨P4.1, P4.2.1, P4.2.2.1, fun z => absurd z (by decide)⟩
      have g5 : ∀ x, ¬ (78 ≤ x ∧ x ≤ 90) → ¬ (96 ≤ x ∧ x ≤ 105) → s5 x = σ x := fun x z1 z2 => by rw [f5 x (by omega), f4 x (by omega), g3 x (by omega)]; exact hf x z1 z2
      refine (ct_fit scr (Or.inr (Or.inr rfl)) s5 W3 C5 P5 hI (hS.fr fun x z1 z2 => g5 x (by omega) (by omega))).weak fun r s6 ⟨hr, hs6⟩ => W_X2_tryStrengths_95 ?_
      subst hs6
      rw [hr, ifb, shl1 (by omega), or_nI, nI_add1]
      have e9 : (if fitB (stT T a (v + 1)) E (alB E) I = true then nI (sgF T E I a v ||| 2 ^ (v + 1)) else nI (sgF T E I a v) : Int32) = nI (sgF T E I a (v + 1)) := by
        rw [sgF]
        split <;> rfl
      rw [e9]
      refine ih (v + 1) s6 (by omega) (fun w => ?_) (fun u h1 h2 m hm => ?_) g5
      · have := C5.st a w
        rw [stT_st] at this
        exact this
      · by_cases z : u = v + 1
        · rw [z, e5, sr_at, cpy24 _ _ hm]
          exact P4.2.1 m hm
        · rw [f5 (96 + u) (by omega), f4 (96 + u) (by omega), g3 (96 + u) (by omega)]
          exact htk u h1 (by omega) m hm
  exact key 9 0 s2 (by omega) (fun w => C2.st a w) (fun u h1 h2 => by omega) (fun x z _ => f2 x (by omega))
theorem ct_gforget (scr : ScA) (σ : Sg) : CvA scr 1 mX2_forgetAnswers [.ref 77] σ (fun σ' => (∀ a, a < 10 → σ' 92 a = -1 ∧ σ' 93 a = -1) ∧ σ' 77 6 = -1 ∧ ∀ x, x ≠ 77 → x ≠ 92 → x ≠ 93 → σ' x = σ x) := by
  refine E_X2_forgetAnswers (W_X2_forgetAnswers_0 ((ct_fill scr (-1) σ (a := 92) (n := 10) ⟨by decide, rfl⟩ (by decide)).weak fun s1 e1 => W_X2_forgetAnswers_8 ((ct_fill scr (-1) s1 (a := 93) (n := 10) ⟨by decide, rfl⟩ (by decide)).weak fun s2 e2 => W_X2_forgetAnswers_16 fun s3 e3 => ?_)))
  subst e1 e2 e3
  refine ⟨fun a ha => ⟨?_, ?_⟩, su_eq .., fun x z1 z2 z3 => ?_⟩
  · rw [su_nr _ _ _ _ (by omega), sr_ne _ _ _ (by omega), sr_at, if_pos ha]
  · rw [su_nr _ _ _ _ (by omega), sr_at, if_pos ha]
  · funext b
    rw [su_nr _ _ _ _ z1, sr_ne _ _ _ z3, sr_ne _ _ _ z2]
