/-! the class's plans -/
def sta (T : TT) (E : EE) (ch : Nat) : Nat := sumP T E ch 24
theorem sumP_le (T : TT) (E : EE) (ch : Nat) : ∀ m, sumP T E ch m ≤ 10 * m
  | 0 => Nat.le_refl _
  | m + 1 => by
    have := sumP_le T E ch m
    have := pop_le (sim T E ch (m + 1)).1
    show sumP T E ch m + pop (sim T E ch (m + 1)).1 ≤ _
    omega
theorem sta_le (T : TT) (E : EE) (ch : Nat) : sta T E ch ≤ 240 := sumP_le T E ch 24
abbrev BB : Type := Option (Nat × Nat × Nat)
def enF (B : BB) : Int32 := match B with
  | none => -1
  | some t => nI t.1
def enS (B : BB) : Int32 := match B with
  | none => -1
  | some t => nbI t.2.1
def enA (B : BB) : Int32 := match B with
  | none => -1
  | some t => nI t.2.2
def offB (B : BB) (t : Nat × Nat × Nat) : BB := match B with
  | none => some t
  | some u => if u.2.2 < t.2.2 then some t else some u
def BW (B : BB) : Prop := ∀ u, B = some u → u.2.2 ≤ 240
theorem BW.off {B : BB} (h : BW B) {t : Nat × Nat × Nat} (ht : t.2.2 ≤ 240) : BW (offB B t) := by
  intro u hu
  cases B with
  | none => cases hu; exact ht
  | some w =>
    have hu' : (if w.2.2 < t.2.2 then some t else some w) = some u := hu
    split at hu'
    · cases hu'; exact ht
    · cases hu'; exact h u rfl
theorem BW.none : BW none := fun u h => by cases h
def BeV (σ : Sg) (k : Nat) (B : BB) : Prop := σ k 0 = enF B ∧ σ k 1 = enS B ∧ σ k 2 = enA B
theorem BeV.fr {σ σ' : Sg} {k : Nat} {B : BB} (h : BeV σ k B) (hf : σ' k = σ k) : BeV σ' k B := by
  unfold BeV
  rw [hf]
  exact h
theorem ct_bbegin (scr : ScA) {k : Nat} (hk : isBe k) (σ : Sg) : CvA scr 0 mX0_begin [.ref k] σ (fun σ' => BeV σ' k none ∧ σ' k 3 = 1 ∧ ∀ a, a ≠ k → σ' a = σ a) := by
  refine E_X0_begin (W_X0_begin_0 hk fun s1 e1 s2 e2 s3 e3 s4 e4 => ?_)
  subst e1 e2 e3 e4
  refine ⟨⟨?_, ?_, ?_⟩, ?_, fun a ha => ?_⟩
  · simp [su]; rfl
  · simp [su]; rfl
  · simp [su]; rfl
  · simp [su]
  · rw [su_off _ _ _ _ ha, su_off _ _ _ _ ha, su_off _ _ _ _ ha, su_off _ _ _ _ ha]
theorem ct_offer (scr : ScA) {k : Nat} (hk : isBe k) (σ : Sg) {B : BB} (hB : BeV σ k B) (hW : BW B) (x y : Nat) {n : Nat} (hn : n ≤ 240) : CvA scr 0 mX0_offer [.ref k, .int (nI x), .int (nbI y), .int (nI n)] σ (fun σ' => BeV σ' k (offB B (x, y, n)) ∧ σ' k 3 = σ k 3 ∧ ∀ a, a ≠ k → σ' a = σ a) := by
  have hc : nI n ≤ σ k 2 ↔ ∃ u, B = some u ∧ n ≤ u.2.2 := by
    rw [hB.2.2]
    cases B with
    | none =>
      refine ⟨fun h => ?_, fun ⟨u, h, _⟩ => by cases h⟩
      exfalso
      have h' : nI n ≤ (-1 : Int32) := h
      rw [Int32.le_iff_toInt_le, nI_toInt (by omega), show (-1 : Int32).toInt = -1 from by decide] at h'
      omega
    | some u =>
      have := hW u rfl
      show nI n ≤ nI u.2.2 ↔ _
      rw [nI_le' (by omega) (by omega)]
      exact ⟨fun h => ⟨u, rfl, h⟩, fun ⟨w, h, h2⟩ => by cases h; exact h2⟩
  refine E_X0_offer (W_X0_offer_0 hk ⟨fun h => ?_, fun h s1 e1 s2 e2 s3 e3 => ?_⟩)
  · obtain ⟨u, rfl, hu⟩ := hc.mp h
    have : offB (some u) (x, y, n) = some u := if_neg (by show ¬ u.2.2 < n; omega)
    rw [this]
    exact ⟨hB, rfl, fun _ _ => rfl⟩
  · have : offB B (x, y, n) = some (x, y, n) := by
      cases B with
      | none => rfl
      | some u => exact if_pos (by show u.2.2 < n; exact Nat.lt_of_not_le fun z => h (hc.mpr ⟨u, rfl, z⟩))
    rw [this]
    subst e1 e2 e3
    refine ⟨⟨?_, ?_, ?_⟩, ?_, fun a ha => ?_⟩
    · simp [su]; rfl
    · simp [su]; rfl
    · simp [su]; rfl
    · simp [su]
    · rw [su_off _ _ _ _ ha, su_off _ _ _ _ ha, su_off _ _ _ _ ha]
def swJ (T : TT) (E : EE) (a : Nat) (B : BB) : Nat → BB
  | 0 => B
  | j + 1 => offB (swJ T E a B j) (a, a + 1 + j, sta (swT T a (a + 1 + j)) E (alB E))
def swpO (T : TT) (E : EE) : Nat → BB
  | 0 => none
  | a + 1 => swJ T E a (swpO T E a) (tn T - (a + 1))
def swB (T : TT) (E : EE) : BB := swpO T E (tn T)
def coO (T : TT) (E : EE) (a : Nat) : Nat → BB
  | 0 => none
  | m + 1 => offB (coO T E a m) (m, 10, sta (coT T a m) E (alB E))
def coB (T : TT) (E : EE) (a : Nat) : BB := coO T E a 24
def up9 (s : Nat) : Nat := if s + 1 < 9 then s + 1 else 9
def trnO (T : TT) (E : EE) : Nat → BB
  | 0 => none
  | a + 1 => offB (trnO T E a) (a, 10, sta (stT T a (up9 (tst T a))) E (alB E))
def trB (T : TT) (E : EE) : BB := trnO T E (tn T)
theorem swJ_W {T : TT} {E : EE} {a : Nat} {B : BB} (h : BW B) : ∀ j, BW (swJ T E a B j)
  | 0 => h
  | j + 1 => (swJ_W h j).off (sta_le _ _ _)
theorem swpO_W {T : TT} {E : EE} : ∀ a, BW (swpO T E a)
  | 0 => BW.none
  | a + 1 => swJ_W (swpO_W a) _
theorem coO_W {T : TT} {E : EE} {a : Nat} : ∀ m, BW (coO T E a m)
  | 0 => BW.none
  | m + 1 => (coO_W m).off (sta_le _ _ _)
theorem trnO_W {T : TT} {E : EE} : ∀ a, BW (trnO T E a)
  | 0 => BW.none
  | a + 1 => (trnO_W a).off (sta_le _ _ _)
theorem be_co {a : Nat} (h : a < 10) : isBe (67 + a) := (by decide : ∀ a, a < 10 → kO 172 S0 (67 + a) 0 = true) a h
/-- the trial show -/
theorem ct_tplay (scr : ScA) {T : TT} (hT : TW T) {E : EE} (hE : EW E) (σ : Sg) (hC : TrC σ 50 T) (hV : EvC σ 10 E) : CvA scr 3 mX5_play [.ref 57, .ref 50, .ref 10, .int (((1 : Int32) <<< ((σ 10 3) &&& 31)) - 1), .int 0] σ (fun σ' => σ' 57 10 = nI (sta T E (alB E)) ∧ ∀ a, ¬ (57 ≤ a ∧ a ≤ 62) → σ' a = σ a) := by
  rw [all_E hE hV]
  refine (ct_play scr (Or.inr (Or.inl rfl)) (Or.inr (Or.inl rfl)) (Or.inl rfl) σ hT hC hE hV (by have := alB_lt hE; omega)).weak fun s ⟨hP, hf⟩ => ⟨hP.2.2.1, fun a ha => hf a fun z => ?_⟩
  unfold inSh at z
  omega
theorem ct_bestSwap (scr : ScA) (σ : Sg) {T : TT} (hT : TW T) (hC : TrC σ 3 T) {E : EE} (hE : EW E) (hV : EvC σ 10 E) (hK : σ 64 3 = 0 ∨ BeV σ 64 (swB T E)) : CrA scr 4 mX3_bestSwap [.ref 49, .ref 3, .ref 10] σ (fun r σ' => r = 64 ∧ BeV σ' 64 (swB T E) ∧ ∀ a, a < 50 ∨ 64 < a → σ' a = σ a) := by
  have hn := hT.1
  refine E_X3_bestSwap (W_X3_bestSwap_0 ⟨fun h => ?_, fun h => ⟨rfl, hK.resolve_left h, fun _ _ => rfl⟩⟩)
  have b64 : isBe 64 := (by decide : kO 172 S0 64 0 = true)
  refine (ct_bbegin scr b64 σ).weak fun s1 ⟨v1, k1, f1⟩ => W_X3_bestSwap_22 ?_
  refine (ct_become scr (Or.inl rfl) s1 hT (hC.fr fun y hy => f1 _ (by omega))).weak fun s2 ⟨C2, f2⟩ => W_X3_bestSwap_30 ?_
  have trf : ∀ s : Sg, (∀ a, a < 50 ∨ 64 < a → s a = σ a) → TrC s 3 T := fun s hs => hC.fr fun y hy => hs _ (by omega)
  have evf : ∀ s : Sg, (∀ a, a < 50 ∨ 64 < a → s a = σ a) → EvC s 10 E := fun s hs => hV.fr fun y hy => hs _ (by omega)
  have outer : ∀ (j a : Nat) (s : Sg), a + j = tn T → TrC s 50 T → BeV s 64 (swpO T E a) → (∀ x, x < 50 ∨ 64 < x → s x = σ x) → K_X3_bestSwap_32 scr (nI a) s (fun r σ' => r = 64 ∧ BeV σ' 64 (swB T E) ∧ ∀ a, a < 50 ∨ 64 < a → σ' a = σ a) := by
    intro j
    induction j with
    | zero =>
      intro a s ha hs hb hf
      have : a = tn T := by omega
      subst this
      refine W_X3_bestSwap_32 ⟨fun _ => ⟨rfl, hb, hf⟩, fun h => absurd ?_ h⟩
      rw [(trf s hf).1]
      exact Int32.le_refl _
    | succ j ih =>
      intro a s ha hs hb hf
      refine W_X3_bestSwap_32 ⟨fun h => ?_, fun _ => ?_⟩
      · rw [(trf s hf).1, nI_le' (by omega) (by omega)] at h
        omega
      rw [nI_add1]
      have inner : ∀ (i b : Nat) (s : Sg), a + 1 + b + i = tn T → TrC s 50 T → BeV s 64 (swJ T E a (swpO T E a) b) → (∀ x, x < 50 ∨ 64 < x → s x = σ x) → K_X3_bestSwap_45 scr (nI a) (nI (a + 1 + b)) s (fun r σ' => r = 64 ∧ BeV σ' 64 (swB T E) ∧ ∀ a, a < 50 ∨ 64 < a → σ' a = σ a) := by
        intro i
        induction i with
        | zero =>
          intro b s hbi hs hb hf
          refine W_X3_bestSwap_45 ⟨fun _ => ?_, fun h => absurd ?_ h⟩
          · rw [nI_add1]
            refine ih (a + 1) s (by omega) hs ?_ hf
            show BeV s 64 (swJ T E a (swpO T E a) (tn T - (a + 1)))
            rw [show tn T - (a + 1) = b by omega]
            exact hb
          · rw [(trf s hf).1, nI_le' (by omega) (by omega)]
            omega
        | succ i ih2 =>
          intro b s hbi hs hb hf
          refine W_X3_bestSwap_45 ⟨fun h => ?_, fun _ => ?_⟩
          · rw [(trf s hf).1, nI_le' (by omega) (by omega)] at h
            omega
          refine (ct_exchange scr (Or.inr (Or.inl rfl)) s hT hs (a := a) (b := a + 1 + b) (by omega) (by omega) (by omega)).weak fun s3 ⟨C3, f3⟩ => W_X3_bestSwap_64 ?_
          have g3 : ∀ x, x < 50 ∨ 64 < x → s3 x = σ x := fun x hx => by rw [f3 x (by omega)]; exact hf x hx
          have W3 := swT_W hT (a := a) (b := a + 1 + b) (by omega) (by omega)
          refine (ct_tplay scr W3 hE s3 C3 (evf s3 g3)).weak fun s4 ⟨p4, f4⟩ => W_X3_bestSwap_81 ?_
          have g4 : ∀ x, x < 50 ∨ 64 < x → s4 x = σ x := fun x hx => by rw [f4 x (by omega)]; exact g3 x hx
          rw [p4]
          have hnb : nI (a + 1 + b) = nbI (a + 1 + b) := by unfold nbI; rw [if_neg (by omega)]
          rw [hnb]
          have v4 : BeV s4 64 (swJ T E a (swpO T E a) b) := hb.fr (by rw [f4 64 (by omega), f3 64 (by omega)])
          refine (ct_offer scr b64 s4 v4 (swJ_W (swpO_W a) b) a (a + 1 + b) (sta_le _ _ _)).weak fun s5 ⟨v5, k5, f5⟩ => ?_
          rw [← hnb]
          refine W_X3_bestSwap_98 ?_
          have C5 : TrC s5 50 (swT T a (a + 1 + b)) := C3.fr fun y hy => by rw [f5 _ (by omega), f4 _ (by omega)]
          refine (ct_exchange scr (Or.inr (Or.inl rfl)) s5 W3 C5 (a := a) (b := a + 1 + b) (by show a < tn T; omega) (by show a + 1 + b < tn T; omega) (by omega)).weak fun s6 ⟨C6, f6⟩ => W_X3_bestSwap_108 ?_
          rw [swT_swT (by omega)] at C6
          rw [nI_add1]
          refine ih2 (b + 1) s6 (by omega) C6 (v5.fr (f6 64 (by omega))) (fun x hx => ?_)
          rw [f6 x (by omega), f5 x (by omega)]
          exact g4 x hx
      exact inner (tn T - (a + 1)) 0 s (by omega) hs hb hf
  refine outer (tn T) 0 s2 (by omega) C2 (v1.fr (f2 64 (by omega))) (fun x hx => ?_)
  rw [f2 x (by omega), f1 x (by omega)]
theorem ct_bestMoment (scr : ScA) (σ : Sg) {T : TT} (hT : TW T) (hC : TrC σ 3 T) {E : EE} (hE : EW E) (hV : EvC σ 10 E) {a : Nat} (ha : a < tn T) (hK : σ (67 + a) 3 = 0 ∨ BeV σ (67 + a) (coB T E a)) : CrA scr 4 mX3_bestMoment [.ref 49, .ref 3, .ref 10, .int (nI a)] σ (fun r σ' => r = 67 + a ∧ BeV σ' (67 + a) (coB T E a) ∧ ∀ x, x < 50 ∨ (63 < x ∧ x ≠ 67 + a) → σ' x = σ x) := by
  have hn := hT.1
  have ta : (nI a).toNatClampNeg = a := tN_nI (by omega)
  have bka : isBe (67 + a) := be_co (by omega)
  refine E_X3_bestMoment (W_X3_bestMoment_0 ⟨inB_nI (by omega) (by decide), ?_⟩)
  rw [ta, show 66 + 1 + 1 * a = 67 + a by omega]
  refine ⟨fun h => ?_, fun h => ⟨rfl, hK.resolve_left h, fun _ _ => rfl⟩⟩
  refine (ct_bbegin scr bka σ).weak fun s1 ⟨v1, k1, f1⟩ => W_X3_bestMoment_24 bka ?_
  refine (ct_become scr (Or.inl rfl) s1 hT (hC.fr fun y hy => f1 _ (by omega))).weak fun s2 ⟨C2, f2⟩ => W_X3_bestMoment_32 bka ?_
  have evf : ∀ s : Sg, (∀ x, x < 50 ∨ (63 < x ∧ x ≠ 67 + a) → s x = σ x) → EvC s 10 E := fun s hs => hV.fr fun y hy => hs _ (by omega)
  have key : ∀ (j m : Nat) (s : Sg), m + j = 24 → (∀ v, TrC (su s 54 a (nI v)) 50 (coT T a v)) → BeV s (67 + a) (coO T E a m) → (∀ x, x < 50 ∨ (63 < x ∧ x ≠ 67 + a) → s x = σ x) → K_X3_bestMoment_35 scr (nI a) (67 + a) (nI m) s (fun r σ' => r = 67 + a ∧ BeV σ' (67 + a) (coB T E a) ∧ ∀ x, x < 50 ∨ (63 < x ∧ x ≠ 67 + a) → σ' x = σ x) := by
    intro j
    induction j with
    | zero =>
      intro m s hm hs hb hf
      have : m = 24 := by omega
      subst this
      exact W_X3_bestMoment_35 bka ⟨fun _ => ⟨rfl, hb, hf⟩, fun h => absurd (Int32.le_refl _) h⟩
    | succ j ih =>
      intro m s hm hs hb hf
      refine W_X3_bestMoment_35 bka ⟨fun h => ?_, fun _ => ⟨inB_nI (by omega) (by decide), fun s3 e3 => ?_⟩⟩
      · rw [show (24 : Int32) = nI 24 from rfl, nI_le' (by omega) (by omega)] at h
        omega
      rw [ta] at e3
      have C3 : TrC s3 50 (coT T a m) := by rw [e3]; exact hs m
      have g3 : ∀ x, x ≠ 54 → s3 x = s x := fun x hx => by rw [e3, su_off _ _ _ _ hx]
      have W3 := coT_W hT (a := a) (v := m) (by omega)
      refine (ct_tplay scr W3 hE s3 C3 (evf s3 fun x hx => by rw [g3 x (by omega)]; exact hf x hx)).weak fun s4 ⟨p4, f4⟩ => W_X3_bestMoment_70 bka ?_
      rw [p4]
      have v4 : BeV s4 (67 + a) (coO T E a m) := hb.fr (by rw [f4 _ (by omega), g3 _ (by omega)])
      refine (ct_offer scr bka s4 v4 (coO_W m) m 10 (sta_le _ _ _)).weak fun s5 ⟨v5, k5, f5⟩ => W_X3_bestMoment_85 bka ?_
      rw [nI_add1]
      refine ih (m + 1) s5 (by omega) (fun v => ?_) v5 (fun x hx => ?_)
      · have C5 : TrC s5 50 (coT T a m) := C3.fr fun y hy => by rw [f5 _ (by omega), f4 _ (by omega)]
        have := C5.co a v
        have e : coT (coT T a m) a v = coT T a v := by
          have e1 : (fun x => if x = a then v else tco (coT T a m) x) = fun x => if x = a then v else tco T x := by
            funext x
            by_cases z : x = a
            · rw [if_pos z, if_pos z]
            · rw [if_neg z, if_neg z]
              show (if x = a then m else tco T x) = tco T x
              rw [if_neg z]
          show (tn T, tso T, twe T, tst T, (fun x => if x = a then v else tco (coT T a m) x), tpl T) = _
          rw [e1]
          rfl
        rw [e] at this
        exact this
      · rw [f5 x (by omega), f4 x (by omega), g3 x (by omega)]
        exact hf x hx
  refine key 24 0 s2 (by omega) (fun v => C2.co a v) (v1.fr (f2 _ (by omega))) (fun x hx => ?_)
  rw [f2 x (by omega), f1 x (by omega)]
theorem stT_st (T : TT) (a v w : Nat) : stT (stT T a v) a w = stT T a w := by
  have e1 : (fun x => if x = a then w else tst (stT T a v) x) = fun x => if x = a then w else tst T x := by
    funext x
    by_cases z : x = a
    · rw [if_pos z, if_pos z]
    · rw [if_neg z, if_neg z]
      show (if x = a then v else tst T x) = tst T x
      rw [if_neg z]
  show (tn T, tso T, twe T, (fun x => if x = a then w else tst (stT T a v) x), tco T, tpl T) = _
  rw [e1]
  rfl
theorem stT_id (T : TT) (a : Nat) : stT T a (tst T a) = T := by
  have e1 : (fun x => if x = a then tst T a else tst T x) = tst T := by
    funext x
    by_cases z : x = a
    · rw [if_pos z, z]
    · rw [if_neg z]
  show (tn T, tso T, twe T, (fun x => if x = a then tst T a else tst T x), tco T, tpl T) = _
  rw [e1]
  rfl
theorem up9_nI {s : Nat} (h : s ≤ 9) : (if nI s + 1 < 9 then nI s + 1 else 9 : Int32) = nI (up9 s) := by
  unfold up9
  rw [nI_add1]
  have q : nI (s + 1) < 9 ↔ s + 1 < 9 := by rw [show (9 : Int32) = nI 9 from rfl, nI_lt' (by omega) (by omega)]
  by_cases z : s + 1 < 9
  · rw [if_pos (q.mpr z), if_pos z]
  · rw [if_neg (fun y => z (q.mp y)), if_neg z]
    rfl
theorem ct_bestTraining (scr : ScA) (σ : Sg) {T : TT} (hT : TW T) (hC : TrC σ 3 T) {E : EE} (hE : EW E) (hV : EvC σ 10 E) (hK : σ 65 3 = 0 ∨ BeV σ 65 (trB T E)) : CrA scr 4 mX3_bestTraining [.ref 49, .ref 3, .ref 10] σ (fun r σ' => r = 65 ∧ BeV σ' 65 (trB T E) ∧ ∀ a, a < 50 ∨ (63 < a ∧ a ≠ 65) → σ' a = σ a) := by
  have hn := hT.1
  refine E_X3_bestTraining (W_X3_bestTraining_0 ⟨fun h => ?_, fun h => ⟨rfl, hK.resolve_left h, fun _ _ => rfl⟩⟩)
  have b64 : isBe 65 := (by decide : kO 172 S0 65 0 = true)
  refine (ct_bbegin scr b64 σ).weak fun s1 ⟨v1, k1, f1⟩ => W_X3_bestTraining_22 ?_
  refine (ct_become scr (Or.inl rfl) s1 hT (hC.fr fun y hy => f1 _ (by omega))).weak fun s2 ⟨C2, f2⟩ => W_X3_bestTraining_30 ?_
  have trf : ∀ s : Sg, (∀ a, a < 50 ∨ (63 < a ∧ a ≠ 65) → s a = σ a) → TrC s 3 T := fun s hs => hC.fr fun y hy => hs _ (by omega)
  have evf : ∀ s : Sg, (∀ a, a < 50 ∨ (63 < a ∧ a ≠ 65) → s a = σ a) → EvC s 10 E := fun s hs => hV.fr fun y hy => hs _ (by omega)
  have outer : ∀ (j a : Nat) (s : Sg), a + j = tn T → TrC s 50 T → BeV s 65 (trnO T E a) → (∀ x, x < 50 ∨ (63 < x ∧ x ≠ 65) → s x = σ x) → K_X3_bestTraining_32 scr (nI a) s (fun r σ' => r = 65 ∧ BeV σ' 65 (trB T E) ∧ ∀ a, a < 50 ∨ (63 < a ∧ a ≠ 65) → σ' a = σ a) := by
    intro j
    induction j with
    | zero =>
      intro a s ha hs hb hf
      have : a = tn T := by omega
      subst this
      refine W_X3_bestTraining_32 ⟨fun _ => ⟨rfl, hb, hf⟩, fun h => absurd ?_ h⟩
      rw [(trf s hf).1]
      exact Int32.le_refl _
    | succ j ih =>
      intro a s ha hs hb hf
      have ta : (nI a).toNatClampNeg = a := tN_nI (by omega)
      have h9 := (hT.2.1 a (by omega)).2.2.2.2.1
      have c3 : ∀ s : Sg, (∀ a, a < 50 ∨ (63 < a ∧ a ≠ 65) → s a = σ a) → s 6 a = nI (tst T a) := fun s hs => by
        have := ((trf s hs).2.1 a (by omega)).2.2.1
        exact this
      refine W_X3_bestTraining_32 ⟨fun h => ?_, fun _ => ⟨inB_nI (by omega) (by decide), fun s3 e3 => ?_⟩⟩
      · rw [(trf s hf).1, nI_le' (by omega) (by omega)] at h
        omega
      rw [ta, c3 s hf, up9_nI h9] at e3
      have C3 : TrC s3 50 (stT T a (up9 (tst T a))) := by rw [e3]; exact hs.st a _
      have g3 : ∀ x, x ≠ 53 → s3 x = s x := fun x hx => by rw [e3, su_off _ _ _ _ hx]
      have W3 := stT_W hT (a := a) (v := up9 (tst T a)) (by unfold up9; split <;> omega) (by unfold up9; split <;> omega)
      refine (ct_tplay scr W3 hE s3 C3 (evf s3 fun x hx => by rw [g3 x (by omega)]; exact hf x hx)).weak fun s4 ⟨p4, f4⟩ => W_X3_bestTraining_79 ?_
      rw [p4]
      have v4 : BeV s4 65 (trnO T E a) := hb.fr (by rw [f4 _ (by omega), g3 _ (by omega)])
      refine (ct_offer scr b64 s4 v4 (trnO_W a) a 10 (sta_le _ _ _)).weak fun s5 ⟨v5, k5, f5⟩ => W_X3_bestTraining_95 ⟨inB_nI (by omega) (by decide), fun s6 e6 => ?_⟩
      have g5 : ∀ x, x < 50 ∨ (63 < x ∧ x ≠ 65) → s5 x = σ x := fun x hx => by rw [f5 x (by omega), f4 x (by omega), g3 x (by omega)]; exact hf x hx
      rw [ta, c3 s5 g5] at e6
      have C5 : TrC s5 50 (stT T a (up9 (tst T a))) := C3.fr fun y hy => by rw [f5 _ (by omega), f4 _ (by omega)]
      have C6 := C5.st a (tst T a)
      rw [stT_st, stT_id] at C6
      rw [nI_add1]
      refine ih (a + 1) s6 (by omega) (by rw [e6]; exact C6) (v5.fr (by rw [e6, su_off _ _ _ _ (by omega)])) (fun x hx => by rw [e6, su_off _ _ _ _ (by omega)]; exact g5 x hx)
  refine outer (tn T) 0 s2 (by omega) C2 (v1.fr (f2 _ (by omega))) (fun x hx => ?_)
  rw [f2 x (by omega), f1 x (by omega)]
theorem ct_pforget (scr : ScA) (σ : Sg) : CvA scr 0 mX3_forgetAnswers [.ref 49] σ (fun σ' => σ' 64 3 = 0 ∧ σ' 65 3 = 0 ∧ (∀ a, a < 10 → σ' (67 + a) 3 = 0) ∧ ∀ x, ¬ (64 ≤ x ∧ x ≤ 76) → σ' x = σ x) := by
  refine E_X3_forgetAnswers (W_X3_forgetAnswers_0 fun s1 e1 s2 e2 => ?_)
  have key : ∀ (j i : Nat) (s : Sg), i + j = 10 → s 64 3 = 0 → s 65 3 = 0 → (∀ a, a < i → s (67 + a) 3 = 0) → (∀ x, ¬ (64 ≤ x ∧ x ≤ 76) → s x = σ x) → K_X3_forgetAnswers_18 scr (nI i) s (fun σ' => σ' 64 3 = 0 ∧ σ' 65 3 = 0 ∧ (∀ a, a < 10 → σ' (67 + a) 3 = 0) ∧ ∀ x, ¬ (64 ≤ x ∧ x ≤ 76) → σ' x = σ x) := by
    intro j
    induction j with
    | zero =>
      intro i s hi a1 a2 a3 a4
      have : i = 10 := by omega
      subst this
      exact W_X3_forgetAnswers_18 ⟨fun _ => ⟨a1, a2, a3, a4⟩, fun h => absurd (Int32.le_refl _) h⟩
    | succ j ih =>
      intro i s hi a1 a2 a3 a4
      refine W_X3_forgetAnswers_18 ⟨fun h => ?_, fun _ => ⟨inB_nI (by omega) (by decide), fun s3 e3 => ?_⟩⟩
      · rw [show (10 : Int32) = nI 10 from rfl, nI_le' (by omega) (by omega)] at h
        omega
      rw [tN_nI (by omega), show 66 + 1 + 1 * i = 67 + i by omega] at e3
      rw [nI_add1]
      refine ih (i + 1) s3 (by omega) (by rw [e3, su_nr _ _ _ _ (by omega)]; exact a1) (by rw [e3, su_nr _ _ _ _ (by omega)]; exact a2) (fun a ha => ?_) (fun x hx => by rw [e3, su_off _ _ _ _ (by omega)]; exact a4 x hx)
      rw [e3]
      by_cases z : a = i
      · rw [z, su_eq]
      · rw [su_nr _ _ _ _ (by omega)]
        exact a3 a (by omega)
  subst e1 e2
  refine key 10 0 _ (by omega) ?_ ?_ (fun a ha => by omega) (fun x hx => ?_)
  · rw [su_nr _ _ _ _ (by omega), su_eq]
  · rw [su_eq]
  · rw [su_off _ _ _ _ (by omega), su_off _ _ _ _ (by omega)]
