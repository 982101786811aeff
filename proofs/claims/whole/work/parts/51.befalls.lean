/-! the reference: events -/
def st1i (T : TT) (E : EE) (ch m : Nat) (S : SS) (i : Nat) : SS := apS (toS T S (szB T (gaS E ch m i) (tn T)) m) (gaR E ch m i)
theorem apS_0 (S : SS) : apS S 0 = S := rfl
theorem apS_ap (S : SS) (r q : Nat) : apS (apS S r) q = apS S (r + q) := by
  unfold apS
  simp only [Nat.sub_sub]
/-- the frame of the reference's show -/
def frM (σ σ' : Sg) : Prop := ∀ a c, ¬ (a = 136 ∧ (c = 18 ∨ c = 19 ∨ c = 25 ∨ c = 26)) → a ≠ 149 → a ≠ 150 → a ≠ 151 → a ≠ 152 → a ≠ 153 → a ≠ 154 → σ' a c = σ a c
theorem frM.trans {σ σ' σ'' : Sg} (h1 : frM σ σ') (h2 : frM σ' σ'') : frM σ σ'' := fun a c z1 z2 z3 z4 z5 z6 z7 => by rw [h2 a c z1 z2 z3 z4 z5 z6 z7, h1 a c z1 z2 z3 z4 z5 z6 z7]
theorem frM.refl (σ : Sg) : frM σ σ := fun _ _ _ _ _ _ _ _ _ => rfl
theorem frM.T {σ σ' : Sg} {T : TT} (h : frM σ σ') (hC : MT σ T) : MT σ' T := hC.fr (h 136 2 (by omega) (by omega) (by omega) (by omega) (by omega) (by omega) (by omega)) fun a z1 z2 => funext fun c => h a c (by omega) (by omega) (by omega) (by omega) (by omega) (by omega) (by omega)
theorem frM.E {σ σ' : Sg} {E : EE} {N : Nat} (h : frM σ σ') (hC : ME σ E N) : ME σ' E N := hC.fr (h 136 12 (by omega) (by omega) (by omega) (by omega) (by omega) (by omega) (by omega)) (h 136 16 (by omega) (by omega) (by omega) (by omega) (by omega) (by omega) (by omega)) fun a z1 z2 => funext fun c => h a c (by omega) (by omega) (by omega) (by omega) (by omega) (by omega) (by omega)
theorem MS.fr {σ σ' : Sg} {T : TT} {S : SS} {x : Nat} (h : MS σ T S x) (h1 : ∀ c, c = 18 ∨ c = 19 ∨ c = 25 → σ' 136 c = σ 136 c) (hf : ∀ a, a = 149 ∨ a = 150 ∨ a = 152 ∨ a = 153 ∨ a = 154 → σ' a = σ a) : MS σ' T S x := by
  unfold MS
  rw [h1 18 (by omega), h1 19 (by omega), h1 25 (by omega), hf 149 (by omega), hf 150 (by omega), hf 152 (by omega), hf 153 (by omega), hf 154 (by omega)]
  exact h
theorem up_ii {T : TT} (hT : TW T) {b a : Nat} (ha : a < tn T) : iiV (nI (upN T b (tn T))) (nI a) = 0 ↔ b.testBit (tpl T a) = false := by
  have h10 := hT.1
  have hl := upN_lt T b (tn T) h10
  rw [iiV_0 (by omega) (by omega), upN_bit]
  simp [ha]
theorem ct_clap (scr : ScA) {T : TT} (hT : TW T) {E : EE} {N i m : Nat} (hi : i < E.1) (h8 : E.1 ≤ 8) (hk : E.2.1 i < 3) {S : SS} {M : Nat} (hM : M ≤ 100000) (hB : SB T M S) (hG : GS T S) {P : Sg → Prop} (s : Sg) (hC : MT s T) (hE : ME s E N) (hS : MS s T S 0) (H : ∀ s', MS s' T (apS S (if E.2.1 i = 1 then 3 else 0)) 0 → (∀ a, a ≠ 150 → s' a = s a) → K_X11_befalls_7 scr (nI m) (nI (i + 1)) s' P) : K_X11_befalls_109 scr (nI m) (nI i) 0 s P := by
  have h10 := hT.1
  have ti : (nI i).toNatClampNeg = i := tN_nI (by omega)
  have key : ∀ (j a : Nat) (t : Sg), a + j = tn T → (∀ c, c ≠ 150 → t c = s c) → (∀ c, c < a → t 150 c = nI (S.2.1 c - (if E.2.1 i = 1 then 3 else 0))) → (∀ c, a ≤ c → c < tn T → t 150 c = nI (S.2.1 c)) → K_X11_befalls_109 scr (nI m) (nI i) (nI a) t P := by
    intro j
    induction j with
    | zero =>
      intro a t ha hf hd hr
      have : a = tn T := by omega
      subst this
      refine W_X11_befalls_109 ⟨fun _ => ?_, fun h => absurd ?_ h⟩
      · rw [nI_add1]
        refine H t ⟨?_, ?_, fun c hc => ?_, ?_, ?_⟩ hf
        · rw [hf 149 (by omega)]; exact hS.1
        · rw [hf 136 (by omega)]; exact hS.2.1
        · rw [hf 152 (by omega), hf 153 (by omega), hf 154 (by omega)]
          exact ⟨hd c hc, (hS.2.2.1 c hc).2⟩
        · rw [hf 136 (by omega)]; exact hS.2.2.2.1
        · rw [hf 136 (by omega)]; exact hS.2.2.2.2
      · rw [hf 136 (by omega), hC.1]
        exact Int32.le_refl _
    | succ j ih =>
      intro a t ha hf hd hr
      refine W_X11_befalls_109 ⟨fun h => ?_, fun _ => ⟨inB_nI (by omega) (by decide), inB_nI (by omega) (by decide), fun t1 e1 => ?_⟩⟩
      · rw [hf 136 (by omega), hC.1, nI_le' (by omega) (by omega)] at h
        omega
      rw [tN_nI (by omega), ti, hf 146 (by omega), (hE.2.2 i hi).1, hf 136 (by omega), hS.2.1, hr a (Nat.le_refl _) (by omega)] at e1
      have hti := (hB.2.1 a (by omega)).1
      have q1 : nI (E.2.1 i) = 1 ↔ E.2.1 i = 1 := by rw [show (1 : Int32) = nI 1 from rfl, nI_inj (by omega) (by omega)]
      have q2 := up_ii hT (b := S.1) (a := a) (by omega)
      have q3 : (3 : Int32) ≤ nI (S.2.1 a) ↔ 3 ≤ S.2.1 a := by rw [c3, nI_le' (by omega) (by omega)]
      have ev : nI (S.2.1 a) - (if ¬ nI (E.2.1 i) = 1 then 0 else (if iiV (nI (upN T S.1 (tn T))) (nI a) = 0 then 0 else (if 3 ≤ nI (S.2.1 a) then 3 else nI (S.2.1 a) : Int32) : Int32) : Int32) = nI (S.2.1 a - (if E.2.1 i = 1 then 3 else 0)) := by
        by_cases z1 : E.2.1 i = 1
        · rw [if_neg (fun y => y (q1.mpr z1)), if_pos z1]
          by_cases z2 : S.1.testBit (tpl T a) = false
          · rw [if_pos (q2.mpr z2), hG.2.2.1 a (by omega) z2]
            rfl
          · rw [if_neg (fun y => z2 (q2.mp y))]
            by_cases z3 : 3 ≤ S.2.1 a
            · rw [if_pos (q3.mpr z3), c3, pk_sub z3]
            · rw [if_neg (fun y => z3 (q3.mp y)), pk_sub (Nat.le_refl _), Nat.sub_self, show S.2.1 a - 3 = 0 by omega]
        · rw [if_pos (fun y => z1 (q1.mp y)), if_neg z1, show (0 : Int32) = nI 0 from rfl, pk_sub (by omega)]
      rw [ev] at e1
      rw [nI_add1]
      refine ih (a + 1) t1 (by omega) (fun c hc => by rw [e1, su_off _ _ _ _ hc]; exact hf c hc) (fun c hc => ?_) (fun c z1 z2 => ?_)
      · rw [e1]
        by_cases z : c = a
        · rw [z, su_eq]
        · rw [su_nc _ _ _ _ z]; exact hd c (by omega)
      · rw [e1, su_nc _ _ _ _ (by omega)]
        exact hr c (by omega) z2
  exact key (tn T) 0 s (by omega) (fun _ _ => rfl) (fun c hc => by omega) (fun c _ hc => (hS.2.2.1 c hc).1)
theorem ct_befalls (scr : ScA) (σ : Sg) {T : TT} (hT : TW T) (hC : MT σ T) {E : EE} (hE : EW E) {N ch : Nat} (hN : N < 256) (hNc : ∀ i, i < E.1 → ch.testBit i = !N.testBit i) (hV : ME σ E N) {S : SS} {M : Nat} (hM : M ≤ 90000) (hB : SB T M S) (hG : GS T S) (hS : MS σ T S 0) {m : Nat} (hF : FR m S) (hm : m < 24) : CvA scr 2 mX11_befalls [.ref 136, .int (nI m)] σ (fun σ' => MS σ' T (st1 T E ch m S) 0 ∧ σ' 136 26 = nI (gaH E ch m E.1) ∧ frM σ σ') := by
  have h10 := hT.1
  have h8 := hE.1
  refine E_X11_befalls (W_X11_befalls_0 fun s1 e1 => ?_)
  have key : ∀ (j i : Nat) (s : Sg), i + j = E.1 → MS s T (st1i T E ch m S i) 0 → s 136 26 = nI (gaH E ch m i) → frM σ s → K_X11_befalls_7 scr (nI m) (nI i) s (fun σ' => MS σ' T (st1 T E ch m S) 0 ∧ σ' 136 26 = nI (gaH E ch m E.1) ∧ frM σ σ') := by
    intro j
    induction j with
    | zero =>
      intro i s hi hs h26 hf
      have : i = E.1 := by omega
      subst this
      refine W_X11_befalls_7 ⟨fun _ => ⟨hs, h26, hf⟩, fun h => absurd ?_ h⟩
      rw [(hf.E hV).1]
      exact Int32.le_refl _
    | succ j ih =>
      intro i s hi hs h26 hf
      have Vs := hf.E hV
      have Cs := hf.T hC
      obtain ⟨v1, v2, v3⟩ := Vs.2.2 i (by omega)
      obtain ⟨b1, b2, b3⟩ := hE.2 i (by omega)
      have ti : (nI i).toNatClampNeg = i := tN_nI (by omega)
      have Bi : SB T (M + 10) (st1i T E ch m S i) := by
        have h1 := hB.to_ (szB T (gaS E ch m i) (tn T)) hm
        exact ⟨h1.1, fun a ha => ⟨Nat.le_trans (Nat.sub_le _ _) (h1.2.1 a ha).1, (h1.2.1 a ha).2⟩, h1.2.2⟩
      have Gi : GS T (st1i T E ch m S i) := (hG.to_ hB.1 _ m).ap _
      have Fi : FR m (st1i T E ch m S i) := (hF.to_ hm hB.1).1
      -- nothing happens
      have skip : evI E ch m i = false → K_X11_befalls_7 scr (nI m) (nI (i + 1)) s (fun σ' => MS σ' T (st1 T E ch m S) 0 ∧ σ' 136 26 = nI (gaH E ch m E.1) ∧ frM σ σ') := fun he => by
        have g1 : gaS E ch m (i + 1) = gaS E ch m i := by rw [gaS, if_neg (by rw [he]; simp)]
        have g2 : gaH E ch m (i + 1) = gaH E ch m i := by rw [gaH, if_neg (by rw [he]; simp)]
        have g3 : gaR E ch m (i + 1) = gaR E ch m i := by rw [gaR, if_neg (by rw [he]; simp)]
        refine ih (i + 1) s (by omega) ?_ (by rw [g2]; exact h26) hf
        unfold st1i
        rw [g1, g3]
        exact hs
      -- what comes behind the sneeze
      have hq2 : nI (E.2.1 i) = 2 ↔ E.2.1 i = 2 := by rw [c2, nI_inj (by omega) (by omega)]
      have hH : evI E ch m i = true → nI (gaH E ch m i) ||| (if ¬ nI (E.2.1 i) = 2 then 0 else (1 : Int32) <<< (nI (E.2.2.2 i) &&& 31) : Int32) = nI (gaH E ch m (i + 1)) := fun he => by
        rw [gaH, shl1 (by omega)]
        by_cases z : E.2.1 i = 2
        · rw [if_neg (fun y => y (hq2.mpr z)), if_pos ⟨he, by omega, by omega⟩, or_nI]
        · rw [if_pos (fun y => z (hq2.mp y)), if_neg (by omega), show (0 : Int32) = nI 0 from rfl, or_nI, Nat.or_zero]
      have tail : evI E ch m i = true → ∀ (t : Sg) (Z : SS), MS t T Z 0 → GS T Z → SB T (M + 20) Z → frM σ t → t 136 26 = nI (gaH E ch m (i + 1)) → apS Z (if E.2.1 i = 1 then 3 else 0) = st1i T E ch m S (i + 1) → K_X11_befalls_109 scr (nI m) (nI i) 0 t (fun σ' => MS σ' T (st1 T E ch m S) 0 ∧ σ' 136 26 = nI (gaH E ch m E.1) ∧ frM σ σ') := fun he t Z mz gz bz ft t26 ez => by
        refine ct_clap scr hT (by omega) h8 b1 (by omega) bz gz t (ft.T hC) (ft.E hV) mz fun t2 m2 f2 => ih (i + 1) t2 (by omega) (by rw [← ez]; exact m2) (by rw [f2 136 (by omega)]; exact t26) (fun a c z1 z2 z3 z4 z5 z6 z7 => by rw [f2 a z3]; exact ft a c z1 z2 z3 z4 z5 z6 z7)
      have base : ∀ t : Sg, t = su s 136 26 (nI (gaH E ch m (i + 1))) → MS t T (st1i T E ch m S i) 0 ∧ frM σ t ∧ t 136 26 = nI (gaH E ch m (i + 1)) := fun t et => by
        refine ⟨hs.fr (fun c hc => by rw [et, su_nc _ _ _ _ (by omega)]) (fun a ha => by rw [et, su_off _ _ _ _ (by omega)]), fun a c z1 z2 z3 z4 z5 z6 z7 => ?_, by rw [et, su_eq]⟩
        rw [et, frS a c (fun q => z1 ⟨q.1, by omega⟩)]
        exact hf a c z1 z2 z3 z4 z5 z6 z7
      have quiet : evI E ch m i = true → apS (st1i T E ch m S i) (if E.2.1 i = 1 then 3 else 0) = st1i T E ch m S (i + 1) → ∀ t : Sg, t = su s 136 26 (nI (gaH E ch m i) ||| (if ¬ nI (E.2.1 i) = 2 then 0 else (1 : Int32) <<< (nI (E.2.2.2 i) &&& 31) : Int32)) → K_X11_befalls_109 scr (nI m) (nI i) 0 t (fun σ' => MS σ' T (st1 T E ch m S) 0 ∧ σ' 136 26 = nI (gaH E ch m E.1) ∧ frM σ σ') := fun he ez t et => by
        rw [hH he] at et
        obtain ⟨x1, x2, x3⟩ := base t et
        exact tail he t _ x1 Gi (Bi.mono (by omega)) x2 x3 ez
      have hev : E.2.2.1 i = m → N.testBit i = false → evI E ch m i = true := fun z1 z2 => by
        unfold evI
        rw [hNc i (by omega), z2, z1]
        simp
      have q0 : nI (E.2.1 i) = 0 ↔ E.2.1 i = 0 := by rw [show (0 : Int32) = nI 0 from rfl, nI_inj (by omega) (by omega)]
      have gR0 : E.2.1 i ≠ 1 → gaR E ch m (i + 1) = gaR E ch m i := fun z => by rw [gaR, if_neg (fun y => z y.2)]
      have gSn : E.2.1 i ≠ 0 → gaS E ch m (i + 1) = gaS E ch m i := fun z => by rw [gaS, if_neg (fun y => z y.2)]
      have gS0 : evI E ch m i = true → E.2.1 i = 0 → gaS E ch m (i + 1) = gaS E ch m i ||| 2 ^ (E.2.2.2 i) := fun he z => by rw [gaS, if_pos ⟨he, z⟩]
      refine W_X11_befalls_7 ⟨fun h => ?_, fun _ => ⟨inB_nI (by omega) (by decide), ?_⟩⟩
      · rw [Vs.1, nI_le' (by omega) (by omega)] at h
        omega
      rw [ti, v1, v2, v3, Vs.2.1, h26, Cs.1, hs.2.1, nI_add1]
      have qm : nI (E.2.2.1 i) = nI m ↔ E.2.2.1 i = m := nI_inj (by omega) (by omega)
      have qN : iiV (nI N) (nI i) = 0 ↔ N.testBit i = false := iiV_0 (by omega) (by omega)
      refine ⟨fun z => skip ?_, fun z => ⟨fun y => skip ?_, fun y => ⟨fun w => ?_, fun w => ⟨fun v => ?_, fun v => ⟨fun u => ?_, fun u => ?_⟩⟩⟩⟩⟩
      · unfold evI
        have : ¬ E.2.2.1 i = m := fun q => z (qm.mpr q)
        simp [this]
      · unfold evI
        have : N.testBit i = true := by
          cases q : N.testBit i with
          | true => rfl
          | false => exact absurd (qN.mpr q) y
        rw [hNc i (by omega), this]
        simp
      · have he := hev (qm.mp z) (qN.mp y)
        have hk0 : E.2.1 i ≠ 0 := fun q => w (q0.mpr q)
        refine quiet he ?_
        unfold st1i
        rw [apS_ap, gSn hk0]
        by_cases x : E.2.1 i = 1
        · rw [if_pos x, gaR, if_pos ⟨he, x⟩]
        · rw [if_neg x, gR0 x, Nat.add_zero]
      · have he := hev (qm.mp z) (qN.mp y)
        have hk0 := q0.mp w
        rw [nI_le' (by omega) (by omega)] at v
        refine quiet he ?_
        unfold st1i
        rw [if_neg (show ¬ E.2.1 i = 1 by omega), apS_0, gS0 he hk0, szB_no hT v, gR0 (by omega)]
      · have he := hev (qm.mp z) (qN.mp y)
        have hk0 := q0.mp w
        rw [nI_le' (by omega) (by omega)] at v
        have hk : E.2.2.2 i < tn T := by omega
        rw [up_ii hT hk] at u
        refine quiet he ?_
        have hp := (hT.2.1 _ hk).2.2.2.2.2.2
        have u' : (toS T S (szB T (gaS E ch m i) (tn T)) m).1.testBit (tpl T (E.2.2.2 i)) = false := u
        unfold st1i
        rw [if_neg (show ¬ E.2.1 i = 1 by omega), apS_0, gS0 he hk0, szB_or hT hk, gR0 (by omega), toS_dn hB.1 hp u']
      · have he := hev (qm.mp z) (qN.mp y)
        have hk0 := q0.mp w
        rw [nI_le' (by omega) (by omega)] at v
        have hk : E.2.2.2 i < tn T := by omega
        rw [up_ii hT hk] at u
        have hp := (hT.2.1 _ hk).2.2.2.2.2.2
        have u' : (toS T S (szB T (gaS E ch m i) (tn T)) m).1.testBit (tpl T (E.2.2.2 i)) = true := by
          cases q : (toS T S (szB T (gaS E ch m i) (tn T)) m).1.testBit (tpl T (E.2.2.2 i)) with
          | true => rfl
          | false => exact absurd q u
        refine ⟨inB_nI (by omega) (by decide), fun t et => ?_⟩
        rw [tN_nI (by omega)] at et
        have Mt : MS t T (st1i T E ch m S i) (2 ^ tpl T (E.2.2.2 i)) := by
          refine ⟨by rw [et, su_off _ _ _ _ (by omega)]; exact hs.1, by rw [et, su_nr _ _ _ _ (by omega)]; exact hs.2.1, fun a ha => ?_, by rw [et, su_nr _ _ _ _ (by omega)]; exact hs.2.2.2.1, by rw [et, su_nr _ _ _ _ (by omega)]; exact hs.2.2.2.2⟩
          obtain ⟨x1, x2, x3, x4⟩ := hs.2.2.1 a ha
          refine ⟨by rw [et, su_off _ _ _ _ (by omega)]; exact x1, by rw [et, su_off _ _ _ _ (by omega)]; exact x2, by rw [et, su_off _ _ _ _ (by omega)]; exact x3, ?_⟩
          rw [et, Nat.testBit_two_pow]
          by_cases q : a = E.2.2.2 i
          · rw [q, su_eq]; simp
          · rw [su_nc _ _ _ _ q, x4]
            have : ¬ tpl T (E.2.2.2 i) = tpl T a := fun y => q (hT.2.2 a _ ha hk y.symm)
            simp [this]
        have ft : frM σ t := fun a c z1 z2 z3 z4 z5 z6 z7 => by rw [et, su_off _ _ _ _ z7]; exact hf a c z1 z2 z3 z4 z5 z6 z7
        have hsub : ∀ q, (2 ^ tpl T (E.2.2.2 i)).testBit q = true → (st1i T E ch m S i).1.testBit q = true := fun q h => by
          rw [Nat.testBit_two_pow] at h
          have : tpl T (E.2.2.2 i) = q := by simpa using h
          rw [← this]; exact u'
        refine (ct_allFall scr t hT (ft.T hC) (by omega) Bi Gi (pow_lt (n := 10) hp) hsub Mt Fi hm).weak fun t2 ⟨m2, f2⟩ => W_X11_befalls_80 ⟨inB_nI (by omega) (by decide), fun t3 e3 => ?_⟩
        have ft2 : frM σ t2 := fun a c z1 z2 z3 z4 z5 z6 z7 => by rw [f2 a c (fun q => z1 ⟨q.1, by omega⟩) z2 z3 z5 z6 z7]; exact ft a c z1 z2 z3 z4 z5 z6 z7
        have w26 : t2 136 26 = nI (gaH E ch m i) := by rw [f2 136 26 (by omega) (by omega) (by omega) (by omega) (by omega) (by omega), et, su_nr _ _ _ _ (by omega)]; exact h26
        have w146 : t2 146 i = nI (E.2.1 i) := ((ft2.E hV).2.2 i (by omega)).1
        rw [ti, w26, w146, hH he] at e3
        have eZ : toS T (st1i T E ch m S i) (2 ^ tpl T (E.2.2.2 i)) m = st1i T E ch m S (i + 1) := by
          unfold st1i
          rw [toS_up hT hB.1 hG hp hF hm u', gS0 he hk0, szB_or hT hk, gR0 (by omega)]
        rw [eZ] at m2
        have Bz : SB T (M + 20) (st1i T E ch m S (i + 1)) := by rw [← eZ]; exact (Bi.to_ _ hm).mono (by omega)
        have Gz : GS T (st1i T E ch m S (i + 1)) := (hG.to_ hB.1 _ m).ap _
        refine tail he t3 _ (m2.fr (fun c hc => by rw [e3, su_nc _ _ _ _ (by omega)]) (fun a ha => by rw [e3, su_off _ _ _ _ (by omega)])) Gz Bz (fun a c z1 z2 z3 z4 z5 z6 z7 => ?_) (by rw [e3, su_eq]) (by rw [if_neg (show ¬ E.2.1 i = 1 by omega), apS_0])
        rw [e3, frS a c (fun q => z1 ⟨q.1, by omega⟩)]
        exact ft2 a c z1 z2 z3 z4 z5 z6 z7
  have h : MS s1 T S 0 := hS.fr (fun c hc => by rw [e1, su_nc _ _ _ _ (by omega)]) (fun a ha => by rw [e1, su_off _ _ _ _ (by omega)])
  refine key E.1 0 s1 (by omega) ?_ (by rw [e1, su_eq]; rfl) (fun a c z1 z2 z3 z4 z5 z6 z7 => by rw [e1, frS a c (fun q => z1 ⟨q.1, by omega⟩)])
  unfold st1i
  have : szB T (gaS E ch m 0) (tn T) = 0 := szB_0 T _
  rw [this]
  have e0 : toS T S 0 m = S := by unfold toS; rw [Nat.zero_and, if_pos rfl]
  rw [e0]
  exact h
