def K_X2_forgetAnswers_0 (scr : ScA)   (σ : Nat → Nat → Int32) (P : (Nat → Nat → Int32) → Prop) : Prop := XA scr 1 mX2_forgetAnswers 172 4705 0 [some (.ref 77)] [] (hs σ) (pV P)
def K_X2_forgetAnswers_8 (scr : ScA)   (σ : Nat → Nat → Int32) (P : (Nat → Nat → Int32) → Prop) : Prop := XA scr 1 mX2_forgetAnswers 172 4705 8 [some (.ref 77)] [] (hs σ) (pV P)
def K_X2_forgetAnswers_16 (scr : ScA)   (σ : Nat → Nat → Int32) (P : (Nat → Nat → Int32) → Prop) : Prop := XA scr 1 mX2_forgetAnswers 172 4705 16 [some (.ref 77)] [] (hs σ) (pV P)
set_option maxRecDepth 20000 in
theorem W_X2_forgetAnswers_0 {scr : ScA}     {σ : Nat → Nat → Int32} {P : (Nat → Nat → Int32) → Prop} (H : CvA scr 0 mJ7_fill_53178 [.ref 92, .int (-1)] σ (fun σ' => K_X2_forgetAnswers_8 scr σ' P)) : K_X2_forgetAnswers_0 scr σ P := by
  show XA scr 1 mX2_forgetAnswers 172 4705 0 [some (.ref 77)] [] (hs σ) (pV P)
  refine XA.blk (e9 := 5) (ok := true) (ls' := [some (.ref 77)]) (st' := [.int (-1), .ref 92]) (h' := hs σ) [(.aload_n 0, 1, 0, 0, 0, 0, 0, 0), (.getfield 27, 3, 2, 2, 16, 328, 0, 0), (.iconst (-1), 1, 0, 0, 0, 0, (-1), 0)] (by decide +kernel) rfl rfl ?_
  refine XA.callS (as := [.ref 92, .int (-1)]) (rest := []) (mc' := 0) (ms' := 0) (idx := 45) (t := 325) cs_J7_fill_53178 (by decide +kernel) rfl rfl (Nat.le_of_ble_eq_true rfl) (Nat.le_of_ble_eq_true rfl) (Nat.le_of_ble_eq_true rfl) (Nat.le_of_ble_eq_true rfl) (H) (fun rv h' hp => ?_)
  obtain ⟨s9, rfl, rfl, hK⟩ := hp
  exact ⟨rfl, rfl, hK⟩
set_option maxRecDepth 20000 in
theorem W_X2_forgetAnswers_8 {scr : ScA}     {σ : Nat → Nat → Int32} {P : (Nat → Nat → Int32) → Prop} (H : CvA scr 0 mJ7_fill_53178 [.ref 93, .int (-1)] σ (fun σ' => K_X2_forgetAnswers_16 scr σ' P)) : K_X2_forgetAnswers_8 scr σ P := by
  show XA scr 1 mX2_forgetAnswers 172 4705 8 [some (.ref 77)] [] (hs σ) (pV P)
  refine XA.blk (e9 := 13) (ok := true) (ls' := [some (.ref 77)]) (st' := [.int (-1), .ref 93]) (h' := hs σ) [(.aload_n 0, 1, 0, 0, 0, 0, 0, 0), (.getfield 31, 3, 2, 3, 17, 330, 0, 0), (.iconst (-1), 1, 0, 0, 0, 0, (-1), 0)] (by decide +kernel) rfl rfl ?_
  refine XA.callS (as := [.ref 93, .int (-1)]) (rest := []) (mc' := 0) (ms' := 0) (idx := 45) (t := 325) cs_J7_fill_53178 (by decide +kernel) rfl rfl (Nat.le_of_ble_eq_true rfl) (Nat.le_of_ble_eq_true rfl) (Nat.le_of_ble_eq_true rfl) (Nat.le_of_ble_eq_true rfl) (H) (fun rv h' hp => ?_)
  obtain ⟨s9, rfl, rfl, hK⟩ := hp
  exact ⟨rfl, rfl, hK⟩
set_option maxRecDepth 20000 in
theorem W_X2_forgetAnswers_16 {scr : ScA}     {σ : Nat → Nat → Int32} {P : (Nat → Nat → Int32) → Prop} (H : ∀ σ1, σ1 = (su σ 77 6 (-1)) → P σ1) : K_X2_forgetAnswers_16 scr σ P := by
  show XA scr 1 mX2_forgetAnswers 172 4705 16 [some (.ref 77)] [] (hs σ) (pV P)
  refine XA.blk (e9 := 21) (ok := true) (ls' := [some (.ref 77)]) (st' := []) (h' := hs (su σ 77 6 (-1))) [(.aload_n 0, 1, 0, 0, 0, 0, 0, 0), (.iconst (-1), 1, 0, 0, 0, 0, (-1), 0), (.putfield 51, 3, 2, 6, 0, 335, 0, 0)] (by decide +kernel) rfl rfl ?_
  obtain ⟨σ1, hσ1⟩ : ∃ s9, s9 = (su σ 77 6 (-1)) := ⟨_, rfl⟩
  rw [← hσ1]
  have H := H σ1 hσ1
  exact XA.ret none rfl (show ckRt mX2_forgetAnswers 21 .return_ = true by decide +kernel) trivial (Nat.le_of_ble_eq_true rfl) (Nat.le_of_ble_eq_true rfl) ⟨_, rfl, rfl, H⟩
theorem E_X2_forgetAnswers {scr : ScA}   {σ : Nat → Nat → Int32} {P : (Nat → Nat → Int32) → Prop} (h : K_X2_forgetAnswers_0 scr σ P) : CvA scr 1 mX2_forgetAnswers [.ref 77] σ P := CtA.of (by decide) (Nat.le_of_ble_eq_true rfl) (XA.drop (by simp [leL, enL]) h)
def K_X2_mostAlike_0 (scr : ScA)  (x1 : Int32) (x2 : Int32) (σ : Nat → Nat → Int32) (P : Int32 → (Nat → Nat → Int32) → Prop) : Prop := XA scr 1 mX2_mostAlike 172 4705 0 [some (.ref 77), some (.int x1), some (.int x2), none, none, none, none] [] (hs σ) (pI P)
def K_X2_mostAlike_5 (scr : ScA)  (x1 : Int32) (x2 : Int32) (x3 : Int32) (x4 : Int32) (σ : Nat → Nat → Int32) (P : Int32 → (Nat → Nat → Int32) → Prop) : Prop := XA scr 1 mX2_mostAlike 172 4705 5 [some (.ref 77), some (.int x1), some (.int x2), some (.int x3), some (.int x4), none, none] [] (hs σ) (pI P)
def K_X2_mostAlike_18 (scr : ScA)  (x1 : Int32) (x2 : Int32) (x3 : Int32) (x4 : Int32) (x5 : Int32) (x6 : Int32) (σ : Nat → Nat → Int32) (P : Int32 → (Nat → Nat → Int32) → Prop) : Prop := XA scr 1 mX2_mostAlike 172 4705 18 [some (.ref 77), some (.int x1), some (.int x2), some (.int x3), some (.int x4), some (.int x5), some (.int x6)] [] (hs σ) (pI P)
set_option maxRecDepth 20000 in
theorem W_X2_mostAlike_0 {scr : ScA}   {x1 : Int32} {x2 : Int32}  {σ : Nat → Nat → Int32} {P : Int32 → (Nat → Nat → Int32) → Prop} (H : K_X2_mostAlike_5 scr x1 x2 0 1 σ P) : K_X2_mostAlike_0 scr x1 x2 σ P := by
  show XA scr 1 mX2_mostAlike 172 4705 0 [some (.ref 77), some (.int x1), some (.int x2), none, none, none, none] [] (hs σ) (pI P)
  refine XA.blk (e9 := 5) (ok := true) (ls' := [some (.ref 77), some (.int x1), some (.int x2), some (.int 0), some (.int 1), none, none]) (st' := []) (h' := hs σ) [(.iconst 0, 1, 0, 0, 0, 0, 0, 0), (.istore_n 3, 1, 3, 0, 0, 0, 0, 0), (.iconst 1, 1, 0, 0, 0, 0, 1, 0), (.istore 4, 2, 4, 0, 0, 0, 0, 0)] (by decide +kernel) rfl rfl ?_
  exact H
set_option maxRecDepth 20000 in
theorem W_X2_mostAlike_5 {scr : ScA}   {x1 : Int32} {x2 : Int32} {x3 : Int32} {x4 : Int32}  {σ : Nat → Nat → Int32} {P : Int32 → (Nat → Nat → Int32) → Prop} (H : (9 < x4 → P x3 σ) ∧ (¬ 9 < x4 → K_X2_mostAlike_18 scr x1 x2 x3 x4 0 1 σ P)) : K_X2_mostAlike_5 scr x1 x2 x3 x4 σ P := by
  show XA scr 1 mX2_mostAlike 172 4705 5 [some (.ref 77), some (.int x1), some (.int x2), some (.int x3), some (.int x4), none, none] [] (hs σ) (pI P)
  refine XA.blk (e9 := 9) (ok := true) (ls' := [some (.ref 77), some (.int x1), some (.int x2), some (.int x3), some (.int x4), none, none]) (st' := [.int 9, .int x4]) (h' := hs σ) [(.iload 4, 2, 4, 0, 0, 0, 0, 0), (.bipush 9, 2, 0, 0, 0, 0, 9, 0)] (by decide +kernel) rfl rfl ?_
  refine XA.icmp_gt (77) 86 (by decide +kernel) (fun c1 => ?_) (fun c1 => ?_)
  · have H := H.1 c1
    refine XA.blk (e9 := 87) (ok := true) (ls' := [some (.ref 77), some (.int x1), some (.int x2), some (.int x3), some (.int x4), none, none]) (st' := [.int x3]) (h' := hs σ) [(.iload_n 3, 1, 3, 0, 0, 0, 0, 0)] (by decide +kernel) rfl rfl ?_
    exact XA.ret (some (.int x3)) rfl (show ckRt mX2_mostAlike 87 .ireturn = true by decide +kernel) trivial (Nat.le_of_ble_eq_true rfl) (Nat.le_of_ble_eq_true rfl) ⟨_, _, rfl, rfl, H⟩
  · have H := H.2 c1
    refine XA.blk (e9 := 18) (ok := true) (ls' := [some (.ref 77), some (.int x1), some (.int x2), some (.int x3), some (.int x4), some (.int 0), some (.int 1)]) (st' := []) (h' := hs σ) [(.iconst 0, 1, 0, 0, 0, 0, 0, 0), (.istore 5, 2, 5, 0, 0, 0, 0, 0), (.iconst 1, 1, 0, 0, 0, 0, 1, 0), (.istore 6, 2, 6, 0, 0, 0, 0, 0)] (by decide +kernel) rfl rfl ?_
    exact H
set_option maxRecDepth 20000 in
theorem W_X2_mostAlike_18 {scr : ScA}   {x1 : Int32} {x2 : Int32} {x3 : Int32} {x4 : Int32} {x5 : Int32} {x6 : Int32}  {σ : Nat → Nat → Int32} {P : Int32 → (Nat → Nat → Int32) → Prop} (H : (9 < x6 → K_X2_mostAlike_5 scr x1 x2 (if x3 < x5 then x5 else x3 : Int32) (x4 + 1) σ P) ∧ (¬ 9 < x6 → (¬ (hbV x1 x4) = 0 → (¬ (hbV x1 x6) = 0 → (inB x4 10 = true) ∧ (inB x2 24 = true) ∧ (inB x6 10 = true))) ∧ (K_X2_mostAlike_18 scr x1 x2 x3 x4 (if (hbV x1 x4) = 0 then x5 else (if (hbV x1 x6) = 0 then x5 else (if ¬ (σ (95 + 1 + 1 * Int32.toNatClampNeg x4) (Int32.toNatClampNeg x2)) = (σ (95 + 1 + 1 * Int32.toNatClampNeg x6) (Int32.toNatClampNeg x2)) then x5 else x5 + 1 : Int32) : Int32) : Int32) (x6 + 1) σ P))) : K_X2_mostAlike_18 scr x1 x2 x3 x4 x5 x6 σ P := by
  show XA scr 1 mX2_mostAlike 172 4705 18 [some (.ref 77), some (.int x1), some (.int x2), some (.int x3), some (.int x4), some (.int x5), some (.int x6)] [] (hs σ) (pI P)
  refine XA.blk (e9 := 22) (ok := true) (ls' := [some (.ref 77), some (.int x1), some (.int x2), some (.int x3), some (.int x4), some (.int x5), some (.int x6)]) (st' := [.int 9, .int x6]) (h' := hs σ) [(.iload 6, 2, 6, 0, 0, 0, 0, 0), (.bipush 9, 2, 0, 0, 0, 0, 9, 0)] (by decide +kernel) rfl rfl ?_
  refine XA.icmp_gt (51) 73 (by decide +kernel) (fun c1 => ?_) (fun c1 => ?_)
  · have H := H.1 c1
    refine XA.blk (e9 := 5) (ok := true) (ls' := [some (.ref 77), some (.int x1), some (.int x2), some (.int (if x3 < x5 then x5 else x3 : Int32)), some (.int (x4 + 1)), some (.int x5), some (.int x6)]) (st' := []) (h' := hs σ) [(.iload_n 3, 1, 3, 0, 0, 0, 0, 0), (.iload 5, 2, 5, 0, 0, 0, 0, 0), (.invokestatic 105, 3, 0, 0, 0, 766, 0, 0), (.istore_n 3, 1, 3, 0, 0, 0, 0, 0), (.iinc 4 1, 3, 4, 0, 0, 0, 1, 0), (.goto (-78), 3, 5, 0, 0, 0, 0, 0)] (by decide +kernel) rfl rfl ?_
    exact XA.drop (by simp [leL]) H
  · have H := H.2 c1
    refine XA.blk (e9 := 28) (ok := true) (ls' := [some (.ref 77), some (.int x1), some (.int x2), some (.int x3), some (.int x4), some (.int x5), some (.int x6)]) (st' := [.int x4, .int x1]) (h' := hs σ) [(.iload_n 1, 1, 1, 0, 0, 0, 0, 0), (.iload 4, 2, 4, 0, 0, 0, 0, 0)] (by decide +kernel) rfl rfl ?_
    refine XA.callS (as := [.int x1, .int x4]) (rest := []) (mc' := 0) (ms' := 0) (idx := 101) (t := 765) cs_X10_hasBit (by decide +kernel) rfl rfl (Nat.le_of_ble_eq_true rfl) (Nat.le_of_ble_eq_true rfl) (Nat.le_of_ble_eq_true rfl) (Nat.le_of_ble_eq_true rfl) (pu_X10_hasBit scr σ x1 x4) (fun rv h' hp => ?_)
    obtain ⟨rfl, rfl⟩ := hp
    refine ⟨rfl, rfl, ?_⟩
    show XA scr 1 mX2_mostAlike 172 4705 31 [some (.ref 77), some (.int x1), some (.int x2), some (.int x3), some (.int x4), some (.int x5), some (.int x6)] [.int (hbV x1 x4)] (hs σ) (pI P)
    obtain ⟨hF31, H⟩ := H
    have hJ31 : XA scr 1 mX2_mostAlike 172 4705 67 [some (.ref 77), some (.int x1), some (.int x2), some (.int x3), some (.int x4), some (.int (if (hbV x1 x4) = 0 then x5 else (if (hbV x1 x6) = 0 then x5 else (if ¬ (σ (95 + 1 + 1 * Int32.toNatClampNeg x4) (Int32.toNatClampNeg x2)) = (σ (95 + 1 + 1 * Int32.toNatClampNeg x6) (Int32.toNatClampNeg x2)) then x5 else x5 + 1 : Int32) : Int32) : Int32)), some (.int x6)] [] (hs σ) (pI P) := by
      refine XA.blk (e9 := 18) (ok := true) (ls' := [some (.ref 77), some (.int x1), some (.int x2), some (.int x3), some (.int x4), some (.int (if (hbV x1 x4) = 0 then x5 else (if (hbV x1 x6) = 0 then x5 else (if ¬ (σ (95 + 1 + 1 * Int32.toNatClampNeg x4) (Int32.toNatClampNeg x2)) = (σ (95 + 1 + 1 * Int32.toNatClampNeg x6) (Int32.toNatClampNeg x2)) then x5 else x5 + 1 : Int32) : Int32) : Int32)), some (.int (x6 + 1))]) (st' := []) (h' := hs σ) [(.iinc 6 1, 3, 6, 0, 0, 0, 1, 0), (.goto (-52), 3, 18, 0, 0, 0, 0, 0)] (by decide +kernel) rfl rfl ?_
      exact H
    refine XA.if_eq (36) 67 (by decide +kernel) (fun c2 => ?_) (fun c2 => ?_)
    · simpa only [if_pos c2] using hJ31
    · have H := hF31 c2
      refine XA.blk (e9 := 37) (ok := true) (ls' := [some (.ref 77), some (.int x1), some (.int x2), some (.int x3), some (.int x4), some (.int x5), some (.int x6)]) (st' := [.int x6, .int x1]) (h' := hs σ) [(.iload_n 1, 1, 1, 0, 0, 0, 0, 0), (.iload 6, 2, 6, 0, 0, 0, 0, 0)] (by decide +kernel) rfl rfl ?_
      refine XA.callS (as := [.int x1, .int x6]) (rest := []) (mc' := 0) (ms' := 0) (idx := 101) (t := 765) cs_X10_hasBit (by decide +kernel) rfl rfl (Nat.le_of_ble_eq_true rfl) (Nat.le_of_ble_eq_true rfl) (Nat.le_of_ble_eq_true rfl) (Nat.le_of_ble_eq_true rfl) (pu_X10_hasBit scr σ x1 x6) (fun rv h' hp => ?_)
      obtain ⟨rfl, rfl⟩ := hp
      refine ⟨rfl, rfl, ?_⟩
      show XA scr 1 mX2_mostAlike 172 4705 40 [some (.ref 77), some (.int x1), some (.int x2), some (.int x3), some (.int x4), some (.int x5), some (.int x6)] [.int (hbV x1 x6)] (hs σ) (pI P)
      have hF40 := H
      have hJ40 : XA scr 1 mX2_mostAlike 172 4705 67 [some (.ref 77), some (.int x1), some (.int x2), some (.int x3), some (.int x4), some (.int (if (hbV x1 x6) = 0 then x5 else (if ¬ (σ (95 + 1 + 1 * Int32.toNatClampNeg x4) (Int32.toNatClampNeg x2)) = (σ (95 + 1 + 1 * Int32.toNatClampNeg x6) (Int32.toNatClampNeg x2)) then x5 else x5 + 1 : Int32) : Int32)), some (.int x6)] [] (hs σ) (pI P) := by
        simpa only [if_neg c2] using hJ31
      refine XA.if_eq (27) 67 (by decide +kernel) (fun c3 => ?_) (fun c3 => ?_)
      · simpa only [if_pos c3] using hJ40
      · have H := hF40 c3
        obtain ⟨o1, o2, o3⟩ := H
        refine XA.blk (e9 := 61) (ok := (inB x4 10 && (true && kR R0 95 (Int32.toNatClampNeg x4) (95 + 1 + 1 * Int32.toNatClampNeg x4))) && (kA 172 S0 (95 + 1 + 1 * Int32.toNatClampNeg x4) 1 x2 && ((inB x6 10 && (true && kR R0 95 (Int32.toNatClampNeg x6) (95 + 1 + 1 * Int32.toNatClampNeg x6))) && (kA 172 S0 (95 + 1 + 1 * Int32.toNatClampNeg x6) 1 x2 && (true))))) (ls' := [some (.ref 77), some (.int x1), some (.int x2), some (.int x3), some (.int x4), some (.int x5), some (.int x6)]) (st' := [.int (σ (95 + 1 + 1 * Int32.toNatClampNeg x6) (Int32.toNatClampNeg x2)), .int (σ (95 + 1 + 1 * Int32.toNatClampNeg x4) (Int32.toNatClampNeg x2))]) (h' := hs σ) [(.aload_n 0, 1, 0, 0, 0, 0, 0, 0), (.getfield 39, 3, 2, 5, 19, 334, 0, 0), (.iload 4, 2, 4, 0, 0, 0, 0, 0), (.aaload, 1, 1, 1, 2, 0, 0, 0), (.iload_n 2, 1, 2, 0, 0, 0, 0, 0), (.iaload, 1, 0, 0, 0, 0, 0, 0), (.aload_n 0, 1, 0, 0, 0, 0, 0, 0), (.getfield 39, 3, 2, 5, 19, 334, 0, 0), (.iload 6, 2, 6, 0, 0, 0, 0, 0), (.aaload, 1, 1, 1, 2, 0, 0, 0), (.iload_n 2, 1, 2, 0, 0, 0, 0, 0), (.iaload, 1, 0, 0, 0, 0, 0, 0)] (by decide +kernel) rfl (by simp only [tkK o1, tkA (tkH o1) x2, tkK o3, tkA (tkH o3) x2, o1, o2, o3, Bool.and_true, Bool.true_and]) ?_
        have hJ61 : XA scr 1 mX2_mostAlike 172 4705 67 [some (.ref 77), some (.int x1), some (.int x2), some (.int x3), some (.int x4), some (.int (if ¬ (σ (95 + 1 + 1 * Int32.toNatClampNeg x4) (Int32.toNatClampNeg x2)) = (σ (95 + 1 + 1 * Int32.toNatClampNeg x6) (Int32.toNatClampNeg x2)) then x5 else x5 + 1 : Int32)), some (.int x6)] [] (hs σ) (pI P) := by
          simpa only [if_neg c3] using hJ40
        refine XA.icmp_ne (6) 67 (by decide +kernel) (fun c4 => ?_) (fun c4 => ?_)
        · simpa only [if_pos c4] using hJ61
        · refine XA.blk (e9 := 67) (ok := true) (ls' := [some (.ref 77), some (.int x1), some (.int x2), some (.int x3), some (.int x4), some (.int (x5 + 1)), some (.int x6)]) (st' := []) (h' := hs σ) [(.iinc 5 1, 3, 5, 0, 0, 0, 1, 0)] (by decide +kernel) rfl rfl ?_
          simpa only [if_neg (not_not_intro c4)] using hJ61
theorem E_X2_mostAlike {scr : ScA}  {x1 : Int32} {x2 : Int32} {σ : Nat → Nat → Int32} {P : Int32 → (Nat → Nat → Int32) → Prop} (h : K_X2_mostAlike_0 scr x1 x2 σ P) : CiA scr 1 mX2_mostAlike [.ref 77, .int x1, .int x2] σ P := CtA.of (by decide) (Nat.le_of_ble_eq_true rfl) (XA.drop (by simp [leL, enL]) h)
def K_X2_tellingMoment_0 (scr : ScA)  (x1 : Int32) (σ : Nat → Nat → Int32) (P : Int32 → (Nat → Nat → Int32) → Prop) : Prop := XA scr 2 mX2_tellingMoment 172 4705 0 [some (.ref 77), some (.int x1), none, none, none, none] [] (hs σ) (pI P)
def K_X2_tellingMoment_8 (scr : ScA)  (x1 : Int32) (x2 : Int32) (x3 : Int32) (x4 : Int32) (σ : Nat → Nat → Int32) (P : Int32 → (Nat → Nat → Int32) → Prop) : Prop := XA scr 2 mX2_tellingMoment 172 4705 8 [some (.ref 77), some (.int x1), some (.int x2), some (.int x3), some (.int x4), none] [] (hs σ) (pI P)
def K_X2_tellingMoment_22 (scr : ScA)  (x1 : Int32) (x2 : Int32) (x3 : Int32) (x4 : Int32) (y0 : Int32) (σ : Nat → Nat → Int32) (P : Int32 → (Nat → Nat → Int32) → Prop) : Prop := XA scr 2 mX2_tellingMoment 172 4705 22 [some (.ref 77), some (.int x1), some (.int x2), some (.int x3), some (.int x4), none] [.int y0] (hs σ) (pI P)
set_option maxRecDepth 20000 in
theorem W_X2_tellingMoment_0 {scr : ScA}   {x1 : Int32}  {σ : Nat → Nat → Int32} {P : Int32 → (Nat → Nat → Int32) → Prop} (H : K_X2_tellingMoment_8 scr x1 0 10 0 σ P) : K_X2_tellingMoment_0 scr x1 σ P := by
  show XA scr 2 mX2_tellingMoment 172 4705 0 [some (.ref 77), some (.int x1), none, none, none, none] [] (hs σ) (pI P)
  refine XA.blk (e9 := 8) (ok := true) (ls' := [some (.ref 77), some (.int x1), some (.int 0), some (.int 10), some (.int 0), none]) (st' := []) (h' := hs σ) [(.iconst 0, 1, 0, 0, 0, 0, 0, 0), (.istore_n 2, 1, 2, 0, 0, 0, 0, 0), (.bipush 10, 2, 0, 0, 0, 0, 10, 0), (.istore_n 3, 1, 3, 0, 0, 0, 0, 0), (.iconst 0, 1, 0, 0, 0, 0, 0, 0), (.istore 4, 2, 4, 0, 0, 0, 0, 0)] (by decide +kernel) rfl rfl ?_
  exact H
set_option maxRecDepth 20000 in
theorem W_X2_tellingMoment_8 {scr : ScA}   {x1 : Int32} {x2 : Int32} {x3 : Int32} {x4 : Int32}  {σ : Nat → Nat → Int32} {P : Int32 → (Nat → Nat → Int32) → Prop} (H : (24 ≤ x4 → P x2 σ) ∧ (¬ 24 ≤ x4 → CiA scr 1 mX2_mostAlike [.ref 77, .int x1, .int x4] σ (fun r9 σ' => K_X2_tellingMoment_22 scr x1 x2 x3 x4 r9 σ' P))) : K_X2_tellingMoment_8 scr x1 x2 x3 x4 σ P := by
  show XA scr 2 mX2_tellingMoment 172 4705 8 [some (.ref 77), some (.int x1), some (.int x2), some (.int x3), some (.int x4), none] [] (hs σ) (pI P)
  refine XA.blk (e9 := 12) (ok := true) (ls' := [some (.ref 77), some (.int x1), some (.int x2), some (.int x3), some (.int x4), none]) (st' := [.int 24, .int x4]) (h' := hs σ) [(.iload 4, 2, 4, 0, 0, 0, 0, 0), (.bipush 24, 2, 0, 0, 0, 0, 24, 0)] (by decide +kernel) rfl rfl ?_
  refine XA.icmp_ge (30) 42 (by decide +kernel) (fun c1 => ?_) (fun c1 => ?_)
  · have H := H.1 c1
    refine XA.blk (e9 := 43) (ok := true) (ls' := [some (.ref 77), some (.int x1), some (.int x2), some (.int x3), some (.int x4), none]) (st' := [.int x2]) (h' := hs σ) [(.iload_n 2, 1, 2, 0, 0, 0, 0, 0)] (by decide +kernel) rfl rfl ?_
    exact XA.ret (some (.int x2)) rfl (show ckRt mX2_tellingMoment 43 .ireturn = true by decide +kernel) trivial (Nat.le_of_ble_eq_true rfl) (Nat.le_of_ble_eq_true rfl) ⟨_, _, rfl, rfl, H⟩
  · have H := H.2 c1
    refine XA.blk (e9 := 19) (ok := true) (ls' := [some (.ref 77), some (.int x1), some (.int x2), some (.int x3), some (.int x4), none]) (st' := [.int x4, .int x1, .ref 77]) (h' := hs σ) [(.aload_n 0, 1, 0, 0, 0, 0, 0, 0), (.iload_n 1, 1, 1, 0, 0, 0, 0, 0), (.iload 4, 2, 4, 0, 0, 0, 0, 0)] (by decide +kernel) rfl rfl ?_
    refine XA.callV (as := [.int x1, .int x4]) (rest := []) (mc' := 0) (ms' := 0) (idx := 97) (t := 761) cv_X2_mostAlike (by decide +kernel) rfl rfl rfl (Nat.le_of_ble_eq_true rfl) (Nat.le_of_ble_eq_true rfl) (Nat.le_of_ble_eq_true rfl) (Nat.le_of_ble_eq_true rfl) (H) (fun rv h' hp => ?_)
    obtain ⟨r9, s9, rfl, rfl, hK⟩ := hp
    exact ⟨rfl, rfl, hK⟩
set_option maxRecDepth 20000 in
theorem W_X2_tellingMoment_22 {scr : ScA}   {x1 : Int32} {x2 : Int32} {x3 : Int32} {x4 : Int32} {y0 : Int32}  {σ : Nat → Nat → Int32} {P : Int32 → (Nat → Nat → Int32) → Prop} (H : K_X2_tellingMoment_8 scr x1 (if x3 ≤ y0 then x2 else x4 : Int32) (if x3 ≤ y0 then x3 else y0 : Int32) (x4 + 1) σ P) : K_X2_tellingMoment_22 scr x1 x2 x3 x4 y0 σ P := by
  show XA scr 2 mX2_tellingMoment 172 4705 22 [some (.ref 77), some (.int x1), some (.int x2), some (.int x3), some (.int x4), none] [.int y0] (hs σ) (pI P)
  refine XA.blk (e9 := 27) (ok := true) (ls' := [some (.ref 77), some (.int x1), some (.int x2), some (.int x3), some (.int x4), some (.int y0)]) (st' := [.int x3, .int y0]) (h' := hs σ) [(.istore 5, 2, 5, 0, 0, 0, 0, 0), (.iload 5, 2, 5, 0, 0, 0, 0, 0), (.iload_n 3, 1, 3, 0, 0, 0, 0, 0)] (by decide +kernel) rfl rfl ?_
  have hJ27 : XA scr 2 mX2_tellingMoment 172 4705 36 [some (.ref 77), some (.int x1), some (.int (if x3 ≤ y0 then x2 else x4 : Int32)), some (.int (if x3 ≤ y0 then x3 else y0 : Int32)), some (.int x4), none] [] (hs σ) (pI P) := by
    refine XA.blk (e9 := 8) (ok := true) (ls' := [some (.ref 77), some (.int x1), some (.int (if x3 ≤ y0 then x2 else x4 : Int32)), some (.int (if x3 ≤ y0 then x3 else y0 : Int32)), some (.int (x4 + 1)), none]) (st' := []) (h' := hs σ) [(.iinc 4 1, 3, 4, 0, 0, 0, 1, 0), (.goto (-31), 3, 8, 0, 0, 0, 0, 0)] (by decide +kernel) rfl rfl ?_
    exact H
  refine XA.icmp_ge (9) 36 (by decide +kernel) (fun c1 => ?_) (fun c1 => ?_)
  · refine XA.drop (ls := [some (.ref 77), some (.int x1), some (.int x2), some (.int x3), some (.int x4), none]) (by simp [leL]) ?_
    simpa only [if_pos c1] using hJ27
  · refine XA.blk (e9 := 36) (ok := true) (ls' := [some (.ref 77), some (.int x1), some (.int x4), some (.int y0), some (.int x4), some (.int y0)]) (st' := []) (h' := hs σ) [(.iload 4, 2, 4, 0, 0, 0, 0, 0), (.istore_n 2, 1, 2, 0, 0, 0, 0, 0), (.iload 5, 2, 5, 0, 0, 0, 0, 0), (.istore_n 3, 1, 3, 0, 0, 0, 0, 0)] (by decide +kernel) rfl rfl ?_
    refine XA.drop (ls := [some (.ref 77), some (.int x1), some (.int x4), some (.int y0), some (.int x4), none]) (by simp [leL]) ?_
    simpa only [if_neg c1] using hJ27
theorem E_X2_tellingMoment {scr : ScA}  {x1 : Int32} {σ : Nat → Nat → Int32} {P : Int32 → (Nat → Nat → Int32) → Prop} (h : K_X2_tellingMoment_0 scr x1 σ P) : CiA scr 2 mX2_tellingMoment [.ref 77, .int x1] σ P := CtA.of (by decide) (Nat.le_of_ble_eq_true rfl) (XA.drop (by simp [leL, enL]) h)
def K_X2_neverBits_0 (scr : ScA)   (σ : Nat → Nat → Int32) (P : Int32 → (Nat → Nat → Int32) → Prop) : Prop := XA scr 4 mX2_neverBits 172 4705 0 [some (.ref 77), some (.ref 3), some (.ref 10), some (.ref 14), none] [] (hs σ) (pI P)
def K_X2_neverBits_21 (scr : ScA)  (x4 : Int32) (σ : Nat → Nat → Int32) (P : Int32 → (Nat → Nat → Int32) → Prop) : Prop := XA scr 4 mX2_neverBits 172 4705 21 [some (.ref 77), some (.ref 3), some (.ref 10), some (.ref 14), some (.int x4)] [] (hs σ) (pI P)
def K_X2_neverBits_51 (scr : ScA)  (x4 : Int32) (σ : Nat → Nat → Int32) (P : Int32 → (Nat → Nat → Int32) → Prop) : Prop := XA scr 4 mX2_neverBits 172 4705 51 [some (.ref 77), some (.ref 3), some (.ref 10), some (.ref 14), some (.int x4)] [] (hs σ) (pI P)
def K_X2_neverBits_60 (scr : ScA)  (x4 : Int32) (y0 : Int32) (σ : Nat → Nat → Int32) (P : Int32 → (Nat → Nat → Int32) → Prop) : Prop := XA scr 4 mX2_neverBits 172 4705 60 [some (.ref 77), some (.ref 3), some (.ref 10), some (.ref 14), some (.int x4)] [.int y0] (hs σ) (pI P)
set_option maxRecDepth 20000 in
theorem W_X2_neverBits_0 {scr : ScA}     {σ : Nat → Nat → Int32} {P : Int32 → (Nat → Nat → Int32) → Prop} (H : ((σ 77 6) = (-1) → ∀ σ1, σ1 = (su σ 77 6 0) → K_X2_neverBits_21 scr 0 σ1 P) ∧ (¬ (σ 77 6) = (-1) → P (σ 77 6) σ)) : K_X2_neverBits_0 scr σ P := by
  show XA scr 4 mX2_neverBits 172 4705 0 [some (.ref 77), some (.ref 3), some (.ref 10), some (.ref 14), none] [] (hs σ) (pI P)
  refine XA.blk (e9 := 5) (ok := true) (ls' := [some (.ref 77), some (.ref 3), some (.ref 10), some (.ref 14), none]) (st' := [.int (-1), .int (σ 77 6)]) (h' := hs σ) [(.aload_n 0, 1, 0, 0, 0, 0, 0, 0), (.getfield 51, 3, 2, 6, 0, 335, 0, 0), (.iconst (-1), 1, 0, 0, 0, 0, (-1), 0)] (by decide +kernel) rfl rfl ?_
  refine XA.icmp_eq (8) 13 (by decide +kernel) (fun c1 => ?_) (fun c1 => ?_)
  · have H := H.1 c1
    refine XA.blk (e9 := 18) (ok := true) (ls' := [some (.ref 77), some (.ref 3), some (.ref 10), some (.ref 14), none]) (st' := []) (h' := hs (su σ 77 6 0)) [(.aload_n 0, 1, 0, 0, 0, 0, 0, 0), (.iconst 0, 1, 0, 0, 0, 0, 0, 0), (.putfield 51, 3, 2, 6, 0, 335, 0, 0)] (by decide +kernel) rfl rfl ?_
    obtain ⟨σ1, hσ1⟩ : ∃ s9, s9 = (su σ 77 6 0) := ⟨_, rfl⟩
    rw [← hσ1]
    have H := H σ1 hσ1
    refine XA.blk (e9 := 21) (ok := true) (ls' := [some (.ref 77), some (.ref 3), some (.ref 10), some (.ref 14), some (.int 0)]) (st' := []) (h' := hs σ1) [(.iconst 0, 1, 0, 0, 0, 0, 0, 0), (.istore 4, 2, 4, 0, 0, 0, 0, 0)] (by decide +kernel) rfl rfl ?_
    exact H
  · have H := H.2 c1
    refine XA.blk (e9 := 12) (ok := true) (ls' := [some (.ref 77), some (.ref 3), some (.ref 10), some (.ref 14), none]) (st' := [.int (σ 77 6)]) (h' := hs σ) [(.aload_n 0, 1, 0, 0, 0, 0, 0, 0), (.getfield 51, 3, 2, 6, 0, 335, 0, 0)] (by decide +kernel) rfl rfl ?_
    exact XA.ret (some (.int (σ 77 6))) rfl (show ckRt mX2_neverBits 12 .ireturn = true by decide +kernel) trivial (Nat.le_of_ble_eq_true rfl) (Nat.le_of_ble_eq_true rfl) ⟨_, _, rfl, rfl, H⟩
set_option maxRecDepth 20000 in
theorem W_X2_neverBits_21 {scr : ScA}   {x4 : Int32}  {σ : Nat → Nat → Int32} {P : Int32 → (Nat → Nat → Int32) → Prop} (H : ((σ 10 3) ≤ x4 → P (σ 77 6) σ) ∧ (¬ (σ 10 3) ≤ x4 → CvA scr 3 mX5_play [.ref 85, .ref 3, .ref 10, .int ((((1 : Int32) <<< ((σ 10 3) &&& 31)) - 1) &&& (((1 : Int32) <<< (x4 &&& 31)) ^^^ (-1))), .int 0] σ (fun σ' => K_X2_neverBits_51 scr x4 σ' P))) : K_X2_neverBits_21 scr x4 σ P := by
  show XA scr 4 mX2_neverBits 172 4705 21 [some (.ref 77), some (.ref 3), some (.ref 10), some (.ref 14), some (.int x4)] [] (hs σ) (pI P)
  refine XA.blk (e9 := 27) (ok := true) (ls' := [some (.ref 77), some (.ref 3), some (.ref 10), some (.ref 14), some (.int x4)]) (st' := [.int (σ 10 3), .int x4]) (h' := hs σ) [(.iload 4, 2, 4, 0, 0, 0, 0, 0), (.aload_n 2, 1, 2, 0, 0, 0, 0, 0), (.getfield 55, 3, 1, 3, 0, 172, 0, 0)] (by decide +kernel) rfl rfl ?_
  refine XA.icmp_ge (55) 82 (by decide +kernel) (fun c1 => ?_) (fun c1 => ?_)
  · have H := H.1 c1
    refine XA.blk (e9 := 86) (ok := true) (ls' := [some (.ref 77), some (.ref 3), some (.ref 10), some (.ref 14), some (.int x4)]) (st' := [.int (σ 77 6)]) (h' := hs σ) [(.aload_n 0, 1, 0, 0, 0, 0, 0, 0), (.getfield 51, 3, 2, 6, 0, 335, 0, 0)] (by decide +kernel) rfl rfl ?_
    exact XA.ret (some (.int (σ 77 6))) rfl (show ckRt mX2_neverBits 86 .ireturn = true by decide +kernel) trivial (Nat.le_of_ble_eq_true rfl) (Nat.le_of_ble_eq_true rfl) ⟨_, _, rfl, rfl, H⟩
  · have H := H.2 c1
    refine XA.blk (e9 := 37) (ok := true) (ls' := [some (.ref 77), some (.ref 3), some (.ref 10), some (.ref 14), some (.int x4)]) (st' := [.ref 10, .ref 10, .ref 3, .ref 85]) (h' := hs σ) [(.aload_n 0, 1, 0, 0, 0, 0, 0, 0), (.getfield 23, 3, 2, 1, 9, 327, 0, 0), (.aload_n 1, 1, 1, 0, 0, 0, 0, 0), (.aload_n 2, 1, 2, 0, 0, 0, 0, 0), (.aload_n 2, 1, 2, 0, 0, 0, 0, 0)] (by decide +kernel) rfl rfl ?_
    refine XA.callV (as := []) (rest := [.ref 10, .ref 3, .ref 85]) (mc' := 0) (ms' := 0) (idx := 60) (t := 740) cv_X1_allBits (by decide +kernel) rfl rfl rfl (Nat.le_of_ble_eq_true rfl) (Nat.le_of_ble_eq_true rfl) (Nat.le_of_ble_eq_true rfl) (Nat.le_of_ble_eq_true rfl) (pu_X1_allBits scr σ (by unfold isEv; omega) ) (fun rv h' hp => ?_)
    obtain ⟨rfl, rfl⟩ := hp
    refine ⟨rfl, rfl, ?_⟩
    show XA scr 4 mX2_neverBits 172 4705 40 [some (.ref 77), some (.ref 3), some (.ref 10), some (.ref 14), some (.int x4)] [.int (((1 : Int32) <<< ((σ 10 3) &&& 31)) - 1), .ref 10, .ref 3, .ref 85] (hs σ) (pI P)
    refine XA.blk (e9 := 48) (ok := true) (ls' := [some (.ref 77), some (.ref 3), some (.ref 10), some (.ref 14), some (.int x4)]) (st' := [.int 0, .int ((((1 : Int32) <<< ((σ 10 3) &&& 31)) - 1) &&& (((1 : Int32) <<< (x4 &&& 31)) ^^^ (-1))), .ref 10, .ref 3, .ref 85]) (h' := hs σ) [(.iconst 1, 1, 0, 0, 0, 0, 1, 0), (.iload 4, 2, 4, 0, 0, 0, 0, 0), (.ishl, 1, 0, 0, 0, 0, 0, 0), (.iconst (-1), 1, 0, 0, 0, 0, (-1), 0), (.ixor, 1, 0, 0, 0, 0, 0, 0), (.iand, 1, 0, 0, 0, 0, 0, 0), (.iconst 0, 1, 0, 0, 0, 0, 0, 0)] (by decide +kernel) rfl rfl ?_
    refine XA.callV (as := [.ref 3, .ref 10, .int ((((1 : Int32) <<< ((σ 10 3) &&& 31)) - 1) &&& (((1 : Int32) <<< (x4 &&& 31)) ^^^ (-1))), .int 0]) (rest := []) (mc' := 0) (ms' := 0) (idx := 64) (t := 741) cv_X5_play (by decide +kernel) rfl rfl rfl (Nat.le_of_ble_eq_true rfl) (Nat.le_of_ble_eq_true rfl) (Nat.le_of_ble_eq_true rfl) (Nat.le_of_ble_eq_true rfl) (H) (fun rv h' hp => ?_)
    obtain ⟨s9, rfl, rfl, hK⟩ := hp
    exact ⟨rfl, rfl, hK⟩
set_option maxRecDepth 20000 in
theorem W_X2_neverBits_51 {scr : ScA}   {x4 : Int32}  {σ : Nat → Nat → Int32} {P : Int32 → (Nat → Nat → Int32) → Prop} (H : CiA scr 2 mX6_fit [.ref 14, .ref 85, .ref 3] σ (fun r9 σ' => K_X2_neverBits_60 scr x4 r9 σ' P)) : K_X2_neverBits_51 scr x4 σ P := by
  show XA scr 4 mX2_neverBits 172 4705 51 [some (.ref 77), some (.ref 3), some (.ref 10), some (.ref 14), some (.int x4)] [] (hs σ) (pI P)
  refine XA.blk (e9 := 57) (ok := true) (ls' := [some (.ref 77), some (.ref 3), some (.ref 10), some (.ref 14), some (.int x4)]) (st' := [.ref 3, .ref 85, .ref 14]) (h' := hs σ) [(.aload_n 3, 1, 3, 0, 0, 0, 0, 0), (.aload_n 0, 1, 0, 0, 0, 0, 0, 0), (.getfield 23, 3, 2, 1, 9, 327, 0, 0), (.aload_n 1, 1, 1, 0, 0, 0, 0, 0)] (by decide +kernel) rfl rfl ?_
  refine XA.callV (as := [.ref 85, .ref 3]) (rest := []) (mc' := 0) (ms' := 0) (idx := 68) (t := 742) cv_X6_fit (by decide +kernel) rfl rfl rfl (Nat.le_of_ble_eq_true rfl) (Nat.le_of_ble_eq_true rfl) (Nat.le_of_ble_eq_true rfl) (Nat.le_of_ble_eq_true rfl) (H) (fun rv h' hp => ?_)
  obtain ⟨r9, s9, rfl, rfl, hK⟩ := hp
  exact ⟨rfl, rfl, hK⟩
set_option maxRecDepth 20000 in
theorem W_X2_neverBits_60 {scr : ScA}   {x4 : Int32} {y0 : Int32}  {σ : Nat → Nat → Int32} {P : Int32 → (Nat → Nat → Int32) → Prop} (H : (y0 = 0 → K_X2_neverBits_21 scr (x4 + 1) σ P) ∧ (¬ y0 = 0 → ∀ σ1, σ1 = (su σ 77 6 ((σ 77 6) ||| ((1 : Int32) <<< (x4 &&& 31)))) → K_X2_neverBits_21 scr (x4 + 1) σ1 P)) : K_X2_neverBits_60 scr x4 y0 σ P := by
  show XA scr 4 mX2_neverBits 172 4705 60 [some (.ref 77), some (.ref 3), some (.ref 10), some (.ref 14), some (.int x4)] [.int y0] (hs σ) (pI P)
  refine XA.if_eq (16) 76 (by decide +kernel) (fun c1 => ?_) (fun c1 => ?_)
  · have H := H.1 c1
    refine XA.blk (e9 := 21) (ok := true) (ls' := [some (.ref 77), some (.ref 3), some (.ref 10), some (.ref 14), some (.int (x4 + 1))]) (st' := []) (h' := hs σ) [(.iinc 4 1, 3, 4, 0, 0, 0, 1, 0), (.goto (-58), 3, 21, 0, 0, 0, 0, 0)] (by decide +kernel) rfl rfl ?_
    exact H
  · have H := H.2 c1
    refine XA.blk (e9 := 76) (ok := true) (ls' := [some (.ref 77), some (.ref 3), some (.ref 10), some (.ref 14), some (.int x4)]) (st' := []) (h' := hs (su σ 77 6 ((σ 77 6) ||| ((1 : Int32) <<< (x4 &&& 31))))) [(.aload_n 0, 1, 0, 0, 0, 0, 0, 0), (.dup, 1, 0, 0, 0, 0, 0, 0), (.getfield 51, 3, 2, 6, 0, 335, 0, 0), (.iconst 1, 1, 0, 0, 0, 0, 1, 0), (.iload 4, 2, 4, 0, 0, 0, 0, 0), (.ishl, 1, 0, 0, 0, 0, 0, 0), (.ior, 1, 0, 0, 0, 0, 0, 0), (.putfield 51, 3, 2, 6, 0, 335, 0, 0)] (by decide +kernel) rfl rfl ?_
    obtain ⟨σ1, hσ1⟩ : ∃ s9, s9 = (su σ 77 6 ((σ 77 6) ||| ((1 : Int32) <<< (x4 &&& 31)))) := ⟨_, rfl⟩
    rw [← hσ1]
    have H := H σ1 hσ1
    refine XA.blk (e9 := 21) (ok := true) (ls' := [some (.ref 77), some (.ref 3), some (.ref 10), some (.ref 14), some (.int (x4 + 1))]) (st' := []) (h' := hs σ1) [(.iinc 4 1, 3, 4, 0, 0, 0, 1, 0), (.goto (-58), 3, 21, 0, 0, 0, 0, 0)] (by decide +kernel) rfl rfl ?_
    exact H
theorem E_X2_neverBits {scr : ScA}   {σ : Nat → Nat → Int32} {P : Int32 → (Nat → Nat → Int32) → Prop} (h : K_X2_neverBits_0 scr σ P) : CiA scr 4 mX2_neverBits [.ref 77, .ref 3, .ref 10, .ref 14] σ P := CtA.of (by decide) (Nat.le_of_ble_eq_true rfl) (XA.drop (by simp [leL, enL]) h)
def K_X2_tryWeights_0 (scr : ScA)  (x4 : Int32) (σ : Nat → Nat → Int32) (P : (Nat → Nat → Int32) → Prop) : Prop := XA scr 4 mX2_tryWeights 172 4705 0 [some (.ref 77), some (.ref 3), some (.ref 10), some (.ref 14), some (.int x4), none, none] [] (hs σ) (pV P)
def K_X2_tryWeights_23 (scr : ScA)  (x4 : Int32) (x5 : Int32) (σ : Nat → Nat → Int32) (P : (Nat → Nat → Int32) → Prop) : Prop := XA scr 4 mX2_tryWeights 172 4705 23 [some (.ref 77), none, some (.ref 10), some (.ref 14), some (.int x4), some (.int x5), none] [] (hs σ) (pV P)
def K_X2_tryWeights_26 (scr : ScA)  (x4 : Int32) (x5 : Int32) (x6 : Int32) (σ : Nat → Nat → Int32) (P : (Nat → Nat → Int32) → Prop) : Prop := XA scr 4 mX2_tryWeights 172 4705 26 [some (.ref 77), none, some (.ref 10), some (.ref 14), some (.int x4), some (.int x5), some (.int x6)] [] (hs σ) (pV P)
def K_X2_tryWeights_62 (scr : ScA)  (x4 : Int32) (x5 : Int32) (x6 : Int32) (σ : Nat → Nat → Int32) (P : (Nat → Nat → Int32) → Prop) : Prop := XA scr 4 mX2_tryWeights 172 4705 62 [some (.ref 77), none, some (.ref 10), some (.ref 14), some (.int x4), some (.int x5), some (.int x6)] [] (hs σ) (pV P)
def K_X2_tryWeights_74 (scr : ScA)  (x4 : Int32) (x5 : Int32) (x6 : Int32) (y0 : Int32) (σ : Nat → Nat → Int32) (P : (Nat → Nat → Int32) → Prop) : Prop := XA scr 4 mX2_tryWeights 172 4705 74 [some (.ref 77), none, some (.ref 10), some (.ref 14), some (.int x4), some (.int x5), some (.int x6)] [.int y0] (hs σ) (pV P)
set_option maxRecDepth 20000 in
theorem W_X2_tryWeights_0 {scr : ScA}   {x4 : Int32}  {σ : Nat → Nat → Int32} {P : (Nat → Nat → Int32) → Prop} (H : (inB x4 10 = true) ∧ (((σ 93 (Int32.toNatClampNeg x4)) = (-1) → CvA scr 1 mX8_become [.ref 78, .ref 3] σ (fun σ' => K_X2_tryWeights_23 scr x4 0 σ' P)) ∧ (¬ (σ 93 (Int32.toNatClampNeg x4)) = (-1) → P σ))) : K_X2_tryWeights_0 scr x4 σ P := by
  show XA scr 4 mX2_tryWeights 172 4705 0 [some (.ref 77), some (.ref 3), some (.ref 10), some (.ref 14), some (.int x4), none, none] [] (hs σ) (pV P)
  obtain ⟨o1, H⟩ := H
  refine XA.blk (e9 := 8) (ok := inB x4 10 && (true)) (ls' := [some (.ref 77), some (.ref 3), some (.ref 10), some (.ref 14), some (.int x4), none, none]) (st' := [.int (-1), .int (σ 93 (Int32.toNatClampNeg x4))]) (h' := hs σ) [(.aload_n 0, 1, 0, 0, 0, 0, 0, 0), (.getfield 31, 3, 2, 3, 17, 330, 0, 0), (.iload 4, 2, 4, 0, 0, 0, 0, 0), (.iaload, 1, 0, 0, 0, 0, 0, 0), (.iconst (-1), 1, 0, 0, 0, 0, (-1), 0)] (by decide +kernel) rfl (by simp only [o1, Bool.and_true, Bool.true_and]) ?_
  refine XA.icmp_eq (4) 12 (by decide +kernel) (fun c1 => ?_) (fun c1 => ?_)
  · have H := H.1 c1
    refine XA.blk (e9 := 20) (ok := true) (ls' := [some (.ref 77), some (.ref 3), some (.ref 10), some (.ref 14), some (.int x4), some (.int 0), none]) (st' := [.ref 3, .ref 78]) (h' := hs σ) [(.iconst 0, 1, 0, 0, 0, 0, 0, 0), (.istore 5, 2, 5, 0, 0, 0, 0, 0), (.aload_n 0, 1, 0, 0, 0, 0, 0, 0), (.getfield 12, 3, 2, 0, 2, 326, 0, 0), (.aload_n 1, 1, 1, 0, 0, 0, 0, 0)] (by decide +kernel) rfl rfl ?_
    refine XA.callV (as := [.ref 3]) (rest := []) (mc' := 0) (ms' := 0) (idx := 74) (t := 755) cv_X8_become (by decide +kernel) rfl rfl rfl (Nat.le_of_ble_eq_true rfl) (Nat.le_of_ble_eq_true rfl) (Nat.le_of_ble_eq_true rfl) (Nat.le_of_ble_eq_true rfl) (H) (fun rv h' hp => ?_)
    obtain ⟨s9, rfl, rfl, hK⟩ := hp
    exact ⟨rfl, rfl, XA.drop (by simp [leL]) hK⟩
  · have H := H.2 c1
    exact XA.ret none rfl (show ckRt mX2_tryWeights 11 .return_ = true by decide +kernel) trivial (Nat.le_of_ble_eq_true rfl) (Nat.le_of_ble_eq_true rfl) ⟨_, rfl, rfl, H⟩
set_option maxRecDepth 20000 in
theorem W_X2_tryWeights_23 {scr : ScA}   {x4 : Int32} {x5 : Int32}  {σ : Nat → Nat → Int32} {P : (Nat → Nat → Int32) → Prop} (H : K_X2_tryWeights_26 scr x4 x5 1 σ P) : K_X2_tryWeights_23 scr x4 x5 σ P := by
  show XA scr 4 mX2_tryWeights 172 4705 23 [some (.ref 77), none, some (.ref 10), some (.ref 14), some (.int x4), some (.int x5), none] [] (hs σ) (pV P)
  refine XA.blk (e9 := 26) (ok := true) (ls' := [some (.ref 77), none, some (.ref 10), some (.ref 14), some (.int x4), some (.int x5), some (.int 1)]) (st' := []) (h' := hs σ) [(.iconst 1, 1, 0, 0, 0, 0, 1, 0), (.istore 6, 2, 6, 0, 0, 0, 0, 0)] (by decide +kernel) rfl rfl ?_
  exact H
set_option maxRecDepth 20000 in
theorem W_X2_tryWeights_26 {scr : ScA}   {x4 : Int32} {x5 : Int32} {x6 : Int32}  {σ : Nat → Nat → Int32} {P : (Nat → Nat → Int32) → Prop} (H : (9 < x6 → (inB x4 10 = true) ∧ (∀ σ1, σ1 = (su σ 93 (Int32.toNatClampNeg x4) x5) → P σ1)) ∧ (¬ 9 < x6 → (inB x4 10 = true) ∧ (∀ σ2, σ2 = (su σ 80 (Int32.toNatClampNeg x4) x6) → CvA scr 3 mX5_play [.ref 85, .ref 78, .ref 10, .int (((1 : Int32) <<< ((σ2 10 3) &&& 31)) - 1), .int 0] σ2 (fun σ' => K_X2_tryWeights_62 scr x4 x5 x6 σ' P)))) : K_X2_tryWeights_26 scr x4 x5 x6 σ P := by
  show XA scr 4 mX2_tryWeights 172 4705 26 [some (.ref 77), none, some (.ref 10), some (.ref 14), some (.int x4), some (.int x5), some (.int x6)] [] (hs σ) (pV P)
  refine XA.blk (e9 := 30) (ok := true) (ls' := [some (.ref 77), none, some (.ref 10), some (.ref 14), some (.int x4), some (.int x5), some (.int x6)]) (st' := [.int 9, .int x6]) (h' := hs σ) [(.iload 6, 2, 6, 0, 0, 0, 0, 0), (.bipush 9, 2, 0, 0, 0, 0, 9, 0)] (by decide +kernel) rfl rfl ?_
  refine XA.icmp_gt (62) 92 (by decide +kernel) (fun c1 => ?_) (fun c1 => ?_)
  · have H := H.1 c1
    obtain ⟨o1, H⟩ := H
    refine XA.blk (e9 := 101) (ok := inB x4 10 && (true)) (ls' := [some (.ref 77), none, some (.ref 10), some (.ref 14), some (.int x4), some (.int x5), some (.int x6)]) (st' := []) (h' := hs (su σ 93 (Int32.toNatClampNeg x4) x5)) [(.aload_n 0, 1, 0, 0, 0, 0, 0, 0), (.getfield 31, 3, 2, 3, 17, 330, 0, 0), (.iload 4, 2, 4, 0, 0, 0, 0, 0), (.iload 5, 2, 5, 0, 0, 0, 0, 0), (.iastore, 1, 0, 0, 0, 0, 0, 0)] (by decide +kernel) rfl (by simp only [o1, Bool.and_true, Bool.true_and]) ?_
    obtain ⟨σ1, hσ1⟩ : ∃ s9, s9 = (su σ 93 (Int32.toNatClampNeg x4) x5) := ⟨_, rfl⟩
    rw [← hσ1]
    have H := H σ1 hσ1
    exact XA.ret none rfl (show ckRt mX2_tryWeights 101 .return_ = true by decide +kernel) trivial (Nat.le_of_ble_eq_true rfl) (Nat.le_of_ble_eq_true rfl) ⟨_, rfl, rfl, H⟩
  · have H := H.2 c1
    obtain ⟨o1, H⟩ := H
    refine XA.blk (e9 := 45) (ok := inB x4 10 && (true)) (ls' := [some (.ref 77), none, some (.ref 10), some (.ref 14), some (.int x4), some (.int x5), some (.int x6)]) (st' := []) (h' := hs (su σ 80 (Int32.toNatClampNeg x4) x6)) [(.aload_n 0, 1, 0, 0, 0, 0, 0, 0), (.getfield 12, 3, 2, 0, 2, 326, 0, 0), (.getfield 78, 3, 8, 1, 3, 118, 0, 0), (.iload 4, 2, 4, 0, 0, 0, 0, 0), (.iload 6, 2, 6, 0, 0, 0, 0, 0), (.iastore, 1, 0, 0, 0, 0, 0, 0)] (by decide +kernel) rfl (by simp only [o1, Bool.and_true, Bool.true_and]) ?_
    obtain ⟨σ2, hσ2⟩ : ∃ s9, s9 = (su σ 80 (Int32.toNatClampNeg x4) x6) := ⟨_, rfl⟩
    rw [← hσ2]
    have H := H σ2 hσ2
    refine XA.blk (e9 := 55) (ok := true) (ls' := [some (.ref 77), none, some (.ref 10), some (.ref 14), some (.int x4), some (.int x5), some (.int x6)]) (st' := [.ref 10, .ref 10, .ref 78, .ref 85]) (h' := hs σ2) [(.aload_n 0, 1, 0, 0, 0, 0, 0, 0), (.getfield 23, 3, 2, 1, 9, 327, 0, 0), (.aload_n 0, 1, 0, 0, 0, 0, 0, 0), (.getfield 12, 3, 2, 0, 2, 326, 0, 0), (.aload_n 2, 1, 2, 0, 0, 0, 0, 0), (.aload_n 2, 1, 2, 0, 0, 0, 0, 0)] (by decide +kernel) rfl rfl ?_
    refine XA.callV (as := []) (rest := [.ref 10, .ref 78, .ref 85]) (mc' := 0) (ms' := 0) (idx := 60) (t := 740) cv_X1_allBits (by decide +kernel) rfl rfl rfl (Nat.le_of_ble_eq_true rfl) (Nat.le_of_ble_eq_true rfl) (Nat.le_of_ble_eq_true rfl) (Nat.le_of_ble_eq_true rfl) (pu_X1_allBits scr σ2 (by unfold isEv; omega) ) (fun rv h' hp => ?_)
    obtain ⟨rfl, rfl⟩ := hp
    refine ⟨rfl, rfl, ?_⟩
    show XA scr 4 mX2_tryWeights 172 4705 58 [some (.ref 77), none, some (.ref 10), some (.ref 14), some (.int x4), some (.int x5), some (.int x6)] [.int (((1 : Int32) <<< ((σ2 10 3) &&& 31)) - 1), .ref 10, .ref 78, .ref 85] (hs σ2) (pV P)
    refine XA.blk (e9 := 59) (ok := true) (ls' := [some (.ref 77), none, some (.ref 10), some (.ref 14), some (.int x4), some (.int x5), some (.int x6)]) (st' := [.int 0, .int (((1 : Int32) <<< ((σ2 10 3) &&& 31)) - 1), .ref 10, .ref 78, .ref 85]) (h' := hs σ2) [(.iconst 0, 1, 0, 0, 0, 0, 0, 0)] (by decide +kernel) rfl rfl ?_
    refine XA.callV (as := [.ref 78, .ref 10, .int (((1 : Int32) <<< ((σ2 10 3) &&& 31)) - 1), .int 0]) (rest := []) (mc' := 0) (ms' := 0) (idx := 64) (t := 741) cv_X5_play (by decide +kernel) rfl rfl rfl (Nat.le_of_ble_eq_true rfl) (Nat.le_of_ble_eq_true rfl) (Nat.le_of_ble_eq_true rfl) (Nat.le_of_ble_eq_true rfl) (H) (fun rv h' hp => ?_)
    obtain ⟨s9, rfl, rfl, hK⟩ := hp
    exact ⟨rfl, rfl, hK⟩
set_option maxRecDepth 20000 in
theorem W_X2_tryWeights_62 {scr : ScA}   {x4 : Int32} {x5 : Int32} {x6 : Int32}  {σ : Nat → Nat → Int32} {P : (Nat → Nat → Int32) → Prop} (H : CiA scr 2 mX6_fit [.ref 14, .ref 85, .ref 78] σ (fun r9 σ' => K_X2_tryWeights_74 scr x4 x5 x6 r9 σ' P)) : K_X2_tryWeights_62 scr x4 x5 x6 σ P := by
  show XA scr 4 mX2_tryWeights 172 4705 62 [some (.ref 77), none, some (.ref 10), some (.ref 14), some (.int x4), some (.int x5), some (.int x6)] [] (hs σ) (pV P)
  refine XA.blk (e9 := 71) (ok := true) (ls' := [some (.ref 77), none, some (.ref 10), some (.ref 14), some (.int x4), some (.int x5), some (.int x6)]) (st' := [.ref 78, .ref 85, .ref 14]) (h' := hs σ) [(.aload_n 3, 1, 3, 0, 0, 0, 0, 0), (.aload_n 0, 1, 0, 0, 0, 0, 0, 0), (.getfield 23, 3, 2, 1, 9, 327, 0, 0), (.aload_n 0, 1, 0, 0, 0, 0, 0, 0), (.getfield 12, 3, 2, 0, 2, 326, 0, 0)] (by decide +kernel) rfl rfl ?_
  refine XA.callV (as := [.ref 85, .ref 78]) (rest := []) (mc' := 0) (ms' := 0) (idx := 68) (t := 742) cv_X6_fit (by decide +kernel) rfl rfl rfl (Nat.le_of_ble_eq_true rfl) (Nat.le_of_ble_eq_true rfl) (Nat.le_of_ble_eq_true rfl) (Nat.le_of_ble_eq_true rfl) (H) (fun rv h' hp => ?_)
  obtain ⟨r9, s9, rfl, rfl, hK⟩ := hp
  exact ⟨rfl, rfl, hK⟩
set_option maxRecDepth 20000 in
theorem W_X2_tryWeights_74 {scr : ScA}   {x4 : Int32} {x5 : Int32} {x6 : Int32} {y0 : Int32}  {σ : Nat → Nat → Int32} {P : (Nat → Nat → Int32) → Prop} (H : K_X2_tryWeights_26 scr x4 (if y0 = 0 then x5 else x5 ||| ((1 : Int32) <<< (x6 &&& 31)) : Int32) (x6 + 1) σ P) : K_X2_tryWeights_74 scr x4 x5 x6 y0 σ P := by
  show XA scr 4 mX2_tryWeights 172 4705 74 [some (.ref 77), none, some (.ref 10), some (.ref 14), some (.int x4), some (.int x5), some (.int x6)] [.int y0] (hs σ) (pV P)
  have hJ74 : XA scr 4 mX2_tryWeights 172 4705 86 [some (.ref 77), none, some (.ref 10), some (.ref 14), some (.int x4), some (.int (if y0 = 0 then x5 else x5 ||| ((1 : Int32) <<< (x6 &&& 31)) : Int32)), some (.int x6)] [] (hs σ) (pV P) := by
    refine XA.blk (e9 := 26) (ok := true) (ls' := [some (.ref 77), none, some (.ref 10), some (.ref 14), some (.int x4), some (.int (if y0 = 0 then x5 else x5 ||| ((1 : Int32) <<< (x6 &&& 31)) : Int32)), some (.int (x6 + 1))]) (st' := []) (h' := hs σ) [(.iinc 6 1, 3, 6, 0, 0, 0, 1, 0), (.goto (-63), 3, 26, 0, 0, 0, 0, 0)] (by decide +kernel) rfl rfl ?_
    exact H
  refine XA.if_eq (12) 86 (by decide +kernel) (fun c1 => ?_) (fun c1 => ?_)
  · simpa only [if_pos c1] using hJ74
  · refine XA.blk (e9 := 86) (ok := true) (ls' := [some (.ref 77), none, some (.ref 10), some (.ref 14), some (.int x4), some (.int (x5 ||| ((1 : Int32) <<< (x6 &&& 31)))), some (.int x6)]) (st' := []) (h' := hs σ) [(.iload 5, 2, 5, 0, 0, 0, 0, 0), (.iconst 1, 1, 0, 0, 0, 0, 1, 0), (.iload 6, 2, 6, 0, 0, 0, 0, 0), (.ishl, 1, 0, 0, 0, 0, 0, 0), (.ior, 1, 0, 0, 0, 0, 0, 0), (.istore 5, 2, 5, 0, 0, 0, 0, 0)] (by decide +kernel) rfl rfl ?_
    simpa only [if_neg c1] using hJ74
theorem E_X2_tryWeights {scr : ScA}  {x4 : Int32} {σ : Nat → Nat → Int32} {P : (Nat → Nat → Int32) → Prop} (h : K_X2_tryWeights_0 scr x4 σ P) : CvA scr 4 mX2_tryWeights [.ref 77, .ref 3, .ref 10, .ref 14, .int x4] σ P := CtA.of (by decide) (Nat.le_of_ble_eq_true rfl) (XA.drop (by simp [leL, enL]) h)
def K_X2_tryStrengths_0 (scr : ScA)  (x4 : Int32) (σ : Nat → Nat → Int32) (P : (Nat → Nat → Int32) → Prop) : Prop := XA scr 4 mX2_tryStrengths 172 4705 0 [some (.ref 77), some (.ref 3), some (.ref 10), some (.ref 14), some (.int x4), none, none] [] (hs σ) (pV P)
def K_X2_tryStrengths_23 (scr : ScA)  (x4 : Int32) (x5 : Int32) (σ : Nat → Nat → Int32) (P : (Nat → Nat → Int32) → Prop) : Prop := XA scr 4 mX2_tryStrengths 172 4705 23 [some (.ref 77), none, some (.ref 10), some (.ref 14), some (.int x4), some (.int x5), none] [] (hs σ) (pV P)
def K_X2_tryStrengths_26 (scr : ScA)  (x4 : Int32) (x5 : Int32) (x6 : Int32) (σ : Nat → Nat → Int32) (P : (Nat → Nat → Int32) → Prop) : Prop := XA scr 4 mX2_tryStrengths 172 4705 26 [some (.ref 77), none, some (.ref 10), some (.ref 14), some (.int x4), some (.int x5), some (.int x6)] [] (hs σ) (pV P)
def K_X2_tryStrengths_62 (scr : ScA)  (x4 : Int32) (x5 : Int32) (x6 : Int32) (σ : Nat → Nat → Int32) (P : (Nat → Nat → Int32) → Prop) : Prop := XA scr 4 mX2_tryStrengths 172 4705 62 [some (.ref 77), none, some (.ref 10), some (.ref 14), some (.int x4), some (.int x5), some (.int x6)] [] (hs σ) (pV P)
def K_X2_tryStrengths_95 (scr : ScA)  (x4 : Int32) (x5 : Int32) (x6 : Int32) (y0 : Int32) (σ : Nat → Nat → Int32) (P : (Nat → Nat → Int32) → Prop) : Prop := XA scr 4 mX2_tryStrengths 172 4705 95 [some (.ref 77), none, some (.ref 10), some (.ref 14), some (.int x4), some (.int x5), some (.int x6)] [.int y0] (hs σ) (pV P)
def K_X2_tryStrengths_134 (scr : ScA)  (y1 : Int32) (y2 : Int32) (σ : Nat → Nat → Int32) (P : (Nat → Nat → Int32) → Prop) : Prop := XA scr 4 mX2_tryStrengths 172 4705 134 [none, none, none, none, none, none, none] [.int y2, .int y1, .ref 94] (hs σ) (pV P)
set_option maxRecDepth 20000 in
theorem W_X2_tryStrengths_0 {scr : ScA}   {x4 : Int32}  {σ : Nat → Nat → Int32} {P : (Nat → Nat → Int32) → Prop} (H : (inB x4 10 = true) ∧ (((σ 92 (Int32.toNatClampNeg x4)) = (-1) → CvA scr 1 mX8_become [.ref 78, .ref 3] σ (fun σ' => K_X2_tryStrengths_23 scr x4 0 σ' P)) ∧ (¬ (σ 92 (Int32.toNatClampNeg x4)) = (-1) → P σ))) : K_X2_tryStrengths_0 scr x4 σ P := by
  show XA scr 4 mX2_tryStrengths 172 4705 0 [some (.ref 77), some (.ref 3), some (.ref 10), some (.ref 14), some (.int x4), none, none] [] (hs σ) (pV P)
  obtain ⟨o1, H⟩ := H
  refine XA.blk (e9 := 8) (ok := inB x4 10 && (true)) (ls' := [some (.ref 77), some (.ref 3), some (.ref 10), some (.ref 14), some (.int x4), none, none]) (st' := [.int (-1), .int (σ 92 (Int32.toNatClampNeg x4))]) (h' := hs σ) [(.aload_n 0, 1, 0, 0, 0, 0, 0, 0), (.getfield 27, 3, 2, 2, 16, 328, 0, 0), (.iload 4, 2, 4, 0, 0, 0, 0, 0), (.iaload, 1, 0, 0, 0, 0, 0, 0), (.iconst (-1), 1, 0, 0, 0, 0, (-1), 0)] (by decide +kernel) rfl (by simp only [o1, Bool.and_true, Bool.true_and]) ?_
  refine XA.icmp_eq (4) 12 (by decide +kernel) (fun c1 => ?_) (fun c1 => ?_)
  · have H := H.1 c1
    refine XA.blk (e9 := 20) (ok := true) (ls' := [some (.ref 77), some (.ref 3), some (.ref 10), some (.ref 14), some (.int x4), some (.int 0), none]) (st' := [.ref 3, .ref 78]) (h' := hs σ) [(.iconst 0, 1, 0, 0, 0, 0, 0, 0), (.istore 5, 2, 5, 0, 0, 0, 0, 0), (.aload_n 0, 1, 0, 0, 0, 0, 0, 0), (.getfield 12, 3, 2, 0, 2, 326, 0, 0), (.aload_n 1, 1, 1, 0, 0, 0, 0, 0)] (by decide +kernel) rfl rfl ?_
    refine XA.callV (as := [.ref 3]) (rest := []) (mc' := 0) (ms' := 0) (idx := 74) (t := 755) cv_X8_become (by decide +kernel) rfl rfl rfl (Nat.le_of_ble_eq_true rfl) (Nat.le_of_ble_eq_true rfl) (Nat.le_of_ble_eq_true rfl) (Nat.le_of_ble_eq_true rfl) (H) (fun rv h' hp => ?_)
    obtain ⟨s9, rfl, rfl, hK⟩ := hp
    exact ⟨rfl, rfl, XA.drop (by simp [leL]) hK⟩
  · have H := H.2 c1
    exact XA.ret none rfl (show ckRt mX2_tryStrengths 11 .return_ = true by decide +kernel) trivial (Nat.le_of_ble_eq_true rfl) (Nat.le_of_ble_eq_true rfl) ⟨_, rfl, rfl, H⟩
set_option maxRecDepth 20000 in
theorem W_X2_tryStrengths_23 {scr : ScA}   {x4 : Int32} {x5 : Int32}  {σ : Nat → Nat → Int32} {P : (Nat → Nat → Int32) → Prop} (H : K_X2_tryStrengths_26 scr x4 x5 1 σ P) : K_X2_tryStrengths_23 scr x4 x5 σ P := by
  show XA scr 4 mX2_tryStrengths 172 4705 23 [some (.ref 77), none, some (.ref 10), some (.ref 14), some (.int x4), some (.int x5), none] [] (hs σ) (pV P)
  refine XA.blk (e9 := 26) (ok := true) (ls' := [some (.ref 77), none, some (.ref 10), some (.ref 14), some (.int x4), some (.int x5), some (.int 1)]) (st' := []) (h' := hs σ) [(.iconst 1, 1, 0, 0, 0, 0, 1, 0), (.istore 6, 2, 6, 0, 0, 0, 0, 0)] (by decide +kernel) rfl rfl ?_
  exact H
set_option maxRecDepth 20000 in
theorem W_X2_tryStrengths_26 {scr : ScA}   {x4 : Int32} {x5 : Int32} {x6 : Int32}  {σ : Nat → Nat → Int32} {P : (Nat → Nat → Int32) → Prop} (H : (9 < x6 → (inB x4 10 = true) ∧ (∀ σ1, σ1 = (su σ 92 (Int32.toNatClampNeg x4) x5) → CiA scr 2 mX2_tellingMoment [.ref 77, .int x5] σ1 (fun r9 σ' => K_X2_tryStrengths_134 scr x4 r9 σ' P))) ∧ (¬ 9 < x6 → (inB x4 10 = true) ∧ (∀ σ2, σ2 = (su σ 81 (Int32.toNatClampNeg x4) x6) → CvA scr 3 mX5_play [.ref 85, .ref 78, .ref 10, .int (((1 : Int32) <<< ((σ2 10 3) &&& 31)) - 1), .int 0] σ2 (fun σ' => K_X2_tryStrengths_62 scr x4 x5 x6 σ' P)))) : K_X2_tryStrengths_26 scr x4 x5 x6 σ P := by
  show XA scr 4 mX2_tryStrengths 172 4705 26 [some (.ref 77), none, some (.ref 10), some (.ref 14), some (.int x4), some (.int x5), some (.int x6)] [] (hs σ) (pV P)
  refine XA.blk (e9 := 30) (ok := true) (ls' := [some (.ref 77), none, some (.ref 10), some (.ref 14), some (.int x4), some (.int x5), some (.int x6)]) (st' := [.int 9, .int x6]) (h' := hs σ) [(.iload 6, 2, 6, 0, 0, 0, 0, 0), (.bipush 9, 2, 0, 0, 0, 0, 9, 0)] (by decide +kernel) rfl rfl ?_
  refine XA.icmp_gt (83) 113 (by decide +kernel) (fun c1 => ?_) (fun c1 => ?_)
  · have H := H.1 c1
    obtain ⟨o1, H⟩ := H
    refine XA.blk (e9 := 122) (ok := inB x4 10 && (true)) (ls' := [some (.ref 77), none, some (.ref 10), some (.ref 14), some (.int x4), some (.int x5), some (.int x6)]) (st' := []) (h' := hs (su σ 92 (Int32.toNatClampNeg x4) x5)) [(.aload_n 0, 1, 0, 0, 0, 0, 0, 0), (.getfield 27, 3, 2, 2, 16, 328, 0, 0), (.iload 4, 2, 4, 0, 0, 0, 0, 0), (.iload 5, 2, 5, 0, 0, 0, 0, 0), (.iastore, 1, 0, 0, 0, 0, 0, 0)] (by decide +kernel) rfl (by simp only [o1, Bool.and_true, Bool.true_and]) ?_
    obtain ⟨σ1, hσ1⟩ : ∃ s9, s9 = (su σ 92 (Int32.toNatClampNeg x4) x5) := ⟨_, rfl⟩
    rw [← hσ1]
    have H := H σ1 hσ1
    refine XA.blk (e9 := 131) (ok := true) (ls' := [some (.ref 77), none, some (.ref 10), some (.ref 14), some (.int x4), some (.int x5), some (.int x6)]) (st' := [.int x5, .ref 77, .int x4, .ref 94]) (h' := hs σ1) [(.aload_n 0, 1, 0, 0, 0, 0, 0, 0), (.getfield 34, 3, 2, 4, 18, 332, 0, 0), (.iload 4, 2, 4, 0, 0, 0, 0, 0), (.aload_n 0, 1, 0, 0, 0, 0, 0, 0), (.iload 5, 2, 5, 0, 0, 0, 0, 0)] (by decide +kernel) rfl rfl ?_
    refine XA.callV (as := [.int x5]) (rest := [.int x4, .ref 94]) (mc' := 0) (ms' := 0) (idx := 93) (t := 757) cv_X2_tellingMoment (by decide +kernel) rfl rfl rfl (Nat.le_of_ble_eq_true rfl) (Nat.le_of_ble_eq_true rfl) (Nat.le_of_ble_eq_true rfl) (Nat.le_of_ble_eq_true rfl) (H) (fun rv h' hp => ?_)
    obtain ⟨r9, s9, rfl, rfl, hK⟩ := hp
    exact ⟨rfl, rfl, XA.drop (by simp [leL]) hK⟩
  · have H := H.2 c1
    obtain ⟨o1, H⟩ := H
    refine XA.blk (e9 := 45) (ok := inB x4 10 && (true)) (ls' := [some (.ref 77), none, some (.ref 10), some (.ref 14), some (.int x4), some (.int x5), some (.int x6)]) (st' := []) (h' := hs (su σ 81 (Int32.toNatClampNeg x4) x6)) [(.aload_n 0, 1, 0, 0, 0, 0, 0, 0), (.getfield 12, 3, 2, 0, 2, 326, 0, 0), (.getfield 81, 3, 8, 2, 4, 124, 0, 0), (.iload 4, 2, 4, 0, 0, 0, 0, 0), (.iload 6, 2, 6, 0, 0, 0, 0, 0), (.iastore, 1, 0, 0, 0, 0, 0, 0)] (by decide +kernel) rfl (by simp only [o1, Bool.and_true, Bool.true_and]) ?_
    obtain ⟨σ2, hσ2⟩ : ∃ s9, s9 = (su σ 81 (Int32.toNatClampNeg x4) x6) := ⟨_, rfl⟩
    rw [← hσ2]
    have H := H σ2 hσ2
    refine XA.blk (e9 := 55) (ok := true) (ls' := [some (.ref 77), none, some (.ref 10), some (.ref 14), some (.int x4), some (.int x5), some (.int x6)]) (st' := [.ref 10, .ref 10, .ref 78, .ref 85]) (h' := hs σ2) [(.aload_n 0, 1, 0, 0, 0, 0, 0, 0), (.getfield 23, 3, 2, 1, 9, 327, 0, 0), (.aload_n 0, 1, 0, 0, 0, 0, 0, 0), (.getfield 12, 3, 2, 0, 2, 326, 0, 0), (.aload_n 2, 1, 2, 0, 0, 0, 0, 0), (.aload_n 2, 1, 2, 0, 0, 0, 0, 0)] (by decide +kernel) rfl rfl ?_
    refine XA.callV (as := []) (rest := [.ref 10, .ref 78, .ref 85]) (mc' := 0) (ms' := 0) (idx := 60) (t := 740) cv_X1_allBits (by decide +kernel) rfl rfl rfl (Nat.le_of_ble_eq_true rfl) (Nat.le_of_ble_eq_true rfl) (Nat.le_of_ble_eq_true rfl) (Nat.le_of_ble_eq_true rfl) (pu_X1_allBits scr σ2 (by unfold isEv; omega) ) (fun rv h' hp => ?_)
    obtain ⟨rfl, rfl⟩ := hp
    refine ⟨rfl, rfl, ?_⟩
    show XA scr 4 mX2_tryStrengths 172 4705 58 [some (.ref 77), none, some (.ref 10), some (.ref 14), some (.int x4), some (.int x5), some (.int x6)] [.int (((1 : Int32) <<< ((σ2 10 3) &&& 31)) - 1), .ref 10, .ref 78, .ref 85] (hs σ2) (pV P)
    refine XA.blk (e9 := 59) (ok := true) (ls' := [some (.ref 77), none, some (.ref 10), some (.ref 14), some (.int x4), some (.int x5), some (.int x6)]) (st' := [.int 0, .int (((1 : Int32) <<< ((σ2 10 3) &&& 31)) - 1), .ref 10, .ref 78, .ref 85]) (h' := hs σ2) [(.iconst 0, 1, 0, 0, 0, 0, 0, 0)] (by decide +kernel) rfl rfl ?_
    refine XA.callV (as := [.ref 78, .ref 10, .int (((1 : Int32) <<< ((σ2 10 3) &&& 31)) - 1), .int 0]) (rest := []) (mc' := 0) (ms' := 0) (idx := 64) (t := 741) cv_X5_play (by decide +kernel) rfl rfl rfl (Nat.le_of_ble_eq_true rfl) (Nat.le_of_ble_eq_true rfl) (Nat.le_of_ble_eq_true rfl) (Nat.le_of_ble_eq_true rfl) (H) (fun rv h' hp => ?_)
    obtain ⟨s9, rfl, rfl, hK⟩ := hp
    exact ⟨rfl, rfl, hK⟩
set_option maxRecDepth 20000 in
theorem W_X2_tryStrengths_62 {scr : ScA}   {x4 : Int32} {x5 : Int32} {x6 : Int32}  {σ : Nat → Nat → Int32} {P : (Nat → Nat → Int32) → Prop} (H : (inB x6 10 = true) ∧ (decide ((95 + 1 + 1 * Int32.toNatClampNeg x6) < 172 ∧ (S0 (95 + 1 + 1 * Int32.toNatClampNeg x6)).1 = 1 ∧ 86 < 172 ∧ (S0 86).1 = 1) = true) ∧ (decide (¬ (0 : Int32) < 0 ∧ ¬ (0 : Int32) < 0 ∧ ¬ (24 : Int32) < 0 ∧ Int32.toNatClampNeg (0 : Int32) + Int32.toNatClampNeg (24 : Int32) ≤ (S0 86).2 ∧ Int32.toNatClampNeg (0 : Int32) + Int32.toNatClampNeg (24 : Int32) ≤ (S0 (95 + 1 + 1 * Int32.toNatClampNeg x6)).2) = true) ∧ (∀ σ1, σ1 = (sr σ (95 + 1 + 1 * Int32.toNatClampNeg x6) (va_cpy (σ 86) (σ (95 + 1 + 1 * Int32.toNatClampNeg x6)) (Int32.toNatClampNeg 0) (Int32.toNatClampNeg 0) (Int32.toNatClampNeg 24))) → CiA scr 2 mX6_fit [.ref 14, .ref 85, .ref 78] σ1 (fun r9 σ' => K_X2_tryStrengths_95 scr x4 x5 x6 r9 σ' P))) : K_X2_tryStrengths_62 scr x4 x5 x6 σ P := by
  show XA scr 4 mX2_tryStrengths 172 4705 62 [some (.ref 77), none, some (.ref 10), some (.ref 14), some (.int x4), some (.int x5), some (.int x6)] [] (hs σ) (pV P)
  obtain ⟨o1, o2, o3, H⟩ := H
  refine XA.blk (e9 := 83) (ok := (inB x6 10 && (true && kR R0 95 (Int32.toNatClampNeg x6) (95 + 1 + 1 * Int32.toNatClampNeg x6))) && ((decide ((95 + 1 + 1 * Int32.toNatClampNeg x6) < 172 ∧ (S0 (95 + 1 + 1 * Int32.toNatClampNeg x6)).1 = 1 ∧ 86 < 172 ∧ (S0 86).1 = 1) && decide (¬ (0 : Int32) < 0 ∧ ¬ (0 : Int32) < 0 ∧ ¬ (24 : Int32) < 0 ∧ Int32.toNatClampNeg (0 : Int32) + Int32.toNatClampNeg (24 : Int32) ≤ (S0 86).2 ∧ Int32.toNatClampNeg (0 : Int32) + Int32.toNatClampNeg (24 : Int32) ≤ (S0 (95 + 1 + 1 * Int32.toNatClampNeg x6)).2)) && (true))) (ls' := [some (.ref 77), none, some (.ref 10), some (.ref 14), some (.int x4), some (.int x5), some (.int x6)]) (st' := []) (h' := hs (sr σ (95 + 1 + 1 * Int32.toNatClampNeg x6) (va_cpy (σ 86) (σ (95 + 1 + 1 * Int32.toNatClampNeg x6)) (Int32.toNatClampNeg 0) (Int32.toNatClampNeg 0) (Int32.toNatClampNeg 24)))) [(.aload_n 0, 1, 0, 0, 0, 0, 0, 0), (.getfield 23, 3, 2, 1, 9, 327, 0, 0), (.getfield 84, 3, 5, 0, 2, 214, 0, 0), (.iconst 0, 1, 0, 0, 0, 0, 0, 0), (.aload_n 0, 1, 0, 0, 0, 0, 0, 0), (.getfield 39, 3, 2, 5, 19, 334, 0, 0), (.iload 6, 2, 6, 0, 0, 0, 0, 0), (.aaload, 1, 1, 1, 2, 0, 0, 0), (.iconst 0, 1, 0, 0, 0, 0, 0, 0), (.bipush 24, 2, 0, 0, 0, 0, 24, 0), (.invokestatic 87, 3, 2, 0, 0, 756, 0, 0)] (by decide +kernel) rfl (by simp only [tkK o1, o1, o2, o3, Bool.and_true, Bool.true_and]) ?_
  obtain ⟨σ1, hσ1⟩ : ∃ s9, s9 = (sr σ (95 + 1 + 1 * Int32.toNatClampNeg x6) (va_cpy (σ 86) (σ (95 + 1 + 1 * Int32.toNatClampNeg x6)) (Int32.toNatClampNeg 0) (Int32.toNatClampNeg 0) (Int32.toNatClampNeg 24))) := ⟨_, rfl⟩
  rw [← hσ1]
  have H := H σ1 hσ1
  refine XA.blk (e9 := 92) (ok := true) (ls' := [some (.ref 77), none, some (.ref 10), some (.ref 14), some (.int x4), some (.int x5), some (.int x6)]) (st' := [.ref 78, .ref 85, .ref 14]) (h' := hs σ1) [(.aload_n 3, 1, 3, 0, 0, 0, 0, 0), (.aload_n 0, 1, 0, 0, 0, 0, 0, 0), (.getfield 23, 3, 2, 1, 9, 327, 0, 0), (.aload_n 0, 1, 0, 0, 0, 0, 0, 0), (.getfield 12, 3, 2, 0, 2, 326, 0, 0)] (by decide +kernel) rfl rfl ?_
  refine XA.callV (as := [.ref 85, .ref 78]) (rest := []) (mc' := 0) (ms' := 0) (idx := 68) (t := 742) cv_X6_fit (by decide +kernel) rfl rfl rfl (Nat.le_of_ble_eq_true rfl) (Nat.le_of_ble_eq_true rfl) (Nat.le_of_ble_eq_true rfl) (Nat.le_of_ble_eq_true rfl) (H) (fun rv h' hp => ?_)
  obtain ⟨r9, s9, rfl, rfl, hK⟩ := hp
  exact ⟨rfl, rfl, hK⟩
set_option maxRecDepth 20000 in
theorem W_X2_tryStrengths_95 {scr : ScA}   {x4 : Int32} {x5 : Int32} {x6 : Int32} {y0 : Int32}  {σ : Nat → Nat → Int32} {P : (Nat → Nat → Int32) → Prop} (H : K_X2_tryStrengths_26 scr x4 (if y0 = 0 then x5 else x5 ||| ((1 : Int32) <<< (x6 &&& 31)) : Int32) (x6 + 1) σ P) : K_X2_tryStrengths_95 scr x4 x5 x6 y0 σ P := by
  show XA scr 4 mX2_tryStrengths 172 4705 95 [some (.ref 77), none, some (.ref 10), some (.ref 14), some (.int x4), some (.int x5), some (.int x6)] [.int y0] (hs σ) (pV P)
  have hJ95 : XA scr 4 mX2_tryStrengths 172 4705 107 [some (.ref 77), none, some (.ref 10), some (.ref 14), some (.int x4), some (.int (if y0 = 0 then x5 else x5 ||| ((1 : Int32) <<< (x6 &&& 31)) : Int32)), some (.int x6)] [] (hs σ) (pV P) := by
    refine XA.blk (e9 := 26) (ok := true) (ls' := [some (.ref 77), none, some (.ref 10), some (.ref 14), some (.int x4), some (.int (if y0 = 0 then x5 else x5 ||| ((1 : Int32) <<< (x6 &&& 31)) : Int32)), some (.int (x6 + 1))]) (st' := []) (h' := hs σ) [(.iinc 6 1, 3, 6, 0, 0, 0, 1, 0), (.goto (-84), 3, 26, 0, 0, 0, 0, 0)] (by decide +kernel) rfl rfl ?_
    exact H
  refine XA.if_eq (12) 107 (by decide +kernel) (fun c1 => ?_) (fun c1 => ?_)
  · simpa only [if_pos c1] using hJ95
  · refine XA.blk (e9 := 107) (ok := true) (ls' := [some (.ref 77), none, some (.ref 10), some (.ref 14), some (.int x4), some (.int (x5 ||| ((1 : Int32) <<< (x6 &&& 31)))), some (.int x6)]) (st' := []) (h' := hs σ) [(.iload 5, 2, 5, 0, 0, 0, 0, 0), (.iconst 1, 1, 0, 0, 0, 0, 1, 0), (.iload 6, 2, 6, 0, 0, 0, 0, 0), (.ishl, 1, 0, 0, 0, 0, 0, 0), (.ior, 1, 0, 0, 0, 0, 0, 0), (.istore 5, 2, 5, 0, 0, 0, 0, 0)] (by decide +kernel) rfl rfl ?_
    simpa only [if_neg c1] using hJ95
set_option maxRecDepth 20000 in
theorem W_X2_tryStrengths_134 {scr : ScA}   {y1 : Int32} {y2 : Int32}  {σ : Nat → Nat → Int32} {P : (Nat → Nat → Int32) → Prop} (H : (inB y1 10 = true) ∧ (∀ σ1, σ1 = (su σ 94 (Int32.toNatClampNeg y1) y2) → P σ1)) : K_X2_tryStrengths_134 scr y1 y2 σ P := by
  show XA scr 4 mX2_tryStrengths 172 4705 134 [none, none, none, none, none, none, none] [.int y2, .int y1, .ref 94] (hs σ) (pV P)
  obtain ⟨o1, H⟩ := H
  refine XA.blk (e9 := 135) (ok := inB y1 10 && (true)) (ls' := [none, none, none, none, none, none, none]) (st' := []) (h' := hs (su σ 94 (Int32.toNatClampNeg y1) y2)) [(.iastore, 1, 0, 0, 0, 0, 0, 0)] (by decide +kernel) rfl (by simp only [o1, Bool.and_true, Bool.true_and]) ?_
  obtain ⟨σ1, hσ1⟩ : ∃ s9, s9 = (su σ 94 (Int32.toNatClampNeg y1) y2) := ⟨_, rfl⟩
  rw [← hσ1]
  have H := H σ1 hσ1
  exact XA.ret none rfl (show ckRt mX2_tryStrengths 135 .return_ = true by decide +kernel) trivial (Nat.le_of_ble_eq_true rfl) (Nat.le_of_ble_eq_true rfl) ⟨_, rfl, rfl, H⟩
theorem E_X2_tryStrengths {scr : ScA}  {x4 : Int32} {σ : Nat → Nat → Int32} {P : (Nat → Nat → Int32) → Prop} (h : K_X2_tryStrengths_0 scr x4 σ P) : CvA scr 4 mX2_tryStrengths [.ref 77, .ref 3, .ref 10, .ref 14, .int x4] σ P := CtA.of (by decide) (Nat.le_of_ble_eq_true rfl) (XA.drop (by simp [leL, enL]) h)
def K_X3_bestSwap_0 (scr : ScA)   (σ : Nat → Nat → Int32) (P : Nat → (Nat → Nat → Int32) → Prop) : Prop := XA scr 4 mX3_bestSwap 172 4705 0 [some (.ref 49), some (.ref 3), some (.ref 10), none, none] [] (hs σ) (pR P)
def K_X3_bestSwap_22 (scr : ScA)   (σ : Nat → Nat → Int32) (P : Nat → (Nat → Nat → Int32) → Prop) : Prop := XA scr 4 mX3_bestSwap 172 4705 22 [some (.ref 49), some (.ref 3), some (.ref 10), none, none] [] (hs σ) (pR P)
def K_X3_bestSwap_30 (scr : ScA)   (σ : Nat → Nat → Int32) (P : Nat → (Nat → Nat → Int32) → Prop) : Prop := XA scr 4 mX3_bestSwap 172 4705 30 [some (.ref 49), some (.ref 3), some (.ref 10), none, none] [] (hs σ) (pR P)
def K_X3_bestSwap_32 (scr : ScA)  (x3 : Int32) (σ : Nat → Nat → Int32) (P : Nat → (Nat → Nat → Int32) → Prop) : Prop := XA scr 4 mX3_bestSwap 172 4705 32 [some (.ref 49), some (.ref 3), some (.ref 10), some (.int x3), none] [] (hs σ) (pR P)
def K_X3_bestSwap_45 (scr : ScA)  (x3 : Int32) (x4 : Int32) (σ : Nat → Nat → Int32) (P : Nat → (Nat → Nat → Int32) → Prop) : Prop := XA scr 4 mX3_bestSwap 172 4705 45 [some (.ref 49), some (.ref 3), some (.ref 10), some (.int x3), some (.int x4)] [] (hs σ) (pR P)
def K_X3_bestSwap_64 (scr : ScA)  (x3 : Int32) (x4 : Int32) (σ : Nat → Nat → Int32) (P : Nat → (Nat → Nat → Int32) → Prop) : Prop := XA scr 4 mX3_bestSwap 172 4705 64 [some (.ref 49), some (.ref 3), some (.ref 10), some (.int x3), some (.int x4)] [] (hs σ) (pR P)
def K_X3_bestSwap_81 (scr : ScA)  (x3 : Int32) (x4 : Int32) (σ : Nat → Nat → Int32) (P : Nat → (Nat → Nat → Int32) → Prop) : Prop := XA scr 4 mX3_bestSwap 172 4705 81 [some (.ref 49), some (.ref 3), some (.ref 10), some (.int x3), some (.int x4)] [] (hs σ) (pR P)
def K_X3_bestSwap_98 (scr : ScA)  (x3 : Int32) (x4 : Int32) (σ : Nat → Nat → Int32) (P : Nat → (Nat → Nat → Int32) → Prop) : Prop := XA scr 4 mX3_bestSwap 172 4705 98 [some (.ref 49), some (.ref 3), some (.ref 10), some (.int x3), some (.int x4)] [] (hs σ) (pR P)
def K_X3_bestSwap_108 (scr : ScA)  (x3 : Int32) (x4 : Int32) (σ : Nat → Nat → Int32) (P : Nat → (Nat → Nat → Int32) → Prop) : Prop := XA scr 4 mX3_bestSwap 172 4705 108 [some (.ref 49), some (.ref 3), some (.ref 10), some (.int x3), some (.int x4)] [] (hs σ) (pR P)
set_option maxRecDepth 20000 in
theorem W_X3_bestSwap_0 {scr : ScA}     {σ : Nat → Nat → Int32} {P : Nat → (Nat → Nat → Int32) → Prop} (H : ((σ 64 3) = 0 → CvA scr 0 mX0_begin [.ref 64] σ (fun σ' => K_X3_bestSwap_22 scr σ' P)) ∧ (¬ (σ 64 3) = 0 → P 64 σ)) : K_X3_bestSwap_0 scr σ P := by
  show XA scr 4 mX3_bestSwap 172 4705 0 [some (.ref 49), some (.ref 3), some (.ref 10), none, none] [] (hs σ) (pR P)
  refine XA.blk (e9 := 7) (ok := true) (ls' := [some (.ref 49), some (.ref 3), some (.ref 10), none, none]) (st' := [.int (σ 64 3)]) (h' := hs σ) [(.aload_n 0, 1, 0, 0, 0, 0, 0, 0), (.getfield 30, 3, 3, 2, 16, 296, 0, 0), (.getfield 41, 3, 0, 3, 0, 282, 0, 0)] (by decide +kernel) rfl rfl ?_
  refine XA.if_eq (8) 15 (by decide +kernel) (fun c1 => ?_) (fun c1 => ?_)
  · have H := H.1 c1
    refine XA.blk (e9 := 19) (ok := true) (ls' := [some (.ref 49), some (.ref 3), some (.ref 10), none, none]) (st' := [.ref 64]) (h' := hs σ) [(.aload_n 0, 1, 0, 0, 0, 0, 0, 0), (.getfield 30, 3, 3, 2, 16, 296, 0, 0)] (by decide +kernel) rfl rfl ?_
    refine XA.callV (as := []) (rest := []) (mc' := 0) (ms' := 0) (idx := 45) (t := 659) cv_X0_begin (by decide +kernel) rfl rfl rfl (Nat.le_of_ble_eq_true rfl) (Nat.le_of_ble_eq_true rfl) (Nat.le_of_ble_eq_true rfl) (Nat.le_of_ble_eq_true rfl) (H) (fun rv h' hp => ?_)
    obtain ⟨s9, rfl, rfl, hK⟩ := hp
    exact ⟨rfl, rfl, hK⟩
  · have H := H.2 c1
    refine XA.blk (e9 := 14) (ok := true) (ls' := [some (.ref 49), some (.ref 3), some (.ref 10), none, none]) (st' := [.ref 64]) (h' := hs σ) [(.aload_n 0, 1, 0, 0, 0, 0, 0, 0), (.getfield 30, 3, 3, 2, 16, 296, 0, 0)] (by decide +kernel) rfl rfl ?_
    exact XA.ret (some (.ref 64)) rfl (show ckRt mX3_bestSwap 14 .areturn = true by decide +kernel) trivial (Nat.le_of_ble_eq_true rfl) (Nat.le_of_ble_eq_true rfl) ⟨_, _, rfl, rfl, H⟩
set_option maxRecDepth 20000 in
theorem W_X3_bestSwap_22 {scr : ScA}     {σ : Nat → Nat → Int32} {P : Nat → (Nat → Nat → Int32) → Prop} (H : CvA scr 1 mX8_become [.ref 50, .ref 3] σ (fun σ' => K_X3_bestSwap_30 scr σ' P)) : K_X3_bestSwap_22 scr σ P := by
  show XA scr 4 mX3_bestSwap 172 4705 22 [some (.ref 49), some (.ref 3), some (.ref 10), none, none] [] (hs σ) (pR P)
  refine XA.blk (e9 := 27) (ok := true) (ls' := [some (.ref 49), some (.ref 3), some (.ref 10), none, none]) (st' := [.ref 3, .ref 50]) (h' := hs σ) [(.aload_n 0, 1, 0, 0, 0, 0, 0, 0), (.getfield 12, 3, 3, 0, 2, 294, 0, 0), (.aload_n 1, 1, 1, 0, 0, 0, 0, 0)] (by decide +kernel) rfl rfl ?_
  refine XA.callV (as := [.ref 3]) (rest := []) (mc' := 0) (ms' := 0) (idx := 48) (t := 663) cv_X8_become (by decide +kernel) rfl rfl rfl (Nat.le_of_ble_eq_true rfl) (Nat.le_of_ble_eq_true rfl) (Nat.le_of_ble_eq_true rfl) (Nat.le_of_ble_eq_true rfl) (H) (fun rv h' hp => ?_)
  obtain ⟨s9, rfl, rfl, hK⟩ := hp
  exact ⟨rfl, rfl, hK⟩
set_option maxRecDepth 20000 in
theorem W_X3_bestSwap_30 {scr : ScA}     {σ : Nat → Nat → Int32} {P : Nat → (Nat → Nat → Int32) → Prop} (H : K_X3_bestSwap_32 scr 0 σ P) : K_X3_bestSwap_30 scr σ P := by
  show XA scr 4 mX3_bestSwap 172 4705 30 [some (.ref 49), some (.ref 3), some (.ref 10), none, none] [] (hs σ) (pR P)
  refine XA.blk (e9 := 32) (ok := true) (ls' := [some (.ref 49), some (.ref 3), some (.ref 10), some (.int 0), none]) (st' := []) (h' := hs σ) [(.iconst 0, 1, 0, 0, 0, 0, 0, 0), (.istore_n 3, 1, 3, 0, 0, 0, 0, 0)] (by decide +kernel) rfl rfl ?_
  exact H
set_option maxRecDepth 20000 in
theorem W_X3_bestSwap_32 {scr : ScA}   {x3 : Int32}  {σ : Nat → Nat → Int32} {P : Nat → (Nat → Nat → Int32) → Prop} (H : ((σ 3 6) ≤ x3 → P 64 σ) ∧ (¬ (σ 3 6) ≤ x3 → K_X3_bestSwap_45 scr x3 (x3 + 1) σ P)) : K_X3_bestSwap_32 scr x3 σ P := by
  show XA scr 4 mX3_bestSwap 172 4705 32 [some (.ref 49), some (.ref 3), some (.ref 10), some (.int x3), none] [] (hs σ) (pR P)
  refine XA.blk (e9 := 37) (ok := true) (ls' := [some (.ref 49), some (.ref 3), some (.ref 10), some (.int x3), none]) (st' := [.int (σ 3 6), .int x3]) (h' := hs σ) [(.iload_n 3, 1, 3, 0, 0, 0, 0, 0), (.aload_n 1, 1, 1, 0, 0, 0, 0, 0), (.getfield 52, 3, 8, 6, 0, 140, 0, 0)] (by decide +kernel) rfl rfl ?_
  refine XA.icmp_ge (83) 120 (by decide +kernel) (fun c1 => ?_) (fun c1 => ?_)
  · have H := H.1 c1
    refine XA.blk (e9 := 124) (ok := true) (ls' := [some (.ref 49), some (.ref 3), some (.ref 10), some (.int x3), none]) (st' := [.ref 64]) (h' := hs σ) [(.aload_n 0, 1, 0, 0, 0, 0, 0, 0), (.getfield 30, 3, 3, 2, 16, 296, 0, 0)] (by decide +kernel) rfl rfl ?_
    exact XA.ret (some (.ref 64)) rfl (show ckRt mX3_bestSwap 124 .areturn = true by decide +kernel) trivial (Nat.le_of_ble_eq_true rfl) (Nat.le_of_ble_eq_true rfl) ⟨_, _, rfl, rfl, H⟩
  · have H := H.2 c1
    refine XA.blk (e9 := 45) (ok := true) (ls' := [some (.ref 49), some (.ref 3), some (.ref 10), some (.int x3), some (.int (x3 + 1))]) (st' := []) (h' := hs σ) [(.iload_n 3, 1, 3, 0, 0, 0, 0, 0), (.iconst 1, 1, 0, 0, 0, 0, 1, 0), (.iadd, 1, 0, 0, 0, 0, 0, 0), (.istore 4, 2, 4, 0, 0, 0, 0, 0)] (by decide +kernel) rfl rfl ?_
    exact H
set_option maxRecDepth 20000 in
theorem W_X3_bestSwap_45 {scr : ScA}   {x3 : Int32} {x4 : Int32}  {σ : Nat → Nat → Int32} {P : Nat → (Nat → Nat → Int32) → Prop} (H : ((σ 3 6) ≤ x4 → K_X3_bestSwap_32 scr (x3 + 1) σ P) ∧ (¬ (σ 3 6) ≤ x4 → CvA scr 2 mX8_exchange [.ref 50, .int x3, .int x4] σ (fun σ' => K_X3_bestSwap_64 scr x3 x4 σ' P))) : K_X3_bestSwap_45 scr x3 x4 σ P := by
  show XA scr 4 mX3_bestSwap 172 4705 45 [some (.ref 49), some (.ref 3), some (.ref 10), some (.int x3), some (.int x4)] [] (hs σ) (pR P)
  refine XA.blk (e9 := 51) (ok := true) (ls' := [some (.ref 49), some (.ref 3), some (.ref 10), some (.int x3), some (.int x4)]) (st' := [.int (σ 3 6), .int x4]) (h' := hs σ) [(.iload 4, 2, 4, 0, 0, 0, 0, 0), (.aload_n 1, 1, 1, 0, 0, 0, 0, 0), (.getfield 52, 3, 8, 6, 0, 140, 0, 0)] (by decide +kernel) rfl rfl ?_
  refine XA.icmp_ge (63) 114 (by decide +kernel) (fun c1 => ?_) (fun c1 => ?_)
  · have H := H.1 c1
    refine XA.blk (e9 := 32) (ok := true) (ls' := [some (.ref 49), some (.ref 3), some (.ref 10), some (.int (x3 + 1)), some (.int x4)]) (st' := []) (h' := hs σ) [(.iinc 3 1, 3, 3, 0, 0, 0, 1, 0), (.goto (-85), 3, 32, 0, 0, 0, 0, 0)] (by decide +kernel) rfl rfl ?_
    exact XA.drop (by simp [leL]) H
  · have H := H.2 c1
    refine XA.blk (e9 := 61) (ok := true) (ls' := [some (.ref 49), some (.ref 3), some (.ref 10), some (.int x3), some (.int x4)]) (st' := [.int x4, .int x3, .ref 50]) (h' := hs σ) [(.aload_n 0, 1, 0, 0, 0, 0, 0, 0), (.getfield 12, 3, 3, 0, 2, 294, 0, 0), (.iload_n 3, 1, 3, 0, 0, 0, 0, 0), (.iload 4, 2, 4, 0, 0, 0, 0, 0)] (by decide +kernel) rfl rfl ?_
    refine XA.callV (as := [.int x3, .int x4]) (rest := []) (mc' := 0) (ms' := 0) (idx := 56) (t := 670) cv_X8_exchange (by decide +kernel) rfl rfl rfl (Nat.le_of_ble_eq_true rfl) (Nat.le_of_ble_eq_true rfl) (Nat.le_of_ble_eq_true rfl) (Nat.le_of_ble_eq_true rfl) (H) (fun rv h' hp => ?_)
    obtain ⟨s9, rfl, rfl, hK⟩ := hp
    exact ⟨rfl, rfl, hK⟩
set_option maxRecDepth 20000 in
theorem W_X3_bestSwap_64 {scr : ScA}   {x3 : Int32} {x4 : Int32}  {σ : Nat → Nat → Int32} {P : Nat → (Nat → Nat → Int32) → Prop} (H : CvA scr 3 mX5_play [.ref 57, .ref 50, .ref 10, .int (((1 : Int32) <<< ((σ 10 3) &&& 31)) - 1), .int 0] σ (fun σ' => K_X3_bestSwap_81 scr x3 x4 σ' P)) : K_X3_bestSwap_64 scr x3 x4 σ P := by
  show XA scr 4 mX3_bestSwap 172 4705 64 [some (.ref 49), some (.ref 3), some (.ref 10), some (.int x3), some (.int x4)] [] (hs σ) (pR P)
  refine XA.blk (e9 := 74) (ok := true) (ls' := [some (.ref 49), some (.ref 3), some (.ref 10), some (.int x3), some (.int x4)]) (st' := [.ref 10, .ref 10, .ref 50, .ref 57]) (h' := hs σ) [(.aload_n 0, 1, 0, 0, 0, 0, 0, 0), (.getfield 23, 3, 3, 1, 9, 295, 0, 0), (.aload_n 0, 1, 0, 0, 0, 0, 0, 0), (.getfield 12, 3, 3, 0, 2, 294, 0, 0), (.aload_n 2, 1, 2, 0, 0, 0, 0, 0), (.aload_n 2, 1, 2, 0, 0, 0, 0, 0)] (by decide +kernel) rfl rfl ?_
  refine XA.callV (as := []) (rest := [.ref 10, .ref 50, .ref 57]) (mc' := 0) (ms' := 0) (idx := 60) (t := 675) cv_X1_allBits (by decide +kernel) rfl rfl rfl (Nat.le_of_ble_eq_true rfl) (Nat.le_of_ble_eq_true rfl) (Nat.le_of_ble_eq_true rfl) (Nat.le_of_ble_eq_true rfl) (pu_X1_allBits scr σ (by unfold isEv; omega) ) (fun rv h' hp => ?_)
  obtain ⟨rfl, rfl⟩ := hp
  refine ⟨rfl, rfl, ?_⟩
  show XA scr 4 mX3_bestSwap 172 4705 77 [some (.ref 49), some (.ref 3), some (.ref 10), some (.int x3), some (.int x4)] [.int (((1 : Int32) <<< ((σ 10 3) &&& 31)) - 1), .ref 10, .ref 50, .ref 57] (hs σ) (pR P)
  refine XA.blk (e9 := 78) (ok := true) (ls' := [some (.ref 49), some (.ref 3), some (.ref 10), some (.int x3), some (.int x4)]) (st' := [.int 0, .int (((1 : Int32) <<< ((σ 10 3) &&& 31)) - 1), .ref 10, .ref 50, .ref 57]) (h' := hs σ) [(.iconst 0, 1, 0, 0, 0, 0, 0, 0)] (by decide +kernel) rfl rfl ?_
  refine XA.callV (as := [.ref 50, .ref 10, .int (((1 : Int32) <<< ((σ 10 3) &&& 31)) - 1), .int 0]) (rest := []) (mc' := 0) (ms' := 0) (idx := 66) (t := 676) cv_X5_play (by decide +kernel) rfl rfl rfl (Nat.le_of_ble_eq_true rfl) (Nat.le_of_ble_eq_true rfl) (Nat.le_of_ble_eq_true rfl) (Nat.le_of_ble_eq_true rfl) (H) (fun rv h' hp => ?_)
  obtain ⟨s9, rfl, rfl, hK⟩ := hp
  exact ⟨rfl, rfl, hK⟩
set_option maxRecDepth 20000 in
theorem W_X3_bestSwap_81 {scr : ScA}   {x3 : Int32} {x4 : Int32}  {σ : Nat → Nat → Int32} {P : Nat → (Nat → Nat → Int32) → Prop} (H : CvA scr 0 mX0_offer [.ref 64, .int x3, .int x4, .int (σ 57 10)] σ (fun σ' => K_X3_bestSwap_98 scr x3 x4 σ' P)) : K_X3_bestSwap_81 scr x3 x4 σ P := by
  show XA scr 4 mX3_bestSwap 172 4705 81 [some (.ref 49), some (.ref 3), some (.ref 10), some (.int x3), some (.int x4)] [] (hs σ) (pR P)
  refine XA.blk (e9 := 95) (ok := true) (ls' := [some (.ref 49), some (.ref 3), some (.ref 10), some (.int x3), some (.int x4)]) (st' := [.int (σ 57 10), .int x4, .int x3, .ref 64]) (h' := hs σ) [(.aload_n 0, 1, 0, 0, 0, 0, 0, 0), (.getfield 30, 3, 3, 2, 16, 296, 0, 0), (.iload_n 3, 1, 3, 0, 0, 0, 0, 0), (.iload 4, 2, 4, 0, 0, 0, 0, 0), (.aload_n 0, 1, 0, 0, 0, 0, 0, 0), (.getfield 23, 3, 3, 1, 9, 295, 0, 0), (.getfield 70, 3, 5, 10, 0, 228, 0, 0)] (by decide +kernel) rfl rfl ?_
  refine XA.callV (as := [.int x3, .int x4, .int (σ 57 10)]) (rest := []) (mc' := 0) (ms' := 0) (idx := 73) (t := 677) cv_X0_offer (by decide +kernel) rfl rfl rfl (Nat.le_of_ble_eq_true rfl) (Nat.le_of_ble_eq_true rfl) (Nat.le_of_ble_eq_true rfl) (Nat.le_of_ble_eq_true rfl) (H) (fun rv h' hp => ?_)
  obtain ⟨s9, rfl, rfl, hK⟩ := hp
  exact ⟨rfl, rfl, hK⟩
set_option maxRecDepth 20000 in
theorem W_X3_bestSwap_98 {scr : ScA}   {x3 : Int32} {x4 : Int32}  {σ : Nat → Nat → Int32} {P : Nat → (Nat → Nat → Int32) → Prop} (H : CvA scr 2 mX8_exchange [.ref 50, .int x3, .int x4] σ (fun σ' => K_X3_bestSwap_108 scr x3 x4 σ' P)) : K_X3_bestSwap_98 scr x3 x4 σ P := by
  show XA scr 4 mX3_bestSwap 172 4705 98 [some (.ref 49), some (.ref 3), some (.ref 10), some (.int x3), some (.int x4)] [] (hs σ) (pR P)
  refine XA.blk (e9 := 105) (ok := true) (ls' := [some (.ref 49), some (.ref 3), some (.ref 10), some (.int x3), some (.int x4)]) (st' := [.int x4, .int x3, .ref 50]) (h' := hs σ) [(.aload_n 0, 1, 0, 0, 0, 0, 0, 0), (.getfield 12, 3, 3, 0, 2, 294, 0, 0), (.iload_n 3, 1, 3, 0, 0, 0, 0, 0), (.iload 4, 2, 4, 0, 0, 0, 0, 0)] (by decide +kernel) rfl rfl ?_
  refine XA.callV (as := [.int x3, .int x4]) (rest := []) (mc' := 0) (ms' := 0) (idx := 56) (t := 670) cv_X8_exchange (by decide +kernel) rfl rfl rfl (Nat.le_of_ble_eq_true rfl) (Nat.le_of_ble_eq_true rfl) (Nat.le_of_ble_eq_true rfl) (Nat.le_of_ble_eq_true rfl) (H) (fun rv h' hp => ?_)
  obtain ⟨s9, rfl, rfl, hK⟩ := hp
  exact ⟨rfl, rfl, hK⟩
set_option maxRecDepth 20000 in
theorem W_X3_bestSwap_108 {scr : ScA}   {x3 : Int32} {x4 : Int32}  {σ : Nat → Nat → Int32} {P : Nat → (Nat → Nat → Int32) → Prop} (H : K_X3_bestSwap_45 scr x3 (x4 + 1) σ P) : K_X3_bestSwap_108 scr x3 x4 σ P := by
  show XA scr 4 mX3_bestSwap 172 4705 108 [some (.ref 49), some (.ref 3), some (.ref 10), some (.int x3), some (.int x4)] [] (hs σ) (pR P)
  refine XA.blk (e9 := 45) (ok := true) (ls' := [some (.ref 49), some (.ref 3), some (.ref 10), some (.int x3), some (.int (x4 + 1))]) (st' := []) (h' := hs σ) [(.iinc 4 1, 3, 4, 0, 0, 0, 1, 0), (.goto (-66), 3, 45, 0, 0, 0, 0, 0)] (by decide +kernel) rfl rfl ?_
  exact H
theorem E_X3_bestSwap {scr : ScA}   {σ : Nat → Nat → Int32} {P : Nat → (Nat → Nat → Int32) → Prop} (h : K_X3_bestSwap_0 scr σ P) : CrA scr 4 mX3_bestSwap [.ref 49, .ref 3, .ref 10] σ P := CtA.of (by decide) (Nat.le_of_ble_eq_true rfl) (XA.drop (by simp [leL, enL]) h)
def K_X3_bestMoment_0 (scr : ScA)  (x3 : Int32) (σ : Nat → Nat → Int32) (P : Nat → (Nat → Nat → Int32) → Prop) : Prop := XA scr 4 mX3_bestMoment 172 4705 0 [some (.ref 49), some (.ref 3), some (.ref 10), some (.int x3), none, none] [] (hs σ) (pR P)
def K_X3_bestMoment_24 (scr : ScA)  (x3 : Int32) (u4 : Nat) (σ : Nat → Nat → Int32) (P : Nat → (Nat → Nat → Int32) → Prop) : Prop := XA scr 4 mX3_bestMoment 172 4705 24 [some (.ref 49), some (.ref 3), some (.ref 10), some (.int x3), some (.ref u4), none] [] (hs σ) (pR P)
def K_X3_bestMoment_32 (scr : ScA)  (x3 : Int32) (u4 : Nat) (σ : Nat → Nat → Int32) (P : Nat → (Nat → Nat → Int32) → Prop) : Prop := XA scr 4 mX3_bestMoment 172 4705 32 [some (.ref 49), none, some (.ref 10), some (.int x3), some (.ref u4), none] [] (hs σ) (pR P)
def K_X3_bestMoment_35 (scr : ScA)  (x3 : Int32) (u4 : Nat) (x5 : Int32) (σ : Nat → Nat → Int32) (P : Nat → (Nat → Nat → Int32) → Prop) : Prop := XA scr 4 mX3_bestMoment 172 4705 35 [some (.ref 49), none, some (.ref 10), some (.int x3), some (.ref u4), some (.int x5)] [] (hs σ) (pR P)
def K_X3_bestMoment_70 (scr : ScA)  (x3 : Int32) (u4 : Nat) (x5 : Int32) (σ : Nat → Nat → Int32) (P : Nat → (Nat → Nat → Int32) → Prop) : Prop := XA scr 4 mX3_bestMoment 172 4705 70 [some (.ref 49), none, some (.ref 10), some (.int x3), some (.ref u4), some (.int x5)] [] (hs σ) (pR P)
def K_X3_bestMoment_85 (scr : ScA)  (x3 : Int32) (u4 : Nat) (x5 : Int32) (σ : Nat → Nat → Int32) (P : Nat → (Nat → Nat → Int32) → Prop) : Prop := XA scr 4 mX3_bestMoment 172 4705 85 [some (.ref 49), none, some (.ref 10), some (.int x3), some (.ref u4), some (.int x5)] [] (hs σ) (pR P)
set_option maxRecDepth 20000 in
theorem W_X3_bestMoment_0 {scr : ScA}   {x3 : Int32}  {σ : Nat → Nat → Int32} {P : Nat → (Nat → Nat → Int32) → Prop} (H : (inB x3 10 = true) ∧ (((σ (66 + 1 + 1 * Int32.toNatClampNeg x3) 3) = 0 → CvA scr 0 mX0_begin [.ref (66 + 1 + 1 * Int32.toNatClampNeg x3)] σ (fun σ' => K_X3_bestMoment_24 scr x3 (66 + 1 + 1 * Int32.toNatClampNeg x3) σ' P)) ∧ (¬ (σ (66 + 1 + 1 * Int32.toNatClampNeg x3) 3) = 0 → P (66 + 1 + 1 * Int32.toNatClampNeg x3) σ))) : K_X3_bestMoment_0 scr x3 σ P := by
  show XA scr 4 mX3_bestMoment 172 4705 0 [some (.ref 49), some (.ref 3), some (.ref 10), some (.int x3), none, none] [] (hs σ) (pR P)
  obtain ⟨o1, H⟩ := H
  refine XA.blk (e9 := 13) (ok := (inB x3 10 && (true && kR R0 66 (Int32.toNatClampNeg x3) (66 + 1 + 1 * Int32.toNatClampNeg x3))) && (kO 172 S0 (66 + 1 + 1 * Int32.toNatClampNeg x3) 0 && (true))) (ls' := [some (.ref 49), some (.ref 3), some (.ref 10), some (.int x3), some (.ref (66 + 1 + 1 * Int32.toNatClampNeg x3)), none]) (st' := [.int (σ (66 + 1 + 1 * Int32.toNatClampNeg x3) 3)]) (h' := hs σ) [(.aload_n 0, 1, 0, 0, 0, 0, 0, 0), (.getfield 37, 3, 3, 4, 18, 298, 0, 0), (.iload_n 3, 1, 3, 0, 0, 0, 0, 0), (.aaload, 1, 1, 1, 0, 0, 0, 0), (.astore 4, 2, 4, 0, 0, 0, 0, 0), (.aload 4, 2, 4, 0, 0, 0, 0, 0), (.getfield 41, 3, 0, 3, 0, 282, 0, 0)] (by decide +kernel) rfl (by simp only [beK o1, beO (beH o1), o1, Bool.and_true, Bool.true_and]) ?_
  refine XA.if_eq (6) 19 (by decide +kernel) (fun c1 => ?_) (fun c1 => ?_)
  · have H := H.1 c1
    refine XA.blk (e9 := 21) (ok := true) (ls' := [some (.ref 49), some (.ref 3), some (.ref 10), some (.int x3), some (.ref (66 + 1 + 1 * Int32.toNatClampNeg x3)), none]) (st' := [.ref (66 + 1 + 1 * Int32.toNatClampNeg x3)]) (h' := hs σ) [(.aload 4, 2, 4, 0, 0, 0, 0, 0)] (by decide +kernel) rfl rfl ?_
    refine XA.callV (as := []) (rest := []) (mc' := 0) (ms' := 0) (idx := 45) (t := 659) cv_X0_begin (by decide +kernel) (beO (beH o1)) rfl rfl (Nat.le_of_ble_eq_true rfl) (Nat.le_of_ble_eq_true rfl) (Nat.le_of_ble_eq_true rfl) (Nat.le_of_ble_eq_true rfl) (H) (fun rv h' hp => ?_)
    obtain ⟨s9, rfl, rfl, hK⟩ := hp
    exact ⟨rfl, rfl, hK⟩
  · have H := H.2 c1
    refine XA.blk (e9 := 18) (ok := true) (ls' := [some (.ref 49), some (.ref 3), some (.ref 10), some (.int x3), some (.ref (66 + 1 + 1 * Int32.toNatClampNeg x3)), none]) (st' := [.ref (66 + 1 + 1 * Int32.toNatClampNeg x3)]) (h' := hs σ) [(.aload 4, 2, 4, 0, 0, 0, 0, 0)] (by decide +kernel) rfl rfl ?_
    exact XA.ret (some (.ref (66 + 1 + 1 * Int32.toNatClampNeg x3))) rfl (show ckRt mX3_bestMoment 18 .areturn = true by decide +kernel) trivial (Nat.le_of_ble_eq_true rfl) (Nat.le_of_ble_eq_true rfl) ⟨_, _, rfl, rfl, H⟩
set_option maxRecDepth 20000 in
theorem W_X3_bestMoment_24 {scr : ScA}   {x3 : Int32} {u4 : Nat} (hu4 : isBe u4) {σ : Nat → Nat → Int32} {P : Nat → (Nat → Nat → Int32) → Prop} (H : CvA scr 1 mX8_become [.ref 50, .ref 3] σ (fun σ' => K_X3_bestMoment_32 scr x3 u4 σ' P)) : K_X3_bestMoment_24 scr x3 u4 σ P := by
  show XA scr 4 mX3_bestMoment 172 4705 24 [some (.ref 49), some (.ref 3), some (.ref 10), some (.int x3), some (.ref u4), none] [] (hs σ) (pR P)
  refine XA.blk (e9 := 29) (ok := true) (ls' := [some (.ref 49), some (.ref 3), some (.ref 10), some (.int x3), some (.ref u4), none]) (st' := [.ref 3, .ref 50]) (h' := hs σ) [(.aload_n 0, 1, 0, 0, 0, 0, 0, 0), (.getfield 12, 3, 3, 0, 2, 294, 0, 0), (.aload_n 1, 1, 1, 0, 0, 0, 0, 0)] (by decide +kernel) rfl rfl ?_
  refine XA.callV (as := [.ref 3]) (rest := []) (mc' := 0) (ms' := 0) (idx := 48) (t := 663) cv_X8_become (by decide +kernel) rfl rfl rfl (Nat.le_of_ble_eq_true rfl) (Nat.le_of_ble_eq_true rfl) (Nat.le_of_ble_eq_true rfl) (Nat.le_of_ble_eq_true rfl) (H) (fun rv h' hp => ?_)
  obtain ⟨s9, rfl, rfl, hK⟩ := hp
  exact ⟨rfl, rfl, XA.drop (by simp [leL]) hK⟩
set_option maxRecDepth 20000 in
theorem W_X3_bestMoment_32 {scr : ScA}   {x3 : Int32} {u4 : Nat} (hu4 : isBe u4) {σ : Nat → Nat → Int32} {P : Nat → (Nat → Nat → Int32) → Prop} (H : K_X3_bestMoment_35 scr x3 u4 0 σ P) : K_X3_bestMoment_32 scr x3 u4 σ P := by
  show XA scr 4 mX3_bestMoment 172 4705 32 [some (.ref 49), none, some (.ref 10), some (.int x3), some (.ref u4), none] [] (hs σ) (pR P)
  refine XA.blk (e9 := 35) (ok := true) (ls' := [some (.ref 49), none, some (.ref 10), some (.int x3), some (.ref u4), some (.int 0)]) (st' := []) (h' := hs σ) [(.iconst 0, 1, 0, 0, 0, 0, 0, 0), (.istore 5, 2, 5, 0, 0, 0, 0, 0)] (by decide +kernel) rfl rfl ?_
  exact H
set_option maxRecDepth 20000 in
theorem W_X3_bestMoment_35 {scr : ScA}   {x3 : Int32} {u4 : Nat} {x5 : Int32} (hu4 : isBe u4) {σ : Nat → Nat → Int32} {P : Nat → (Nat → Nat → Int32) → Prop} (H : (24 ≤ x5 → P u4 σ) ∧ (¬ 24 ≤ x5 → (inB x3 10 = true) ∧ (∀ σ1, σ1 = (su σ 54 (Int32.toNatClampNeg x3) x5) → CvA scr 3 mX5_play [.ref 57, .ref 50, .ref 10, .int (((1 : Int32) <<< ((σ1 10 3) &&& 31)) - 1), .int 0] σ1 (fun σ' => K_X3_bestMoment_70 scr x3 u4 x5 σ' P)))) : K_X3_bestMoment_35 scr x3 u4 x5 σ P := by
  show XA scr 4 mX3_bestMoment 172 4705 35 [some (.ref 49), none, some (.ref 10), some (.int x3), some (.ref u4), some (.int x5)] [] (hs σ) (pR P)
  refine XA.blk (e9 := 39) (ok := true) (ls' := [some (.ref 49), none, some (.ref 10), some (.int x3), some (.ref u4), some (.int x5)]) (st' := [.int 24, .int x5]) (h' := hs σ) [(.iload 5, 2, 5, 0, 0, 0, 0, 0), (.bipush 24, 2, 0, 0, 0, 0, 24, 0)] (by decide +kernel) rfl rfl ?_
  refine XA.icmp_ge (52) 91 (by decide +kernel) (fun c1 => ?_) (fun c1 => ?_)
  · have H := H.1 c1
    refine XA.blk (e9 := 93) (ok := true) (ls' := [some (.ref 49), none, some (.ref 10), some (.int x3), some (.ref u4), some (.int x5)]) (st' := [.ref u4]) (h' := hs σ) [(.aload 4, 2, 4, 0, 0, 0, 0, 0)] (by decide +kernel) rfl rfl ?_
    exact XA.ret (some (.ref u4)) rfl (show ckRt mX3_bestMoment 93 .areturn = true by decide +kernel) trivial (Nat.le_of_ble_eq_true rfl) (Nat.le_of_ble_eq_true rfl) ⟨_, _, rfl, rfl, H⟩
  · have H := H.2 c1
    obtain ⟨o1, H⟩ := H
    refine XA.blk (e9 := 53) (ok := inB x3 10 && (true)) (ls' := [some (.ref 49), none, some (.ref 10), some (.int x3), some (.ref u4), some (.int x5)]) (st' := []) (h' := hs (su σ 54 (Int32.toNatClampNeg x3) x5)) [(.aload_n 0, 1, 0, 0, 0, 0, 0, 0), (.getfield 12, 3, 3, 0, 2, 294, 0, 0), (.getfield 77, 3, 8, 3, 5, 129, 0, 0), (.iload_n 3, 1, 3, 0, 0, 0, 0, 0), (.iload 5, 2, 5, 0, 0, 0, 0, 0), (.iastore, 1, 0, 0, 0, 0, 0, 0)] (by decide +kernel) rfl (by simp only [o1, Bool.and_true, Bool.true_and]) ?_
    obtain ⟨σ1, hσ1⟩ : ∃ s9, s9 = (su σ 54 (Int32.toNatClampNeg x3) x5) := ⟨_, rfl⟩
    rw [← hσ1]
    have H := H σ1 hσ1
    refine XA.blk (e9 := 63) (ok := true) (ls' := [some (.ref 49), none, some (.ref 10), some (.int x3), some (.ref u4), some (.int x5)]) (st' := [.ref 10, .ref 10, .ref 50, .ref 57]) (h' := hs σ1) [(.aload_n 0, 1, 0, 0, 0, 0, 0, 0), (.getfield 23, 3, 3, 1, 9, 295, 0, 0), (.aload_n 0, 1, 0, 0, 0, 0, 0, 0), (.getfield 12, 3, 3, 0, 2, 294, 0, 0), (.aload_n 2, 1, 2, 0, 0, 0, 0, 0), (.aload_n 2, 1, 2, 0, 0, 0, 0, 0)] (by decide +kernel) rfl rfl ?_
    refine XA.callV (as := []) (rest := [.ref 10, .ref 50, .ref 57]) (mc' := 0) (ms' := 0) (idx := 60) (t := 675) cv_X1_allBits (by decide +kernel) rfl rfl rfl (Nat.le_of_ble_eq_true rfl) (Nat.le_of_ble_eq_true rfl) (Nat.le_of_ble_eq_true rfl) (Nat.le_of_ble_eq_true rfl) (pu_X1_allBits scr σ1 (by unfold isEv; omega) ) (fun rv h' hp => ?_)
    obtain ⟨rfl, rfl⟩ := hp
    refine ⟨rfl, rfl, ?_⟩
    show XA scr 4 mX3_bestMoment 172 4705 66 [some (.ref 49), none, some (.ref 10), some (.int x3), some (.ref u4), some (.int x5)] [.int (((1 : Int32) <<< ((σ1 10 3) &&& 31)) - 1), .ref 10, .ref 50, .ref 57] (hs σ1) (pR P)
    refine XA.blk (e9 := 67) (ok := true) (ls' := [some (.ref 49), none, some (.ref 10), some (.int x3), some (.ref u4), some (.int x5)]) (st' := [.int 0, .int (((1 : Int32) <<< ((σ1 10 3) &&& 31)) - 1), .ref 10, .ref 50, .ref 57]) (h' := hs σ1) [(.iconst 0, 1, 0, 0, 0, 0, 0, 0)] (by decide +kernel) rfl rfl ?_
    refine XA.callV (as := [.ref 50, .ref 10, .int (((1 : Int32) <<< ((σ1 10 3) &&& 31)) - 1), .int 0]) (rest := []) (mc' := 0) (ms' := 0) (idx := 66) (t := 676) cv_X5_play (by decide +kernel) rfl rfl rfl (Nat.le_of_ble_eq_true rfl) (Nat.le_of_ble_eq_true rfl) (Nat.le_of_ble_eq_true rfl) (Nat.le_of_ble_eq_true rfl) (H) (fun rv h' hp => ?_)
    obtain ⟨s9, rfl, rfl, hK⟩ := hp
    exact ⟨rfl, rfl, hK⟩
set_option maxRecDepth 20000 in
theorem W_X3_bestMoment_70 {scr : ScA}   {x3 : Int32} {u4 : Nat} {x5 : Int32} (hu4 : isBe u4) {σ : Nat → Nat → Int32} {P : Nat → (Nat → Nat → Int32) → Prop} (H : CvA scr 0 mX0_offer [.ref u4, .int x5, .int (-1), .int (σ 57 10)] σ (fun σ' => K_X3_bestMoment_85 scr x3 u4 x5 σ' P)) : K_X3_bestMoment_70 scr x3 u4 x5 σ P := by
  show XA scr 4 mX3_bestMoment 172 4705 70 [some (.ref 49), none, some (.ref 10), some (.int x3), some (.ref u4), some (.int x5)] [] (hs σ) (pR P)
  refine XA.blk (e9 := 82) (ok := true) (ls' := [some (.ref 49), none, some (.ref 10), some (.int x3), some (.ref u4), some (.int x5)]) (st' := [.int (σ 57 10), .int (-1), .int x5, .ref u4]) (h' := hs σ) [(.aload 4, 2, 4, 0, 0, 0, 0, 0), (.iload 5, 2, 5, 0, 0, 0, 0, 0), (.iconst (-1), 1, 0, 0, 0, 0, (-1), 0), (.aload_n 0, 1, 0, 0, 0, 0, 0, 0), (.getfield 23, 3, 3, 1, 9, 295, 0, 0), (.getfield 70, 3, 5, 10, 0, 228, 0, 0)] (by decide +kernel) rfl rfl ?_
  refine XA.callV (as := [.int x5, .int (-1), .int (σ 57 10)]) (rest := []) (mc' := 0) (ms' := 0) (idx := 73) (t := 677) cv_X0_offer (by decide +kernel) (beO hu4) rfl rfl (Nat.le_of_ble_eq_true rfl) (Nat.le_of_ble_eq_true rfl) (Nat.le_of_ble_eq_true rfl) (Nat.le_of_ble_eq_true rfl) (H) (fun rv h' hp => ?_)
  obtain ⟨s9, rfl, rfl, hK⟩ := hp
  exact ⟨rfl, rfl, hK⟩
set_option maxRecDepth 20000 in
theorem W_X3_bestMoment_85 {scr : ScA}   {x3 : Int32} {u4 : Nat} {x5 : Int32} (hu4 : isBe u4) {σ : Nat → Nat → Int32} {P : Nat → (Nat → Nat → Int32) → Prop} (H : K_X3_bestMoment_35 scr x3 u4 (x5 + 1) σ P) : K_X3_bestMoment_85 scr x3 u4 x5 σ P := by
  show XA scr 4 mX3_bestMoment 172 4705 85 [some (.ref 49), none, some (.ref 10), some (.int x3), some (.ref u4), some (.int x5)] [] (hs σ) (pR P)
  refine XA.blk (e9 := 35) (ok := true) (ls' := [some (.ref 49), none, some (.ref 10), some (.int x3), some (.ref u4), some (.int (x5 + 1))]) (st' := []) (h' := hs σ) [(.iinc 5 1, 3, 5, 0, 0, 0, 1, 0), (.goto (-53), 3, 35, 0, 0, 0, 0, 0)] (by decide +kernel) rfl rfl ?_
  exact H
theorem E_X3_bestMoment {scr : ScA}  {x3 : Int32} {σ : Nat → Nat → Int32} {P : Nat → (Nat → Nat → Int32) → Prop} (h : K_X3_bestMoment_0 scr x3 σ P) : CrA scr 4 mX3_bestMoment [.ref 49, .ref 3, .ref 10, .int x3] σ P := CtA.of (by decide) (Nat.le_of_ble_eq_true rfl) (XA.drop (by simp [leL, enL]) h)
def K_X3_bestTraining_0 (scr : ScA)   (σ : Nat → Nat → Int32) (P : Nat → (Nat → Nat → Int32) → Prop) : Prop := XA scr 4 mX3_bestTraining 172 4705 0 [some (.ref 49), some (.ref 3), some (.ref 10), none] [] (hs σ) (pR P)
def K_X3_bestTraining_22 (scr : ScA)   (σ : Nat → Nat → Int32) (P : Nat → (Nat → Nat → Int32) → Prop) : Prop := XA scr 4 mX3_bestTraining 172 4705 22 [some (.ref 49), some (.ref 3), some (.ref 10), none] [] (hs σ) (pR P)
def K_X3_bestTraining_30 (scr : ScA)   (σ : Nat → Nat → Int32) (P : Nat → (Nat → Nat → Int32) → Prop) : Prop := XA scr 4 mX3_bestTraining 172 4705 30 [some (.ref 49), some (.ref 3), some (.ref 10), none] [] (hs σ) (pR P)
def K_X3_bestTraining_32 (scr : ScA)  (x3 : Int32) (σ : Nat → Nat → Int32) (P : Nat → (Nat → Nat → Int32) → Prop) : Prop := XA scr 4 mX3_bestTraining 172 4705 32 [some (.ref 49), some (.ref 3), some (.ref 10), some (.int x3)] [] (hs σ) (pR P)
def K_X3_bestTraining_79 (scr : ScA)  (x3 : Int32) (σ : Nat → Nat → Int32) (P : Nat → (Nat → Nat → Int32) → Prop) : Prop := XA scr 4 mX3_bestTraining 172 4705 79 [some (.ref 49), some (.ref 3), some (.ref 10), some (.int x3)] [] (hs σ) (pR P)
def K_X3_bestTraining_95 (scr : ScA)  (x3 : Int32) (σ : Nat → Nat → Int32) (P : Nat → (Nat → Nat → Int32) → Prop) : Prop := XA scr 4 mX3_bestTraining 172 4705 95 [some (.ref 49), some (.ref 3), some (.ref 10), some (.int x3)] [] (hs σ) (pR P)
set_option maxRecDepth 20000 in
theorem W_X3_bestTraining_0 {scr : ScA}     {σ : Nat → Nat → Int32} {P : Nat → (Nat → Nat → Int32) → Prop} (H : ((σ 65 3) = 0 → CvA scr 0 mX0_begin [.ref 65] σ (fun σ' => K_X3_bestTraining_22 scr σ' P)) ∧ (¬ (σ 65 3) = 0 → P 65 σ)) : K_X3_bestTraining_0 scr σ P := by
  show XA scr 4 mX3_bestTraining 172 4705 0 [some (.ref 49), some (.ref 3), some (.ref 10), none] [] (hs σ) (pR P)
  refine XA.blk (e9 := 7) (ok := true) (ls' := [some (.ref 49), some (.ref 3), some (.ref 10), none]) (st' := [.int (σ 65 3)]) (h' := hs σ) [(.aload_n 0, 1, 0, 0, 0, 0, 0, 0), (.getfield 34, 3, 3, 3, 17, 297, 0, 0), (.getfield 41, 3, 0, 3, 0, 282, 0, 0)] (by decide +kernel) rfl rfl ?_
  refine XA.if_eq (8) 15 (by decide +kernel) (fun c1 => ?_) (fun c1 => ?_)
  · have H := H.1 c1
    refine XA.blk (e9 := 19) (ok := true) (ls' := [some (.ref 49), some (.ref 3), some (.ref 10), none]) (st' := [.ref 65]) (h' := hs σ) [(.aload_n 0, 1, 0, 0, 0, 0, 0, 0), (.getfield 34, 3, 3, 3, 17, 297, 0, 0)] (by decide +kernel) rfl rfl ?_
    refine XA.callV (as := []) (rest := []) (mc' := 0) (ms' := 0) (idx := 45) (t := 659) cv_X0_begin (by decide +kernel) rfl rfl rfl (Nat.le_of_ble_eq_true rfl) (Nat.le_of_ble_eq_true rfl) (Nat.le_of_ble_eq_true rfl) (Nat.le_of_ble_eq_true rfl) (H) (fun rv h' hp => ?_)
    obtain ⟨s9, rfl, rfl, hK⟩ := hp
    exact ⟨rfl, rfl, hK⟩
  · have H := H.2 c1
    refine XA.blk (e9 := 14) (ok := true) (ls' := [some (.ref 49), some (.ref 3), some (.ref 10), none]) (st' := [.ref 65]) (h' := hs σ) [(.aload_n 0, 1, 0, 0, 0, 0, 0, 0), (.getfield 34, 3, 3, 3, 17, 297, 0, 0)] (by decide +kernel) rfl rfl ?_
    exact XA.ret (some (.ref 65)) rfl (show ckRt mX3_bestTraining 14 .areturn = true by decide +kernel) trivial (Nat.le_of_ble_eq_true rfl) (Nat.le_of_ble_eq_true rfl) ⟨_, _, rfl, rfl, H⟩
set_option maxRecDepth 20000 in
theorem W_X3_bestTraining_22 {scr : ScA}     {σ : Nat → Nat → Int32} {P : Nat → (Nat → Nat → Int32) → Prop} (H : CvA scr 1 mX8_become [.ref 50, .ref 3] σ (fun σ' => K_X3_bestTraining_30 scr σ' P)) : K_X3_bestTraining_22 scr σ P := by
  show XA scr 4 mX3_bestTraining 172 4705 22 [some (.ref 49), some (.ref 3), some (.ref 10), none] [] (hs σ) (pR P)
  refine XA.blk (e9 := 27) (ok := true) (ls' := [some (.ref 49), some (.ref 3), some (.ref 10), none]) (st' := [.ref 3, .ref 50]) (h' := hs σ) [(.aload_n 0, 1, 0, 0, 0, 0, 0, 0), (.getfield 12, 3, 3, 0, 2, 294, 0, 0), (.aload_n 1, 1, 1, 0, 0, 0, 0, 0)] (by decide +kernel) rfl rfl ?_
  refine XA.callV (as := [.ref 3]) (rest := []) (mc' := 0) (ms' := 0) (idx := 48) (t := 663) cv_X8_become (by decide +kernel) rfl rfl rfl (Nat.le_of_ble_eq_true rfl) (Nat.le_of_ble_eq_true rfl) (Nat.le_of_ble_eq_true rfl) (Nat.le_of_ble_eq_true rfl) (H) (fun rv h' hp => ?_)
  obtain ⟨s9, rfl, rfl, hK⟩ := hp
  exact ⟨rfl, rfl, hK⟩
set_option maxRecDepth 20000 in
theorem W_X3_bestTraining_30 {scr : ScA}     {σ : Nat → Nat → Int32} {P : Nat → (Nat → Nat → Int32) → Prop} (H : K_X3_bestTraining_32 scr 0 σ P) : K_X3_bestTraining_30 scr σ P := by
  show XA scr 4 mX3_bestTraining 172 4705 30 [some (.ref 49), some (.ref 3), some (.ref 10), none] [] (hs σ) (pR P)
  refine XA.blk (e9 := 32) (ok := true) (ls' := [some (.ref 49), some (.ref 3), some (.ref 10), some (.int 0)]) (st' := []) (h' := hs σ) [(.iconst 0, 1, 0, 0, 0, 0, 0, 0), (.istore_n 3, 1, 3, 0, 0, 0, 0, 0)] (by decide +kernel) rfl rfl ?_
  exact H
set_option maxRecDepth 20000 in
theorem W_X3_bestTraining_32 {scr : ScA}   {x3 : Int32}  {σ : Nat → Nat → Int32} {P : Nat → (Nat → Nat → Int32) → Prop} (H : ((σ 3 6) ≤ x3 → P 65 σ) ∧ (¬ (σ 3 6) ≤ x3 → (inB x3 10 = true) ∧ (∀ σ1, σ1 = (su σ 53 (Int32.toNatClampNeg x3) (if (σ 6 (Int32.toNatClampNeg x3)) + 1 < 9 then (σ 6 (Int32.toNatClampNeg x3)) + 1 else 9 : Int32)) → CvA scr 3 mX5_play [.ref 57, .ref 50, .ref 10, .int (((1 : Int32) <<< ((σ1 10 3) &&& 31)) - 1), .int 0] σ1 (fun σ' => K_X3_bestTraining_79 scr x3 σ' P)))) : K_X3_bestTraining_32 scr x3 σ P := by
  show XA scr 4 mX3_bestTraining 172 4705 32 [some (.ref 49), some (.ref 3), some (.ref 10), some (.int x3)] [] (hs σ) (pR P)
  refine XA.blk (e9 := 37) (ok := true) (ls' := [some (.ref 49), some (.ref 3), some (.ref 10), some (.int x3)]) (st' := [.int (σ 3 6), .int x3]) (h' := hs σ) [(.iload_n 3, 1, 3, 0, 0, 0, 0, 0), (.aload_n 1, 1, 1, 0, 0, 0, 0, 0), (.getfield 52, 3, 8, 6, 0, 140, 0, 0)] (by decide +kernel) rfl rfl ?_
  refine XA.icmp_ge (79) 116 (by decide +kernel) (fun c1 => ?_) (fun c1 => ?_)
  · have H := H.1 c1
    refine XA.blk (e9 := 120) (ok := true) (ls' := [some (.ref 49), some (.ref 3), some (.ref 10), some (.int x3)]) (st' := [.ref 65]) (h' := hs σ) [(.aload_n 0, 1, 0, 0, 0, 0, 0, 0), (.getfield 34, 3, 3, 3, 17, 297, 0, 0)] (by decide +kernel) rfl rfl ?_
    exact XA.ret (some (.ref 65)) rfl (show ckRt mX3_bestTraining 120 .areturn = true by decide +kernel) trivial (Nat.le_of_ble_eq_true rfl) (Nat.le_of_ble_eq_true rfl) ⟨_, _, rfl, rfl, H⟩
  · have H := H.2 c1
    obtain ⟨o1, H⟩ := H
    refine XA.blk (e9 := 62) (ok := inB x3 10 && (inB x3 10 && (true))) (ls' := [some (.ref 49), some (.ref 3), some (.ref 10), some (.int x3)]) (st' := []) (h' := hs (su σ 53 (Int32.toNatClampNeg x3) (if (σ 6 (Int32.toNatClampNeg x3)) + 1 < 9 then (σ 6 (Int32.toNatClampNeg x3)) + 1 else 9 : Int32))) [(.aload_n 0, 1, 0, 0, 0, 0, 0, 0), (.getfield 12, 3, 3, 0, 2, 294, 0, 0), (.getfield 81, 3, 8, 2, 4, 125, 0, 0), (.iload_n 3, 1, 3, 0, 0, 0, 0, 0), (.bipush 9, 2, 0, 0, 0, 0, 9, 0), (.aload_n 1, 1, 1, 0, 0, 0, 0, 0), (.getfield 81, 3, 8, 2, 4, 125, 0, 0), (.iload_n 3, 1, 3, 0, 0, 0, 0, 0), (.iaload, 1, 0, 0, 0, 0, 0, 0), (.iconst 1, 1, 0, 0, 0, 0, 1, 0), (.iadd, 1, 0, 0, 0, 0, 0, 0), (.invokestatic 84, 3, 1, 0, 0, 701, 0, 0), (.iastore, 1, 0, 0, 0, 0, 0, 0)] (by decide +kernel) rfl (by simp only [o1, Bool.and_true, Bool.true_and]) ?_
    obtain ⟨σ1, hσ1⟩ : ∃ s9, s9 = (su σ 53 (Int32.toNatClampNeg x3) (if (σ 6 (Int32.toNatClampNeg x3)) + 1 < 9 then (σ 6 (Int32.toNatClampNeg x3)) + 1 else 9 : Int32)) := ⟨_, rfl⟩
    rw [← hσ1]
    have H := H σ1 hσ1
    refine XA.blk (e9 := 72) (ok := true) (ls' := [some (.ref 49), some (.ref 3), some (.ref 10), some (.int x3)]) (st' := [.ref 10, .ref 10, .ref 50, .ref 57]) (h' := hs σ1) [(.aload_n 0, 1, 0, 0, 0, 0, 0, 0), (.getfield 23, 3, 3, 1, 9, 295, 0, 0), (.aload_n 0, 1, 0, 0, 0, 0, 0, 0), (.getfield 12, 3, 3, 0, 2, 294, 0, 0), (.aload_n 2, 1, 2, 0, 0, 0, 0, 0), (.aload_n 2, 1, 2, 0, 0, 0, 0, 0)] (by decide +kernel) rfl rfl ?_
    refine XA.callV (as := []) (rest := [.ref 10, .ref 50, .ref 57]) (mc' := 0) (ms' := 0) (idx := 60) (t := 675) cv_X1_allBits (by decide +kernel) rfl rfl rfl (Nat.le_of_ble_eq_true rfl) (Nat.le_of_ble_eq_true rfl) (Nat.le_of_ble_eq_true rfl) (Nat.le_of_ble_eq_true rfl) (pu_X1_allBits scr σ1 (by unfold isEv; omega) ) (fun rv h' hp => ?_)
    obtain ⟨rfl, rfl⟩ := hp
    refine ⟨rfl, rfl, ?_⟩
    show XA scr 4 mX3_bestTraining 172 4705 75 [some (.ref 49), some (.ref 3), some (.ref 10), some (.int x3)] [.int (((1 : Int32) <<< ((σ1 10 3) &&& 31)) - 1), .ref 10, .ref 50, .ref 57] (hs σ1) (pR P)
    refine XA.blk (e9 := 76) (ok := true) (ls' := [some (.ref 49), some (.ref 3), some (.ref 10), some (.int x3)]) (st' := [.int 0, .int (((1 : Int32) <<< ((σ1 10 3) &&& 31)) - 1), .ref 10, .ref 50, .ref 57]) (h' := hs σ1) [(.iconst 0, 1, 0, 0, 0, 0, 0, 0)] (by decide +kernel) rfl rfl ?_
    refine XA.callV (as := [.ref 50, .ref 10, .int (((1 : Int32) <<< ((σ1 10 3) &&& 31)) - 1), .int 0]) (rest := []) (mc' := 0) (ms' := 0) (idx := 66) (t := 676) cv_X5_play (by decide +kernel) rfl rfl rfl (Nat.le_of_ble_eq_true rfl) (Nat.le_of_ble_eq_true rfl) (Nat.le_of_ble_eq_true rfl) (Nat.le_of_ble_eq_true rfl) (H) (fun rv h' hp => ?_)
    obtain ⟨s9, rfl, rfl, hK⟩ := hp
    exact ⟨rfl, rfl, hK⟩
set_option maxRecDepth 20000 in
theorem W_X3_bestTraining_79 {scr : ScA}   {x3 : Int32}  {σ : Nat → Nat → Int32} {P : Nat → (Nat → Nat → Int32) → Prop} (H : CvA scr 0 mX0_offer [.ref 65, .int x3, .int (-1), .int (σ 57 10)] σ (fun σ' => K_X3_bestTraining_95 scr x3 σ' P)) : K_X3_bestTraining_79 scr x3 σ P := by
  show XA scr 4 mX3_bestTraining 172 4705 79 [some (.ref 49), some (.ref 3), some (.ref 10), some (.int x3)] [] (hs σ) (pR P)
  refine XA.blk (e9 := 92) (ok := true) (ls' := [some (.ref 49), some (.ref 3), some (.ref 10), some (.int x3)]) (st' := [.int (σ 57 10), .int (-1), .int x3, .ref 65]) (h' := hs σ) [(.aload_n 0, 1, 0, 0, 0, 0, 0, 0), (.getfield 34, 3, 3, 3, 17, 297, 0, 0), (.iload_n 3, 1, 3, 0, 0, 0, 0, 0), (.iconst (-1), 1, 0, 0, 0, 0, (-1), 0), (.aload_n 0, 1, 0, 0, 0, 0, 0, 0), (.getfield 23, 3, 3, 1, 9, 295, 0, 0), (.getfield 70, 3, 5, 10, 0, 228, 0, 0)] (by decide +kernel) rfl rfl ?_
  refine XA.callV (as := [.int x3, .int (-1), .int (σ 57 10)]) (rest := []) (mc' := 0) (ms' := 0) (idx := 73) (t := 677) cv_X0_offer (by decide +kernel) rfl rfl rfl (Nat.le_of_ble_eq_true rfl) (Nat.le_of_ble_eq_true rfl) (Nat.le_of_ble_eq_true rfl) (Nat.le_of_ble_eq_true rfl) (H) (fun rv h' hp => ?_)
  obtain ⟨s9, rfl, rfl, hK⟩ := hp
  exact ⟨rfl, rfl, hK⟩
set_option maxRecDepth 20000 in
theorem W_X3_bestTraining_95 {scr : ScA}   {x3 : Int32}  {σ : Nat → Nat → Int32} {P : Nat → (Nat → Nat → Int32) → Prop} (H : (inB x3 10 = true) ∧ (∀ σ1, σ1 = (su σ 53 (Int32.toNatClampNeg x3) (σ 6 (Int32.toNatClampNeg x3))) → K_X3_bestTraining_32 scr (x3 + 1) σ1 P)) : K_X3_bestTraining_95 scr x3 σ P := by
  show XA scr 4 mX3_bestTraining 172 4705 95 [some (.ref 49), some (.ref 3), some (.ref 10), some (.int x3)] [] (hs σ) (pR P)
  obtain ⟨o1, H⟩ := H
  refine XA.blk (e9 := 110) (ok := inB x3 10 && (inB x3 10 && (true))) (ls' := [some (.ref 49), some (.ref 3), some (.ref 10), some (.int x3)]) (st' := []) (h' := hs (su σ 53 (Int32.toNatClampNeg x3) (σ 6 (Int32.toNatClampNeg x3)))) [(.aload_n 0, 1, 0, 0, 0, 0, 0, 0), (.getfield 12, 3, 3, 0, 2, 294, 0, 0), (.getfield 81, 3, 8, 2, 4, 125, 0, 0), (.iload_n 3, 1, 3, 0, 0, 0, 0, 0), (.aload_n 1, 1, 1, 0, 0, 0, 0, 0), (.getfield 81, 3, 8, 2, 4, 125, 0, 0), (.iload_n 3, 1, 3, 0, 0, 0, 0, 0), (.iaload, 1, 0, 0, 0, 0, 0, 0), (.iastore, 1, 0, 0, 0, 0, 0, 0)] (by decide +kernel) rfl (by simp only [o1, Bool.and_true, Bool.true_and]) ?_
  obtain ⟨σ1, hσ1⟩ : ∃ s9, s9 = (su σ 53 (Int32.toNatClampNeg x3) (σ 6 (Int32.toNatClampNeg x3))) := ⟨_, rfl⟩
  rw [← hσ1]
  have H := H σ1 hσ1
  refine XA.blk (e9 := 32) (ok := true) (ls' := [some (.ref 49), some (.ref 3), some (.ref 10), some (.int (x3 + 1))]) (st' := []) (h' := hs σ1) [(.iinc 3 1, 3, 3, 0, 0, 0, 1, 0), (.goto (-81), 3, 32, 0, 0, 0, 0, 0)] (by decide +kernel) rfl rfl ?_
  exact H
theorem E_X3_bestTraining {scr : ScA}   {σ : Nat → Nat → Int32} {P : Nat → (Nat → Nat → Int32) → Prop} (h : K_X3_bestTraining_0 scr σ P) : CrA scr 4 mX3_bestTraining [.ref 49, .ref 3, .ref 10] σ P := CtA.of (by decide) (Nat.le_of_ble_eq_true rfl) (XA.drop (by simp [leL, enL]) h)
def K_X9_firstFall_0 (scr : ScA)  (x3 : Int32) (σ : Nat → Nat → Int32) (P : Int32 → (Nat → Nat → Int32) → Prop) : Prop := XA scr 4 mX9_firstFall 172 4705 0 [some (.ref 106), some (.ref 3), some (.ref 10), some (.int x3)] [] (hs σ) (pI P)
def K_X9_firstFall_15 (scr : ScA)  (x3 : Int32) (σ : Nat → Nat → Int32) (P : Int32 → (Nat → Nat → Int32) → Prop) : Prop := XA scr 4 mX9_firstFall 172 4705 15 [some (.ref 106), some (.ref 3), some (.ref 10), some (.int x3)] [] (hs σ) (pI P)
def K_X9_firstFall_54 (scr : ScA)  (x3 : Int32) (σ : Nat → Nat → Int32) (P : Int32 → (Nat → Nat → Int32) → Prop) : Prop := XA scr 4 mX9_firstFall 172 4705 54 [some (.ref 106), none, none, some (.int x3)] [] (hs σ) (pI P)
set_option maxRecDepth 20000 in
theorem W_X9_firstFall_0 {scr : ScA}   {x3 : Int32}  {σ : Nat → Nat → Int32} {P : Int32 → (Nat → Nat → Int32) → Prop} (H : (¬ (σ 106 3) = 0 → (¬ (isW x3 256) = 0 → (inB x3 256 = true) ∧ ((¬ (σ 114 (Int32.toNatClampNeg x3)) = (-1) → P (σ 114 (Int32.toNatClampNeg x3)) σ) ∧ ((σ 114 (Int32.toNatClampNeg x3)) = (-1) → CvA scr 3 mX5_play [.ref 107, .ref 3, .ref 10, .int x3, .int 1] σ (fun σ' => K_X9_firstFall_54 scr x3 σ' P)))) ∧ ((isW x3 256) = 0 → P 24 σ)) ∧ ((σ 106 3) = 0 → CvA scr 0 mJ7_fill_53178 [.ref 114, .int (-1)] σ (fun σ' => K_X9_firstFall_15 scr x3 σ' P))) : K_X9_firstFall_0 scr x3 σ P := by
  show XA scr 4 mX9_firstFall 172 4705 0 [some (.ref 106), some (.ref 3), some (.ref 10), some (.int x3)] [] (hs σ) (pI P)
  refine XA.blk (e9 := 4) (ok := true) (ls' := [some (.ref 106), some (.ref 3), some (.ref 10), some (.int x3)]) (st' := [.int (σ 106 3)]) (h' := hs σ) [(.aload_n 0, 1, 0, 0, 0, 0, 0, 0), (.getfield 31, 3, 9, 3, 0, 364, 0, 0)] (by decide +kernel) rfl rfl ?_
  refine XA.if_ne (16) 20 (by decide +kernel) (fun c1 => ?_) (fun c1 => ?_)
  · have H := H.1 c1
    refine XA.blk (e9 := 24) (ok := true) (ls' := [some (.ref 106), some (.ref 3), some (.ref 10), some (.int x3)]) (st' := [.int 256, .int x3]) (h' := hs σ) [(.iload_n 3, 1, 3, 0, 0, 0, 0, 0), (.sipush 256, 3, 0, 0, 0, 0, 256, 0)] (by decide +kernel) rfl rfl ?_
    refine XA.callS (as := [.int x3, .int 256]) (rest := []) (mc' := 0) (ms' := 0) (idx := 41) (t := 717) cs_X10_isWithin (by decide +kernel) rfl rfl (Nat.le_of_ble_eq_true rfl) (Nat.le_of_ble_eq_true rfl) (Nat.le_of_ble_eq_true rfl) (Nat.le_of_ble_eq_true rfl) (pu_X10_isWithin scr σ x3 256) (fun rv h' hp => ?_)
    obtain ⟨rfl, rfl⟩ := hp
    refine ⟨rfl, rfl, ?_⟩
    show XA scr 4 mX9_firstFall 172 4705 27 [some (.ref 106), some (.ref 3), some (.ref 10), some (.int x3)] [.int (isW x3 256)] (hs σ) (pI P)
    refine XA.if_ne (6) 33 (by decide +kernel) (fun c2 => ?_) (fun c2 => ?_)
    · have H := H.1 c2
      obtain ⟨o1, H⟩ := H
      refine XA.blk (e9 := 40) (ok := inB x3 256 && (true)) (ls' := [some (.ref 106), some (.ref 3), some (.ref 10), some (.int x3)]) (st' := [.int (-1), .int (σ 114 (Int32.toNatClampNeg x3))]) (h' := hs σ) [(.aload_n 0, 1, 0, 0, 0, 0, 0, 0), (.getfield 20, 3, 9, 1, 9, 362, 0, 0), (.iload_n 3, 1, 3, 0, 0, 0, 0, 0), (.iaload, 1, 0, 0, 0, 0, 0, 0), (.iconst (-1), 1, 0, 0, 0, 0, (-1), 0)] (by decide +kernel) rfl (by simp only [o1, Bool.and_true, Bool.true_and]) ?_
      refine XA.icmp_ne (27) 67 (by decide +kernel) (fun c3 => ?_) (fun c3 => ?_)
      · have H := H.1 c3
        refine XA.blk (e9 := 73) (ok := inB x3 256 && (true)) (ls' := [some (.ref 106), some (.ref 3), some (.ref 10), some (.int x3)]) (st' := [.int (σ 114 (Int32.toNatClampNeg x3))]) (h' := hs σ) [(.aload_n 0, 1, 0, 0, 0, 0, 0, 0), (.getfield 20, 3, 9, 1, 9, 362, 0, 0), (.iload_n 3, 1, 3, 0, 0, 0, 0, 0), (.iaload, 1, 0, 0, 0, 0, 0, 0)] (by decide +kernel) rfl (by simp only [o1, Bool.and_true, Bool.true_and]) ?_
        exact XA.ret (some (.int (σ 114 (Int32.toNatClampNeg x3)))) rfl (show ckRt mX9_firstFall 73 .ireturn = true by decide +kernel) trivial (Nat.le_of_ble_eq_true rfl) (Nat.le_of_ble_eq_true rfl) ⟨_, _, rfl, rfl, H⟩
      · have H := H.2 c3
        refine XA.blk (e9 := 51) (ok := true) (ls' := [some (.ref 106), some (.ref 3), some (.ref 10), some (.int x3)]) (st' := [.int 1, .int x3, .ref 10, .ref 3, .ref 107]) (h' := hs σ) [(.aload_n 0, 1, 0, 0, 0, 0, 0, 0), (.getfield 14, 3, 9, 0, 2, 361, 0, 0), (.aload_n 1, 1, 1, 0, 0, 0, 0, 0), (.aload_n 2, 1, 2, 0, 0, 0, 0, 0), (.iload_n 3, 1, 3, 0, 0, 0, 0, 0), (.iconst 1, 1, 0, 0, 0, 0, 1, 0)] (by decide +kernel) rfl rfl ?_
        refine XA.callV (as := [.ref 3, .ref 10, .int x3, .int 1]) (rest := []) (mc' := 0) (ms' := 0) (idx := 45) (t := 718) cv_X5_play (by decide +kernel) rfl rfl rfl (Nat.le_of_ble_eq_true rfl) (Nat.le_of_ble_eq_true rfl) (Nat.le_of_ble_eq_true rfl) (Nat.le_of_ble_eq_true rfl) (H) (fun rv h' hp => ?_)
        obtain ⟨s9, rfl, rfl, hK⟩ := hp
        exact ⟨rfl, rfl, XA.drop (by simp [leL]) hK⟩
    · have H := H.2 c2
      refine XA.blk (e9 := 32) (ok := true) (ls' := [some (.ref 106), some (.ref 3), some (.ref 10), some (.int x3)]) (st' := [.int 24]) (h' := hs σ) [(.bipush 24, 2, 0, 0, 0, 0, 24, 0)] (by decide +kernel) rfl rfl ?_
      exact XA.ret (some (.int 24)) rfl (show ckRt mX9_firstFall 32 .ireturn = true by decide +kernel) trivial (Nat.le_of_ble_eq_true rfl) (Nat.le_of_ble_eq_true rfl) ⟨_, _, rfl, rfl, H⟩
  · have H := H.2 c1
    refine XA.blk (e9 := 12) (ok := true) (ls' := [some (.ref 106), some (.ref 3), some (.ref 10), some (.int x3)]) (st' := [.int (-1), .ref 114]) (h' := hs σ) [(.aload_n 0, 1, 0, 0, 0, 0, 0, 0), (.getfield 20, 3, 9, 1, 9, 362, 0, 0), (.iconst (-1), 1, 0, 0, 0, 0, (-1), 0)] (by decide +kernel) rfl rfl ?_
    refine XA.callS (as := [.ref 114, .int (-1)]) (rest := []) (mc' := 0) (ms' := 0) (idx := 35) (t := 716) cs_J7_fill_53178 (by decide +kernel) rfl rfl (Nat.le_of_ble_eq_true rfl) (Nat.le_of_ble_eq_true rfl) (Nat.le_of_ble_eq_true rfl) (Nat.le_of_ble_eq_true rfl) (H) (fun rv h' hp => ?_)
    obtain ⟨s9, rfl, rfl, hK⟩ := hp
    exact ⟨rfl, rfl, hK⟩
set_option maxRecDepth 20000 in
theorem W_X9_firstFall_15 {scr : ScA}   {x3 : Int32}  {σ : Nat → Nat → Int32} {P : Int32 → (Nat → Nat → Int32) → Prop} (H : ∀ σ1, σ1 = (su σ 106 3 1) → (¬ (isW x3 256) = 0 → (inB x3 256 = true) ∧ ((¬ (σ1 114 (Int32.toNatClampNeg x3)) = (-1) → P (σ1 114 (Int32.toNatClampNeg x3)) σ1) ∧ ((σ1 114 (Int32.toNatClampNeg x3)) = (-1) → CvA scr 3 mX5_play [.ref 107, .ref 3, .ref 10, .int x3, .int 1] σ1 (fun σ' => K_X9_firstFall_54 scr x3 σ' P)))) ∧ ((isW x3 256) = 0 → P 24 σ1)) : K_X9_firstFall_15 scr x3 σ P := by
  show XA scr 4 mX9_firstFall 172 4705 15 [some (.ref 106), some (.ref 3), some (.ref 10), some (.int x3)] [] (hs σ) (pI P)
  refine XA.blk (e9 := 20) (ok := true) (ls' := [some (.ref 106), some (.ref 3), some (.ref 10), some (.int x3)]) (st' := []) (h' := hs (su σ 106 3 1)) [(.aload_n 0, 1, 0, 0, 0, 0, 0, 0), (.iconst 1, 1, 0, 0, 0, 0, 1, 0), (.putfield 31, 3, 9, 3, 2, 364, 0, 0)] (by decide +kernel) rfl rfl ?_
  obtain ⟨σ1, hσ1⟩ : ∃ s9, s9 = (su σ 106 3 1) := ⟨_, rfl⟩
  rw [← hσ1]
  have H := H σ1 hσ1
  refine XA.blk (e9 := 24) (ok := true) (ls' := [some (.ref 106), some (.ref 3), some (.ref 10), some (.int x3)]) (st' := [.int 256, .int x3]) (h' := hs σ1) [(.iload_n 3, 1, 3, 0, 0, 0, 0, 0), (.sipush 256, 3, 0, 0, 0, 0, 256, 0)] (by decide +kernel) rfl rfl ?_
  refine XA.callS (as := [.int x3, .int 256]) (rest := []) (mc' := 0) (ms' := 0) (idx := 41) (t := 717) cs_X10_isWithin (by decide +kernel) rfl rfl (Nat.le_of_ble_eq_true rfl) (Nat.le_of_ble_eq_true rfl) (Nat.le_of_ble_eq_true rfl) (Nat.le_of_ble_eq_true rfl) (pu_X10_isWithin scr σ1 x3 256) (fun rv h' hp => ?_)
  obtain ⟨rfl, rfl⟩ := hp
  refine ⟨rfl, rfl, ?_⟩
  show XA scr 4 mX9_firstFall 172 4705 27 [some (.ref 106), some (.ref 3), some (.ref 10), some (.int x3)] [.int (isW x3 256)] (hs σ1) (pI P)
  refine XA.if_ne (6) 33 (by decide +kernel) (fun c1 => ?_) (fun c1 => ?_)
  · have H := H.1 c1
    obtain ⟨o1, H⟩ := H
    refine XA.blk (e9 := 40) (ok := inB x3 256 && (true)) (ls' := [some (.ref 106), some (.ref 3), some (.ref 10), some (.int x3)]) (st' := [.int (-1), .int (σ1 114 (Int32.toNatClampNeg x3))]) (h' := hs σ1) [(.aload_n 0, 1, 0, 0, 0, 0, 0, 0), (.getfield 20, 3, 9, 1, 9, 362, 0, 0), (.iload_n 3, 1, 3, 0, 0, 0, 0, 0), (.iaload, 1, 0, 0, 0, 0, 0, 0), (.iconst (-1), 1, 0, 0, 0, 0, (-1), 0)] (by decide +kernel) rfl (by simp only [o1, Bool.and_true, Bool.true_and]) ?_
    refine XA.icmp_ne (27) 67 (by decide +kernel) (fun c2 => ?_) (fun c2 => ?_)
    · have H := H.1 c2
      refine XA.blk (e9 := 73) (ok := inB x3 256 && (true)) (ls' := [some (.ref 106), some (.ref 3), some (.ref 10), some (.int x3)]) (st' := [.int (σ1 114 (Int32.toNatClampNeg x3))]) (h' := hs σ1) [(.aload_n 0, 1, 0, 0, 0, 0, 0, 0), (.getfield 20, 3, 9, 1, 9, 362, 0, 0), (.iload_n 3, 1, 3, 0, 0, 0, 0, 0), (.iaload, 1, 0, 0, 0, 0, 0, 0)] (by decide +kernel) rfl (by simp only [o1, Bool.and_true, Bool.true_and]) ?_
      exact XA.ret (some (.int (σ1 114 (Int32.toNatClampNeg x3)))) rfl (show ckRt mX9_firstFall 73 .ireturn = true by decide +kernel) trivial (Nat.le_of_ble_eq_true rfl) (Nat.le_of_ble_eq_true rfl) ⟨_, _, rfl, rfl, H⟩
    · have H := H.2 c2
      refine XA.blk (e9 := 51) (ok := true) (ls' := [some (.ref 106), some (.ref 3), some (.ref 10), some (.int x3)]) (st' := [.int 1, .int x3, .ref 10, .ref 3, .ref 107]) (h' := hs σ1) [(.aload_n 0, 1, 0, 0, 0, 0, 0, 0), (.getfield 14, 3, 9, 0, 2, 361, 0, 0), (.aload_n 1, 1, 1, 0, 0, 0, 0, 0), (.aload_n 2, 1, 2, 0, 0, 0, 0, 0), (.iload_n 3, 1, 3, 0, 0, 0, 0, 0), (.iconst 1, 1, 0, 0, 0, 0, 1, 0)] (by decide +kernel) rfl rfl ?_
      refine XA.callV (as := [.ref 3, .ref 10, .int x3, .int 1]) (rest := []) (mc' := 0) (ms' := 0) (idx := 45) (t := 718) cv_X5_play (by decide +kernel) rfl rfl rfl (Nat.le_of_ble_eq_true rfl) (Nat.le_of_ble_eq_true rfl) (Nat.le_of_ble_eq_true rfl) (Nat.le_of_ble_eq_true rfl) (H) (fun rv h' hp => ?_)
      obtain ⟨s9, rfl, rfl, hK⟩ := hp
      exact ⟨rfl, rfl, XA.drop (by simp [leL]) hK⟩
  · have H := H.2 c1
    refine XA.blk (e9 := 32) (ok := true) (ls' := [some (.ref 106), some (.ref 3), some (.ref 10), some (.int x3)]) (st' := [.int 24]) (h' := hs σ1) [(.bipush 24, 2, 0, 0, 0, 0, 24, 0)] (by decide +kernel) rfl rfl ?_
    exact XA.ret (some (.int 24)) rfl (show ckRt mX9_firstFall 32 .ireturn = true by decide +kernel) trivial (Nat.le_of_ble_eq_true rfl) (Nat.le_of_ble_eq_true rfl) ⟨_, _, rfl, rfl, H⟩
set_option maxRecDepth 20000 in
theorem W_X9_firstFall_54 {scr : ScA}   {x3 : Int32}  {σ : Nat → Nat → Int32} {P : Int32 → (Nat → Nat → Int32) → Prop} (H : (inB x3 256 = true) ∧ (∀ σ1, σ1 = (su σ 114 (Int32.toNatClampNeg x3) (σ 107 12)) → P (σ1 114 (Int32.toNatClampNeg x3)) σ1)) : K_X9_firstFall_54 scr x3 σ P := by
  show XA scr 4 mX9_firstFall 172 4705 54 [some (.ref 106), none, none, some (.int x3)] [] (hs σ) (pI P)
  obtain ⟨o1, H⟩ := H
  refine XA.blk (e9 := 67) (ok := inB x3 256 && (true)) (ls' := [some (.ref 106), none, none, some (.int x3)]) (st' := []) (h' := hs (su σ 114 (Int32.toNatClampNeg x3) (σ 107 12))) [(.aload_n 0, 1, 0, 0, 0, 0, 0, 0), (.getfield 20, 3, 9, 1, 9, 362, 0, 0), (.iload_n 3, 1, 3, 0, 0, 0, 0, 0), (.aload_n 0, 1, 0, 0, 0, 0, 0, 0), (.getfield 14, 3, 9, 0, 2, 361, 0, 0), (.getfield 49, 3, 5, 12, 0, 233, 0, 0), (.iastore, 1, 0, 0, 0, 0, 0, 0)] (by decide +kernel) rfl (by simp only [o1, Bool.and_true, Bool.true_and]) ?_
  obtain ⟨σ1, hσ1⟩ : ∃ s9, s9 = (su σ 114 (Int32.toNatClampNeg x3) (σ 107 12)) := ⟨_, rfl⟩
  rw [← hσ1]
  have H := H σ1 hσ1
  refine XA.blk (e9 := 73) (ok := inB x3 256 && (true)) (ls' := [some (.ref 106), none, none, some (.int x3)]) (st' := [.int (σ1 114 (Int32.toNatClampNeg x3))]) (h' := hs σ1) [(.aload_n 0, 1, 0, 0, 0, 0, 0, 0), (.getfield 20, 3, 9, 1, 9, 362, 0, 0), (.iload_n 3, 1, 3, 0, 0, 0, 0, 0), (.iaload, 1, 0, 0, 0, 0, 0, 0)] (by decide +kernel) rfl (by simp only [o1, Bool.and_true, Bool.true_and]) ?_
  exact XA.ret (some (.int (σ1 114 (Int32.toNatClampNeg x3)))) rfl (show ckRt mX9_firstFall 73 .ireturn = true by decide +kernel) trivial (Nat.le_of_ble_eq_true rfl) (Nat.le_of_ble_eq_true rfl) ⟨_, _, rfl, rfl, H⟩
theorem E_X9_firstFall {scr : ScA}  {x3 : Int32} {σ : Nat → Nat → Int32} {P : Int32 → (Nat → Nat → Int32) → Prop} (h : K_X9_firstFall_0 scr x3 σ P) : CiA scr 4 mX9_firstFall [.ref 106, .ref 3, .ref 10, .int x3] σ P := CtA.of (by decide) (Nat.le_of_ble_eq_true rfl) (XA.drop (by simp [leL, enL]) h)
def K_X9_fewestToSpare_0 (scr : ScA)   (σ : Nat → Nat → Int32) (P : Nat → (Nat → Nat → Int32) → Prop) : Prop := XA scr 5 mX9_fewestToSpare 172 4705 0 [some (.ref 106), some (.ref 3), some (.ref 10), none, none, none] [] (hs σ) (pR P)
def K_X9_fewestToSpare_7 (scr : ScA)   (σ : Nat → Nat → Int32) (P : Nat → (Nat → Nat → Int32) → Prop) : Prop := XA scr 5 mX9_fewestToSpare 172 4705 7 [some (.ref 106), some (.ref 3), some (.ref 10), none, none, none] [] (hs σ) (pR P)
def K_X9_fewestToSpare_19 (scr : ScA)  (x3 : Int32) (y0 : Int32) (σ : Nat → Nat → Int32) (P : Nat → (Nat → Nat → Int32) → Prop) : Prop := XA scr 5 mX9_fewestToSpare 172 4705 19 [some (.ref 106), some (.ref 3), some (.ref 10), some (.int x3), none, none] [.int y0] (hs σ) (pR P)
def K_X9_fewestToSpare_34 (scr : ScA)   (σ : Nat → Nat → Int32) (P : Nat → (Nat → Nat → Int32) → Prop) : Prop := XA scr 5 mX9_fewestToSpare 172 4705 34 [some (.ref 106), none, none, none, none, none] [] (hs σ) (pR P)
def K_X9_fewestToSpare_42 (scr : ScA)  (x3 : Int32) (x4 : Int32) (σ : Nat → Nat → Int32) (P : Nat → (Nat → Nat → Int32) → Prop) : Prop := XA scr 5 mX9_fewestToSpare 172 4705 42 [some (.ref 106), some (.ref 3), some (.ref 10), some (.int x3), some (.int x4), none] [] (hs σ) (pR P)
def K_X9_fewestToSpare_65 (scr : ScA)  (x3 : Int32) (x4 : Int32) (y0 : Int32) (σ : Nat → Nat → Int32) (P : Nat → (Nat → Nat → Int32) → Prop) : Prop := XA scr 5 mX9_fewestToSpare 172 4705 65 [some (.ref 106), some (.ref 3), some (.ref 10), some (.int x3), some (.int x4), none] [.int y0] (hs σ) (pR P)
def K_X9_fewestToSpare_81 (scr : ScA)   (σ : Nat → Nat → Int32) (P : Nat → (Nat → Nat → Int32) → Prop) : Prop := XA scr 5 mX9_fewestToSpare 172 4705 81 [some (.ref 106), none, none, none, none, none] [] (hs σ) (pR P)
def K_X9_fewestToSpare_95 (scr : ScA)  (x3 : Int32) (x4 : Int32) (σ : Nat → Nat → Int32) (P : Nat → (Nat → Nat → Int32) → Prop) : Prop := XA scr 5 mX9_fewestToSpare 172 4705 95 [some (.ref 106), some (.ref 3), some (.ref 10), some (.int x3), some (.int x4), none] [] (hs σ) (pR P)
def K_X9_fewestToSpare_110 (scr : ScA)  (x3 : Int32) (x4 : Int32) (x5 : Int32) (σ : Nat → Nat → Int32) (P : Nat → (Nat → Nat → Int32) → Prop) : Prop := XA scr 5 mX9_fewestToSpare 172 4705 110 [some (.ref 106), some (.ref 3), some (.ref 10), some (.int x3), some (.int x4), some (.int x5)] [] (hs σ) (pR P)
def K_X9_fewestToSpare_140 (scr : ScA)  (x3 : Int32) (x4 : Int32) (x5 : Int32) (y0 : Int32) (σ : Nat → Nat → Int32) (P : Nat → (Nat → Nat → Int32) → Prop) : Prop := XA scr 5 mX9_fewestToSpare 172 4705 140 [some (.ref 106), some (.ref 3), some (.ref 10), some (.int x3), some (.int x4), some (.int x5)] [.int y0] (hs σ) (pR P)
def K_X9_fewestToSpare_157 (scr : ScA)   (σ : Nat → Nat → Int32) (P : Nat → (Nat → Nat → Int32) → Prop) : Prop := XA scr 5 mX9_fewestToSpare 172 4705 157 [some (.ref 106), none, none, none, none, none] [] (hs σ) (pR P)
set_option maxRecDepth 20000 in
theorem W_X9_fewestToSpare_0 {scr : ScA}     {σ : Nat → Nat → Int32} {P : Nat → (Nat → Nat → Int32) → Prop} (H : CvA scr 0 mX0_begin [.ref 115] σ (fun σ' => K_X9_fewestToSpare_7 scr σ' P)) : K_X9_fewestToSpare_0 scr σ P := by
  show XA scr 5 mX9_fewestToSpare 172 4705 0 [some (.ref 106), some (.ref 3), some (.ref 10), none, none, none] [] (hs σ) (pR P)
  refine XA.blk (e9 := 4) (ok := true) (ls' := [some (.ref 106), some (.ref 3), some (.ref 10), none, none, none]) (st' := [.ref 115]) (h' := hs σ) [(.aload_n 0, 1, 0, 0, 0, 0, 0, 0), (.getfield 27, 3, 9, 2, 10, 363, 0, 0)] (by decide +kernel) rfl rfl ?_
  refine XA.callV (as := []) (rest := []) (mc' := 0) (ms' := 0) (idx := 53) (t := 710) cv_X0_begin (by decide +kernel) rfl rfl rfl (Nat.le_of_ble_eq_true rfl) (Nat.le_of_ble_eq_true rfl) (Nat.le_of_ble_eq_true rfl) (Nat.le_of_ble_eq_true rfl) (H) (fun rv h' hp => ?_)
  obtain ⟨s9, rfl, rfl, hK⟩ := hp
  exact ⟨rfl, rfl, hK⟩
set_option maxRecDepth 20000 in
theorem W_X9_fewestToSpare_7 {scr : ScA}     {σ : Nat → Nat → Int32} {P : Nat → (Nat → Nat → Int32) → Prop} (H : CiA scr 4 mX9_firstFall [.ref 106, .ref 3, .ref 10, .int (((1 : Int32) <<< ((σ 10 3) &&& 31)) - 1)] σ (fun r9 σ' => K_X9_fewestToSpare_19 scr (((1 : Int32) <<< ((σ 10 3) &&& 31)) - 1) r9 σ' P)) : K_X9_fewestToSpare_7 scr σ P := by
  show XA scr 5 mX9_fewestToSpare 172 4705 7 [some (.ref 106), some (.ref 3), some (.ref 10), none, none, none] [] (hs σ) (pR P)
  refine XA.blk (e9 := 8) (ok := true) (ls' := [some (.ref 106), some (.ref 3), some (.ref 10), none, none, none]) (st' := [.ref 10]) (h' := hs σ) [(.aload_n 2, 1, 2, 0, 0, 0, 0, 0)] (by decide +kernel) rfl rfl ?_
  refine XA.callV (as := []) (rest := []) (mc' := 0) (ms' := 0) (idx := 56) (t := 711) cv_X1_allBits (by decide +kernel) rfl rfl rfl (Nat.le_of_ble_eq_true rfl) (Nat.le_of_ble_eq_true rfl) (Nat.le_of_ble_eq_true rfl) (Nat.le_of_ble_eq_true rfl) (pu_X1_allBits scr σ (by unfold isEv; omega) ) (fun rv h' hp => ?_)
  obtain ⟨rfl, rfl⟩ := hp
  refine ⟨rfl, rfl, ?_⟩
  show XA scr 5 mX9_fewestToSpare 172 4705 11 [some (.ref 106), some (.ref 3), some (.ref 10), none, none, none] [.int (((1 : Int32) <<< ((σ 10 3) &&& 31)) - 1)] (hs σ) (pR P)
  refine XA.blk (e9 := 16) (ok := true) (ls' := [some (.ref 106), some (.ref 3), some (.ref 10), some (.int (((1 : Int32) <<< ((σ 10 3) &&& 31)) - 1)), none, none]) (st' := [.int (((1 : Int32) <<< ((σ 10 3) &&& 31)) - 1), .ref 10, .ref 3, .ref 106]) (h' := hs σ) [(.istore_n 3, 1, 3, 0, 0, 0, 0, 0), (.aload_n 0, 1, 0, 0, 0, 0, 0, 0), (.aload_n 1, 1, 1, 0, 0, 0, 0, 0), (.aload_n 2, 1, 2, 0, 0, 0, 0, 0), (.iload_n 3, 1, 3, 0, 0, 0, 0, 0)] (by decide +kernel) rfl rfl ?_
  refine XA.callV (as := [.ref 3, .ref 10, .int (((1 : Int32) <<< ((σ 10 3) &&& 31)) - 1)]) (rest := []) (mc' := 0) (ms' := 0) (idx := 62) (t := 712) cv_X9_firstFall (by decide +kernel) rfl rfl rfl (Nat.le_of_ble_eq_true rfl) (Nat.le_of_ble_eq_true rfl) (Nat.le_of_ble_eq_true rfl) (Nat.le_of_ble_eq_true rfl) (H) (fun rv h' hp => ?_)
  obtain ⟨r9, s9, rfl, rfl, hK⟩ := hp
  exact ⟨rfl, rfl, hK⟩
set_option maxRecDepth 20000 in
theorem W_X9_fewestToSpare_19 {scr : ScA}   {x3 : Int32} {y0 : Int32}  {σ : Nat → Nat → Int32} {P : Nat → (Nat → Nat → Int32) → Prop} (H : (¬ y0 = 24 → K_X9_fewestToSpare_42 scr x3 0 σ P) ∧ (y0 = 24 → CvA scr 0 mX0_offer [.ref 115, .int (-1), .int (-1), .int 0] σ (fun σ' => K_X9_fewestToSpare_34 scr σ' P))) : K_X9_fewestToSpare_19 scr x3 y0 σ P := by
  show XA scr 5 mX9_fewestToSpare 172 4705 19 [some (.ref 106), some (.ref 3), some (.ref 10), some (.int x3), none, none] [.int y0] (hs σ) (pR P)
  refine XA.blk (e9 := 21) (ok := true) (ls' := [some (.ref 106), some (.ref 3), some (.ref 10), some (.int x3), none, none]) (st' := [.int 24, .int y0]) (h' := hs σ) [(.bipush 24, 2, 0, 0, 0, 0, 24, 0)] (by decide +kernel) rfl rfl ?_
  refine XA.icmp_ne (18) 39 (by decide +kernel) (fun c1 => ?_) (fun c1 => ?_)
  · have H := H.1 c1
    refine XA.blk (e9 := 42) (ok := true) (ls' := [some (.ref 106), some (.ref 3), some (.ref 10), some (.int x3), some (.int 0), none]) (st' := []) (h' := hs σ) [(.iconst 0, 1, 0, 0, 0, 0, 0, 0), (.istore 4, 2, 4, 0, 0, 0, 0, 0)] (by decide +kernel) rfl rfl ?_
    exact H
  · have H := H.2 c1
    refine XA.blk (e9 := 31) (ok := true) (ls' := [some (.ref 106), some (.ref 3), some (.ref 10), some (.int x3), none, none]) (st' := [.int 0, .int (-1), .int (-1), .ref 115]) (h' := hs σ) [(.aload_n 0, 1, 0, 0, 0, 0, 0, 0), (.getfield 27, 3, 9, 2, 10, 363, 0, 0), (.iconst (-1), 1, 0, 0, 0, 0, (-1), 0), (.iconst (-1), 1, 0, 0, 0, 0, (-1), 0), (.iconst 0, 1, 0, 0, 0, 0, 0, 0)] (by decide +kernel) rfl rfl ?_
    refine XA.callV (as := [.int (-1), .int (-1), .int 0]) (rest := []) (mc' := 0) (ms' := 0) (idx := 65) (t := 719) cv_X0_offer (by decide +kernel) rfl rfl rfl (Nat.le_of_ble_eq_true rfl) (Nat.le_of_ble_eq_true rfl) (Nat.le_of_ble_eq_true rfl) (Nat.le_of_ble_eq_true rfl) (H) (fun rv h' hp => ?_)
    obtain ⟨s9, rfl, rfl, hK⟩ := hp
    exact ⟨rfl, rfl, XA.drop (by simp [leL]) hK⟩
set_option maxRecDepth 20000 in
theorem W_X9_fewestToSpare_34 {scr : ScA}     {σ : Nat → Nat → Int32} {P : Nat → (Nat → Nat → Int32) → Prop} (H : P 115 σ) : K_X9_fewestToSpare_34 scr σ P := by
  show XA scr 5 mX9_fewestToSpare 172 4705 34 [some (.ref 106), none, none, none, none, none] [] (hs σ) (pR P)
  refine XA.blk (e9 := 38) (ok := true) (ls' := [some (.ref 106), none, none, none, none, none]) (st' := [.ref 115]) (h' := hs σ) [(.aload_n 0, 1, 0, 0, 0, 0, 0, 0), (.getfield 27, 3, 9, 2, 10, 363, 0, 0)] (by decide +kernel) rfl rfl ?_
  exact XA.ret (some (.ref 115)) rfl (show ckRt mX9_fewestToSpare 38 .areturn = true by decide +kernel) trivial (Nat.le_of_ble_eq_true rfl) (Nat.le_of_ble_eq_true rfl) ⟨_, _, rfl, rfl, H⟩
set_option maxRecDepth 20000 in
theorem W_X9_fewestToSpare_42 {scr : ScA}   {x3 : Int32} {x4 : Int32}  {σ : Nat → Nat → Int32} {P : Nat → (Nat → Nat → Int32) → Prop} (H : ((σ 10 3) ≤ x4 → K_X9_fewestToSpare_95 scr x3 0 σ P) ∧ (¬ (σ 10 3) ≤ x4 → CiA scr 4 mX9_firstFall [.ref 106, .ref 3, .ref 10, .int (x3 &&& (((1 : Int32) <<< (x4 &&& 31)) ^^^ (-1)))] σ (fun r9 σ' => K_X9_fewestToSpare_65 scr x3 x4 r9 σ' P))) : K_X9_fewestToSpare_42 scr x3 x4 σ P := by
  show XA scr 5 mX9_fewestToSpare 172 4705 42 [some (.ref 106), some (.ref 3), some (.ref 10), some (.int x3), some (.int x4), none] [] (hs σ) (pR P)
  refine XA.blk (e9 := 48) (ok := true) (ls' := [some (.ref 106), some (.ref 3), some (.ref 10), some (.int x3), some (.int x4), none]) (st' := [.int (σ 10 3), .int x4]) (h' := hs σ) [(.iload 4, 2, 4, 0, 0, 0, 0, 0), (.aload_n 2, 1, 2, 0, 0, 0, 0, 0), (.getfield 69, 3, 1, 3, 0, 174, 0, 0)] (by decide +kernel) rfl rfl ?_
  refine XA.icmp_ge (44) 92 (by decide +kernel) (fun c1 => ?_) (fun c1 => ?_)
  · have H := H.1 c1
    refine XA.blk (e9 := 95) (ok := true) (ls' := [some (.ref 106), some (.ref 3), some (.ref 10), some (.int x3), some (.int 0), none]) (st' := []) (h' := hs σ) [(.iconst 0, 1, 0, 0, 0, 0, 0, 0), (.istore 4, 2, 4, 0, 0, 0, 0, 0)] (by decide +kernel) rfl rfl ?_
    exact H
  · have H := H.2 c1
    refine XA.blk (e9 := 62) (ok := true) (ls' := [some (.ref 106), some (.ref 3), some (.ref 10), some (.int x3), some (.int x4), none]) (st' := [.int (x3 &&& (((1 : Int32) <<< (x4 &&& 31)) ^^^ (-1))), .ref 10, .ref 3, .ref 106]) (h' := hs σ) [(.aload_n 0, 1, 0, 0, 0, 0, 0, 0), (.aload_n 1, 1, 1, 0, 0, 0, 0, 0), (.aload_n 2, 1, 2, 0, 0, 0, 0, 0), (.iload_n 3, 1, 3, 0, 0, 0, 0, 0), (.iconst 1, 1, 0, 0, 0, 0, 1, 0), (.iload 4, 2, 4, 0, 0, 0, 0, 0), (.ishl, 1, 0, 0, 0, 0, 0, 0), (.iconst (-1), 1, 0, 0, 0, 0, (-1), 0), (.ixor, 1, 0, 0, 0, 0, 0, 0), (.iand, 1, 0, 0, 0, 0, 0, 0)] (by decide +kernel) rfl rfl ?_
    refine XA.callV (as := [.ref 3, .ref 10, .int (x3 &&& (((1 : Int32) <<< (x4 &&& 31)) ^^^ (-1)))]) (rest := []) (mc' := 0) (ms' := 0) (idx := 62) (t := 712) cv_X9_firstFall (by decide +kernel) rfl rfl rfl (Nat.le_of_ble_eq_true rfl) (Nat.le_of_ble_eq_true rfl) (Nat.le_of_ble_eq_true rfl) (Nat.le_of_ble_eq_true rfl) (H) (fun rv h' hp => ?_)
    obtain ⟨r9, s9, rfl, rfl, hK⟩ := hp
    exact ⟨rfl, rfl, hK⟩
set_option maxRecDepth 20000 in
theorem W_X9_fewestToSpare_65 {scr : ScA}   {x3 : Int32} {x4 : Int32} {y0 : Int32}  {σ : Nat → Nat → Int32} {P : Nat → (Nat → Nat → Int32) → Prop} (H : (¬ y0 = 24 → K_X9_fewestToSpare_42 scr x3 (x4 + 1) σ P) ∧ (y0 = 24 → CvA scr 0 mX0_offer [.ref 115, .int x4, .int (-1), .int 1] σ (fun σ' => K_X9_fewestToSpare_81 scr σ' P))) : K_X9_fewestToSpare_65 scr x3 x4 y0 σ P := by
  show XA scr 5 mX9_fewestToSpare 172 4705 65 [some (.ref 106), some (.ref 3), some (.ref 10), some (.int x3), some (.int x4), none] [.int y0] (hs σ) (pR P)
  refine XA.blk (e9 := 67) (ok := true) (ls' := [some (.ref 106), some (.ref 3), some (.ref 10), some (.int x3), some (.int x4), none]) (st' := [.int 24, .int y0]) (h' := hs σ) [(.bipush 24, 2, 0, 0, 0, 0, 24, 0)] (by decide +kernel) rfl rfl ?_
  refine XA.icmp_ne (19) 86 (by decide +kernel) (fun c1 => ?_) (fun c1 => ?_)
  · have H := H.1 c1
    refine XA.blk (e9 := 42) (ok := true) (ls' := [some (.ref 106), some (.ref 3), some (.ref 10), some (.int x3), some (.int (x4 + 1)), none]) (st' := []) (h' := hs σ) [(.iinc 4 1, 3, 4, 0, 0, 0, 1, 0), (.goto (-47), 3, 42, 0, 0, 0, 0, 0)] (by decide +kernel) rfl rfl ?_
    exact H
  · have H := H.2 c1
    refine XA.blk (e9 := 78) (ok := true) (ls' := [some (.ref 106), some (.ref 3), some (.ref 10), some (.int x3), some (.int x4), none]) (st' := [.int 1, .int (-1), .int x4, .ref 115]) (h' := hs σ) [(.aload_n 0, 1, 0, 0, 0, 0, 0, 0), (.getfield 27, 3, 9, 2, 10, 363, 0, 0), (.iload 4, 2, 4, 0, 0, 0, 0, 0), (.iconst (-1), 1, 0, 0, 0, 0, (-1), 0), (.iconst 1, 1, 0, 0, 0, 0, 1, 0)] (by decide +kernel) rfl rfl ?_
    refine XA.callV (as := [.int x4, .int (-1), .int 1]) (rest := []) (mc' := 0) (ms' := 0) (idx := 65) (t := 719) cv_X0_offer (by decide +kernel) rfl rfl rfl (Nat.le_of_ble_eq_true rfl) (Nat.le_of_ble_eq_true rfl) (Nat.le_of_ble_eq_true rfl) (Nat.le_of_ble_eq_true rfl) (H) (fun rv h' hp => ?_)
    obtain ⟨s9, rfl, rfl, hK⟩ := hp
    exact ⟨rfl, rfl, XA.drop (by simp [leL]) hK⟩
set_option maxRecDepth 20000 in
theorem W_X9_fewestToSpare_81 {scr : ScA}     {σ : Nat → Nat → Int32} {P : Nat → (Nat → Nat → Int32) → Prop} (H : P 115 σ) : K_X9_fewestToSpare_81 scr σ P := by
  show XA scr 5 mX9_fewestToSpare 172 4705 81 [some (.ref 106), none, none, none, none, none] [] (hs σ) (pR P)
  refine XA.blk (e9 := 85) (ok := true) (ls' := [some (.ref 106), none, none, none, none, none]) (st' := [.ref 115]) (h' := hs σ) [(.aload_n 0, 1, 0, 0, 0, 0, 0, 0), (.getfield 27, 3, 9, 2, 10, 363, 0, 0)] (by decide +kernel) rfl rfl ?_
  exact XA.ret (some (.ref 115)) rfl (show ckRt mX9_fewestToSpare 85 .areturn = true by decide +kernel) trivial (Nat.le_of_ble_eq_true rfl) (Nat.le_of_ble_eq_true rfl) ⟨_, _, rfl, rfl, H⟩
set_option maxRecDepth 20000 in
theorem W_X9_fewestToSpare_95 {scr : ScA}   {x3 : Int32} {x4 : Int32}  {σ : Nat → Nat → Int32} {P : Nat → (Nat → Nat → Int32) → Prop} (H : ((σ 10 3) ≤ x4 → P 115 σ) ∧ (¬ (σ 10 3) ≤ x4 → K_X9_fewestToSpare_110 scr x3 x4 (x4 + 1) σ P)) : K_X9_fewestToSpare_95 scr x3 x4 σ P := by
  show XA scr 5 mX9_fewestToSpare 172 4705 95 [some (.ref 106), some (.ref 3), some (.ref 10), some (.int x3), some (.int x4), none] [] (hs σ) (pR P)
  refine XA.blk (e9 := 101) (ok := true) (ls' := [some (.ref 106), some (.ref 3), some (.ref 10), some (.int x3), some (.int x4), none]) (st' := [.int (σ 10 3), .int x4]) (h' := hs σ) [(.iload 4, 2, 4, 0, 0, 0, 0, 0), (.aload_n 2, 1, 2, 0, 0, 0, 0, 0), (.getfield 69, 3, 1, 3, 0, 174, 0, 0)] (by decide +kernel) rfl rfl ?_
  refine XA.icmp_ge (73) 174 (by decide +kernel) (fun c1 => ?_) (fun c1 => ?_)
  · have H := H.1 c1
    refine XA.blk (e9 := 178) (ok := true) (ls' := [some (.ref 106), some (.ref 3), some (.ref 10), some (.int x3), some (.int x4), none]) (st' := [.ref 115]) (h' := hs σ) [(.aload_n 0, 1, 0, 0, 0, 0, 0, 0), (.getfield 27, 3, 9, 2, 10, 363, 0, 0)] (by decide +kernel) rfl rfl ?_
    exact XA.ret (some (.ref 115)) rfl (show ckRt mX9_fewestToSpare 178 .areturn = true by decide +kernel) trivial (Nat.le_of_ble_eq_true rfl) (Nat.le_of_ble_eq_true rfl) ⟨_, _, rfl, rfl, H⟩
  · have H := H.2 c1
    refine XA.blk (e9 := 110) (ok := true) (ls' := [some (.ref 106), some (.ref 3), some (.ref 10), some (.int x3), some (.int x4), some (.int (x4 + 1))]) (st' := []) (h' := hs σ) [(.iload 4, 2, 4, 0, 0, 0, 0, 0), (.iconst 1, 1, 0, 0, 0, 0, 1, 0), (.iadd, 1, 0, 0, 0, 0, 0, 0), (.istore 5, 2, 5, 0, 0, 0, 0, 0)] (by decide +kernel) rfl rfl ?_
    exact H
set_option maxRecDepth 20000 in
theorem W_X9_fewestToSpare_110 {scr : ScA}   {x3 : Int32} {x4 : Int32} {x5 : Int32}  {σ : Nat → Nat → Int32} {P : Nat → (Nat → Nat → Int32) → Prop} (H : ((σ 10 3) ≤ x5 → K_X9_fewestToSpare_95 scr x3 (x4 + 1) σ P) ∧ (¬ (σ 10 3) ≤ x5 → CiA scr 4 mX9_firstFall [.ref 106, .ref 3, .ref 10, .int ((x3 &&& (((1 : Int32) <<< (x4 &&& 31)) ^^^ (-1))) &&& (((1 : Int32) <<< (x5 &&& 31)) ^^^ (-1)))] σ (fun r9 σ' => K_X9_fewestToSpare_140 scr x3 x4 x5 r9 σ' P))) : K_X9_fewestToSpare_110 scr x3 x4 x5 σ P := by
  show XA scr 5 mX9_fewestToSpare 172 4705 110 [some (.ref 106), some (.ref 3), some (.ref 10), some (.int x3), some (.int x4), some (.int x5)] [] (hs σ) (pR P)
  refine XA.blk (e9 := 116) (ok := true) (ls' := [some (.ref 106), some (.ref 3), some (.ref 10), some (.int x3), some (.int x4), some (.int x5)]) (st' := [.int (σ 10 3), .int x5]) (h' := hs σ) [(.iload 5, 2, 5, 0, 0, 0, 0, 0), (.aload_n 2, 1, 2, 0, 0, 0, 0, 0), (.getfield 69, 3, 1, 3, 0, 174, 0, 0)] (by decide +kernel) rfl rfl ?_
  refine XA.icmp_ge (52) 168 (by decide +kernel) (fun c1 => ?_) (fun c1 => ?_)
  · have H := H.1 c1
    refine XA.blk (e9 := 95) (ok := true) (ls' := [some (.ref 106), some (.ref 3), some (.ref 10), some (.int x3), some (.int (x4 + 1)), some (.int x5)]) (st' := []) (h' := hs σ) [(.iinc 4 1, 3, 4, 0, 0, 0, 1, 0), (.goto (-76), 3, 95, 0, 0, 0, 0, 0)] (by decide +kernel) rfl rfl ?_
    exact XA.drop (by simp [leL]) H
  · have H := H.2 c1
    refine XA.blk (e9 := 137) (ok := true) (ls' := [some (.ref 106), some (.ref 3), some (.ref 10), some (.int x3), some (.int x4), some (.int x5)]) (st' := [.int ((x3 &&& (((1 : Int32) <<< (x4 &&& 31)) ^^^ (-1))) &&& (((1 : Int32) <<< (x5 &&& 31)) ^^^ (-1))), .ref 10, .ref 3, .ref 106]) (h' := hs σ) [(.aload_n 0, 1, 0, 0, 0, 0, 0, 0), (.aload_n 1, 1, 1, 0, 0, 0, 0, 0), (.aload_n 2, 1, 2, 0, 0, 0, 0, 0), (.iload_n 3, 1, 3, 0, 0, 0, 0, 0), (.iconst 1, 1, 0, 0, 0, 0, 1, 0), (.iload 4, 2, 4, 0, 0, 0, 0, 0), (.ishl, 1, 0, 0, 0, 0, 0, 0), (.iconst (-1), 1, 0, 0, 0, 0, (-1), 0), (.ixor, 1, 0, 0, 0, 0, 0, 0), (.iand, 1, 0, 0, 0, 0, 0, 0), (.iconst 1, 1, 0, 0, 0, 0, 1, 0), (.iload 5, 2, 5, 0, 0, 0, 0, 0), (.ishl, 1, 0, 0, 0, 0, 0, 0), (.iconst (-1), 1, 0, 0, 0, 0, (-1), 0), (.ixor, 1, 0, 0, 0, 0, 0, 0), (.iand, 1, 0, 0, 0, 0, 0, 0)] (by decide +kernel) rfl rfl ?_
    refine XA.callV (as := [.ref 3, .ref 10, .int ((x3 &&& (((1 : Int32) <<< (x4 &&& 31)) ^^^ (-1))) &&& (((1 : Int32) <<< (x5 &&& 31)) ^^^ (-1)))]) (rest := []) (mc' := 0) (ms' := 0) (idx := 62) (t := 712) cv_X9_firstFall (by decide +kernel) rfl rfl rfl (Nat.le_of_ble_eq_true rfl) (Nat.le_of_ble_eq_true rfl) (Nat.le_of_ble_eq_true rfl) (Nat.le_of_ble_eq_true rfl) (H) (fun rv h' hp => ?_)
    obtain ⟨r9, s9, rfl, rfl, hK⟩ := hp
    exact ⟨rfl, rfl, hK⟩
set_option maxRecDepth 20000 in
theorem W_X9_fewestToSpare_140 {scr : ScA}   {x3 : Int32} {x4 : Int32} {x5 : Int32} {y0 : Int32}  {σ : Nat → Nat → Int32} {P : Nat → (Nat → Nat → Int32) → Prop} (H : (¬ y0 = 24 → K_X9_fewestToSpare_110 scr x3 x4 (x5 + 1) σ P) ∧ (y0 = 24 → CvA scr 0 mX0_offer [.ref 115, .int x4, .int x5, .int 2] σ (fun σ' => K_X9_fewestToSpare_157 scr σ' P))) : K_X9_fewestToSpare_140 scr x3 x4 x5 y0 σ P := by
  show XA scr 5 mX9_fewestToSpare 172 4705 140 [some (.ref 106), some (.ref 3), some (.ref 10), some (.int x3), some (.int x4), some (.int x5)] [.int y0] (hs σ) (pR P)
  refine XA.blk (e9 := 142) (ok := true) (ls' := [some (.ref 106), some (.ref 3), some (.ref 10), some (.int x3), some (.int x4), some (.int x5)]) (st' := [.int 24, .int y0]) (h' := hs σ) [(.bipush 24, 2, 0, 0, 0, 0, 24, 0)] (by decide +kernel) rfl rfl ?_
  refine XA.icmp_ne (20) 162 (by decide +kernel) (fun c1 => ?_) (fun c1 => ?_)
  · have H := H.1 c1
    refine XA.blk (e9 := 110) (ok := true) (ls' := [some (.ref 106), some (.ref 3), some (.ref 10), some (.int x3), some (.int x4), some (.int (x5 + 1))]) (st' := []) (h' := hs σ) [(.iinc 5 1, 3, 5, 0, 0, 0, 1, 0), (.goto (-55), 3, 110, 0, 0, 0, 0, 0)] (by decide +kernel) rfl rfl ?_
    exact H
  · have H := H.2 c1
    refine XA.blk (e9 := 154) (ok := true) (ls' := [some (.ref 106), some (.ref 3), some (.ref 10), some (.int x3), some (.int x4), some (.int x5)]) (st' := [.int 2, .int x5, .int x4, .ref 115]) (h' := hs σ) [(.aload_n 0, 1, 0, 0, 0, 0, 0, 0), (.getfield 27, 3, 9, 2, 10, 363, 0, 0), (.iload 4, 2, 4, 0, 0, 0, 0, 0), (.iload 5, 2, 5, 0, 0, 0, 0, 0), (.iconst 2, 1, 0, 0, 0, 0, 2, 0)] (by decide +kernel) rfl rfl ?_
    refine XA.callV (as := [.int x4, .int x5, .int 2]) (rest := []) (mc' := 0) (ms' := 0) (idx := 65) (t := 719) cv_X0_offer (by decide +kernel) rfl rfl rfl (Nat.le_of_ble_eq_true rfl) (Nat.le_of_ble_eq_true rfl) (Nat.le_of_ble_eq_true rfl) (Nat.le_of_ble_eq_true rfl) (H) (fun rv h' hp => ?_)
    obtain ⟨s9, rfl, rfl, hK⟩ := hp
    exact ⟨rfl, rfl, XA.drop (by simp [leL]) hK⟩
set_option maxRecDepth 20000 in
theorem W_X9_fewestToSpare_157 {scr : ScA}     {σ : Nat → Nat → Int32} {P : Nat → (Nat → Nat → Int32) → Prop} (H : P 115 σ) : K_X9_fewestToSpare_157 scr σ P := by
  show XA scr 5 mX9_fewestToSpare 172 4705 157 [some (.ref 106), none, none, none, none, none] [] (hs σ) (pR P)
  refine XA.blk (e9 := 161) (ok := true) (ls' := [some (.ref 106), none, none, none, none, none]) (st' := [.ref 115]) (h' := hs σ) [(.aload_n 0, 1, 0, 0, 0, 0, 0, 0), (.getfield 27, 3, 9, 2, 10, 363, 0, 0)] (by decide +kernel) rfl rfl ?_
  exact XA.ret (some (.ref 115)) rfl (show ckRt mX9_fewestToSpare 161 .areturn = true by decide +kernel) trivial (Nat.le_of_ble_eq_true rfl) (Nat.le_of_ble_eq_true rfl) ⟨_, _, rfl, rfl, H⟩
theorem E_X9_fewestToSpare {scr : ScA}   {σ : Nat → Nat → Int32} {P : Nat → (Nat → Nat → Int32) → Prop} (h : K_X9_fewestToSpare_0 scr σ P) : CrA scr 5 mX9_fewestToSpare [.ref 106, .ref 3, .ref 10] σ P := CtA.of (by decide) (Nat.le_of_ble_eq_true rfl) (XA.drop (by simp [leL, enL]) h)
def K_X9_chanceAbove_0 (scr : ScA)  (x3 : Int32) (x4 : Int32) (σ : Nat → Nat → Int32) (P : Int64 → (Nat → Nat → Int32) → Prop) : Prop := XA scr 5 mX9_chanceAbove 172 4705 0 [some (.ref 106), some (.ref 3), some (.ref 10), some (.int x3), some (.int x4), none, none, none, none, none, none] [] (hs σ) (pJ P)
def K_X9_chanceAbove_12 (scr : ScA)  (x3 : Int32) (x4 : Int32) (x5 : Int64) (x7 : Int32) (x8 : Int32) (σ : Nat → Nat → Int32) (P : Int64 → (Nat → Nat → Int32) → Prop) : Prop := XA scr 5 mX9_chanceAbove 172 4705 12 [some (.ref 106), some (.ref 3), some (.ref 10), some (.int x3), some (.int x4), some (.long x5), none, some (.int x7), some (.int x8), none, none] [] (hs σ) (pJ P)
def K_X9_chanceAbove_29 (scr : ScA)  (x3 : Int32) (x4 : Int32) (x5 : Int64) (x7 : Int32) (x8 : Int32) (y0 : Int64) (σ : Nat → Nat → Int32) (P : Int64 → (Nat → Nat → Int32) → Prop) : Prop := XA scr 5 mX9_chanceAbove 172 4705 29 [some (.ref 106), some (.ref 3), some (.ref 10), some (.int x3), some (.int x4), some (.long x5), none, some (.int x7), some (.int x8), none, none] [.long y0] (hs σ) (pJ P)
def K_X9_chanceAbove_46 (scr : ScA)  (x3 : Int32) (x4 : Int32) (x5 : Int64) (x7 : Int32) (x8 : Int32) (x9 : Int64) (y0 : Int32) (σ : Nat → Nat → Int32) (P : Int64 → (Nat → Nat → Int32) → Prop) : Prop := XA scr 5 mX9_chanceAbove 172 4705 46 [some (.ref 106), some (.ref 3), some (.ref 10), some (.int x3), some (.int x4), some (.long x5), none, some (.int x7), some (.int x8), some (.long x9), none] [.int y0] (hs σ) (pJ P)
set_option maxRecDepth 20000 in
theorem W_X9_chanceAbove_0 {scr : ScA}   {x3 : Int32} {x4 : Int32}  {σ : Nat → Nat → Int32} {P : Int64 → (Nat → Nat → Int32) → Prop} (H : K_X9_chanceAbove_12 scr x3 x4 0 (((1 : Int32) <<< ((σ 10 3) &&& 31)) - 1) 0 σ P) : K_X9_chanceAbove_0 scr x3 x4 σ P := by
  show XA scr 5 mX9_chanceAbove 172 4705 0 [some (.ref 106), some (.ref 3), some (.ref 10), some (.int x3), some (.int x4), none, none, none, none, none, none] [] (hs σ) (pJ P)
  refine XA.blk (e9 := 4) (ok := true) (ls' := [some (.ref 106), some (.ref 3), some (.ref 10), some (.int x3), some (.int x4), some (.long 0), none, none, none, none, none]) (st' := [.ref 10]) (h' := hs σ) [(.lconst 0, 1, 0, 0, 0, 0, 0, 0), (.lstore 5, 2, 5, 0, 0, 0, 0, 0), (.aload_n 2, 1, 2, 0, 0, 0, 0, 0)] (by decide +kernel) rfl rfl ?_
  refine XA.callV (as := []) (rest := []) (mc' := 0) (ms' := 0) (idx := 56) (t := 711) cv_X1_allBits (by decide +kernel) rfl rfl rfl (Nat.le_of_ble_eq_true rfl) (Nat.le_of_ble_eq_true rfl) (Nat.le_of_ble_eq_true rfl) (Nat.le_of_ble_eq_true rfl) (pu_X1_allBits scr σ (by unfold isEv; omega) ) (fun rv h' hp => ?_)
  obtain ⟨rfl, rfl⟩ := hp
  refine ⟨rfl, rfl, ?_⟩
  show XA scr 5 mX9_chanceAbove 172 4705 7 [some (.ref 106), some (.ref 3), some (.ref 10), some (.int x3), some (.int x4), some (.long 0), none, none, none, none, none] [.int (((1 : Int32) <<< ((σ 10 3) &&& 31)) - 1)] (hs σ) (pJ P)
  refine XA.blk (e9 := 12) (ok := true) (ls' := [some (.ref 106), some (.ref 3), some (.ref 10), some (.int x3), some (.int x4), some (.long 0), none, some (.int (((1 : Int32) <<< ((σ 10 3) &&& 31)) - 1)), some (.int 0), none, none]) (st' := []) (h' := hs σ) [(.istore 7, 2, 7, 0, 0, 0, 0, 0), (.iconst 0, 1, 0, 0, 0, 0, 0, 0), (.istore 8, 2, 8, 0, 0, 0, 0, 0)] (by decide +kernel) rfl rfl ?_
  exact H
set_option maxRecDepth 20000 in
theorem W_X9_chanceAbove_12 {scr : ScA}   {x3 : Int32} {x4 : Int32} {x5 : Int64} {x7 : Int32} {x8 : Int32}  {σ : Nat → Nat → Int32} {P : Int64 → (Nat → Nat → Int32) → Prop} (H : (x7 < x8 → P x5 σ) ∧ (¬ x7 < x8 → ClA scr 1 mX9_shareOf [.int x8, .int (σ 10 3), .int x3] σ (fun r9 σ' => K_X9_chanceAbove_29 scr x3 x4 x5 x7 x8 r9 σ' P))) : K_X9_chanceAbove_12 scr x3 x4 x5 x7 x8 σ P := by
  show XA scr 5 mX9_chanceAbove 172 4705 12 [some (.ref 106), some (.ref 3), some (.ref 10), some (.int x3), some (.int x4), some (.long x5), none, some (.int x7), some (.int x8), none, none] [] (hs σ) (pJ P)
  refine XA.blk (e9 := 16) (ok := true) (ls' := [some (.ref 106), some (.ref 3), some (.ref 10), some (.int x3), some (.int x4), some (.long x5), none, some (.int x7), some (.int x8), none, none]) (st' := [.int x7, .int x8]) (h' := hs σ) [(.iload 8, 2, 8, 0, 0, 0, 0, 0), (.iload 7, 2, 7, 0, 0, 0, 0, 0)] (by decide +kernel) rfl rfl ?_
  refine XA.icmp_gt (48) 64 (by decide +kernel) (fun c1 => ?_) (fun c1 => ?_)
  · have H := H.1 c1
    refine XA.blk (e9 := 66) (ok := true) (ls' := [some (.ref 106), some (.ref 3), some (.ref 10), some (.int x3), some (.int x4), some (.long x5), none, some (.int x7), some (.int x8), none, none]) (st' := [.long x5]) (h' := hs σ) [(.lload 5, 2, 5, 0, 0, 0, 0, 0)] (by decide +kernel) rfl rfl ?_
    exact XA.ret (some (.long x5)) rfl (show ckRt mX9_chanceAbove 66 .lreturn = true by decide +kernel) trivial (Nat.le_of_ble_eq_true rfl) (Nat.le_of_ble_eq_true rfl) ⟨_, _, rfl, rfl, H⟩
  · have H := H.2 c1
    refine XA.blk (e9 := 26) (ok := true) (ls' := [some (.ref 106), some (.ref 3), some (.ref 10), some (.int x3), some (.int x4), some (.long x5), none, some (.int x7), some (.int x8), none, none]) (st' := [.int x3, .int (σ 10 3), .int x8]) (h' := hs σ) [(.iload 8, 2, 8, 0, 0, 0, 0, 0), (.aload_n 2, 1, 2, 0, 0, 0, 0, 0), (.getfield 69, 3, 1, 3, 0, 174, 0, 0), (.iload_n 3, 1, 3, 0, 0, 0, 0, 0)] (by decide +kernel) rfl rfl ?_
    refine XA.callS (as := [.int x8, .int (σ 10 3), .int x3]) (rest := []) (mc' := 0) (ms' := 0) (idx := 72) (t := 784) cs_X9_shareOf (by decide +kernel) rfl rfl (Nat.le_of_ble_eq_true rfl) (Nat.le_of_ble_eq_true rfl) (Nat.le_of_ble_eq_true rfl) (Nat.le_of_ble_eq_true rfl) (H) (fun rv h' hp => ?_)
    obtain ⟨r9, s9, rfl, rfl, hK⟩ := hp
    exact ⟨rfl, rfl, hK⟩
set_option maxRecDepth 20000 in
theorem W_X9_chanceAbove_29 {scr : ScA}   {x3 : Int32} {x4 : Int32} {x5 : Int64} {x7 : Int32} {x8 : Int32} {y0 : Int64}  {σ : Nat → Nat → Int32} {P : Int64 → (Nat → Nat → Int32) → Prop} (H : ((lg_cmp y0 0) ≤ 0 → K_X9_chanceAbove_12 scr x3 x4 x5 x7 (x8 + 1) σ P) ∧ (¬ (lg_cmp y0 0) ≤ 0 → CiA scr 4 mX9_firstFall [.ref 106, .ref 3, .ref 10, .int x8] σ (fun r9 σ' => K_X9_chanceAbove_46 scr x3 x4 x5 x7 x8 y0 r9 σ' P))) : K_X9_chanceAbove_29 scr x3 x4 x5 x7 x8 y0 σ P := by
  show XA scr 5 mX9_chanceAbove 172 4705 29 [some (.ref 106), some (.ref 3), some (.ref 10), some (.int x3), some (.int x4), some (.long x5), none, some (.int x7), some (.int x8), none, none] [.long y0] (hs σ) (pJ P)
  refine XA.blk (e9 := 35) (ok := true) (ls' := [some (.ref 106), some (.ref 3), some (.ref 10), some (.int x3), some (.int x4), some (.long x5), none, some (.int x7), some (.int x8), some (.long y0), none]) (st' := [.int (lg_cmp y0 0)]) (h' := hs σ) [(.lstore 9, 2, 9, 0, 0, 0, 0, 0), (.lload 9, 2, 9, 0, 0, 0, 0, 0), (.lconst 0, 1, 0, 0, 0, 0, 0, 0), (.lcmp, 1, 0, 0, 0, 0, 0, 0)] (by decide +kernel) rfl rfl ?_
  refine XA.if_le (23) 58 (by decide +kernel) (fun c1 => ?_) (fun c1 => ?_)
  · have H := H.1 c1
    refine XA.blk (e9 := 12) (ok := true) (ls' := [some (.ref 106), some (.ref 3), some (.ref 10), some (.int x3), some (.int x4), some (.long x5), none, some (.int x7), some (.int (x8 + 1)), some (.long y0), none]) (st' := []) (h' := hs σ) [(.iinc 8 1, 3, 8, 0, 0, 0, 1, 0), (.goto (-49), 3, 12, 0, 0, 0, 0, 0)] (by decide +kernel) rfl rfl ?_
    exact XA.drop (by simp [leL]) H
  · have H := H.2 c1
    refine XA.blk (e9 := 43) (ok := true) (ls' := [some (.ref 106), some (.ref 3), some (.ref 10), some (.int x3), some (.int x4), some (.long x5), none, some (.int x7), some (.int x8), some (.long y0), none]) (st' := [.int x8, .ref 10, .ref 3, .ref 106]) (h' := hs σ) [(.aload_n 0, 1, 0, 0, 0, 0, 0, 0), (.aload_n 1, 1, 1, 0, 0, 0, 0, 0), (.aload_n 2, 1, 2, 0, 0, 0, 0, 0), (.iload 8, 2, 8, 0, 0, 0, 0, 0)] (by decide +kernel) rfl rfl ?_
    refine XA.callV (as := [.ref 3, .ref 10, .int x8]) (rest := []) (mc' := 0) (ms' := 0) (idx := 62) (t := 712) cv_X9_firstFall (by decide +kernel) rfl rfl rfl (Nat.le_of_ble_eq_true rfl) (Nat.le_of_ble_eq_true rfl) (Nat.le_of_ble_eq_true rfl) (Nat.le_of_ble_eq_true rfl) (H) (fun rv h' hp => ?_)
    obtain ⟨r9, s9, rfl, rfl, hK⟩ := hp
    exact ⟨rfl, rfl, hK⟩
set_option maxRecDepth 20000 in
theorem W_X9_chanceAbove_46 {scr : ScA}   {x3 : Int32} {x4 : Int32} {x5 : Int64} {x7 : Int32} {x8 : Int32} {x9 : Int64} {y0 : Int32}  {σ : Nat → Nat → Int32} {P : Int64 → (Nat → Nat → Int32) → Prop} (H : K_X9_chanceAbove_12 scr x3 x4 (if x4 < y0 then x5 else x5 + x9 : Int64) x7 (x8 + 1) σ P) : K_X9_chanceAbove_46 scr x3 x4 x5 x7 x8 x9 y0 σ P := by
  show XA scr 5 mX9_chanceAbove 172 4705 46 [some (.ref 106), some (.ref 3), some (.ref 10), some (.int x3), some (.int x4), some (.long x5), none, some (.int x7), some (.int x8), some (.long x9), none] [.int y0] (hs σ) (pJ P)
  refine XA.blk (e9 := 48) (ok := true) (ls' := [some (.ref 106), some (.ref 3), some (.ref 10), some (.int x3), some (.int x4), some (.long x5), none, some (.int x7), some (.int x8), some (.long x9), none]) (st' := [.int x4, .int y0]) (h' := hs σ) [(.iload 4, 2, 4, 0, 0, 0, 0, 0)] (by decide +kernel) rfl rfl ?_
  have hJ48 : XA scr 5 mX9_chanceAbove 172 4705 58 [some (.ref 106), some (.ref 3), some (.ref 10), some (.int x3), some (.int x4), some (.long (if x4 < y0 then x5 else x5 + x9 : Int64)), none, some (.int x7), some (.int x8), none, none] [] (hs σ) (pJ P) := by
    refine XA.blk (e9 := 12) (ok := true) (ls' := [some (.ref 106), some (.ref 3), some (.ref 10), some (.int x3), some (.int x4), some (.long (if x4 < y0 then x5 else x5 + x9 : Int64)), none, some (.int x7), some (.int (x8 + 1)), none, none]) (st' := []) (h' := hs σ) [(.iinc 8 1, 3, 8, 0, 0, 0, 1, 0), (.goto (-49), 3, 12, 0, 0, 0, 0, 0)] (by decide +kernel) rfl rfl ?_
    exact H
  refine XA.icmp_gt (10) 58 (by decide +kernel) (fun c1 => ?_) (fun c1 => ?_)
  · refine XA.drop (ls := [some (.ref 106), some (.ref 3), some (.ref 10), some (.int x3), some (.int x4), some (.long x5), none, some (.int x7), some (.int x8), none, none]) (by simp [leL]) ?_
    simpa only [if_pos c1] using hJ48
  · refine XA.blk (e9 := 58) (ok := true) (ls' := [some (.ref 106), some (.ref 3), some (.ref 10), some (.int x3), some (.int x4), some (.long (x5 + x9)), none, some (.int x7), some (.int x8), some (.long x9), none]) (st' := []) (h' := hs σ) [(.lload 5, 2, 5, 0, 0, 0, 0, 0), (.lload 9, 2, 9, 0, 0, 0, 0, 0), (.ladd, 1, 0, 0, 0, 0, 0, 0), (.lstore 5, 2, 5, 0, 0, 0, 0, 0)] (by decide +kernel) rfl rfl ?_
    refine XA.drop (ls := [some (.ref 106), some (.ref 3), some (.ref 10), some (.int x3), some (.int x4), some (.long (x5 + x9)), none, some (.int x7), some (.int x8), none, none]) (by simp [leL]) ?_
    simpa only [if_neg c1] using hJ48
theorem E_X9_chanceAbove {scr : ScA}  {x3 : Int32} {x4 : Int32} {σ : Nat → Nat → Int32} {P : Int64 → (Nat → Nat → Int32) → Prop} (h : K_X9_chanceAbove_0 scr x3 x4 σ P) : ClA scr 5 mX9_chanceAbove [.ref 106, .ref 3, .ref 10, .int x3, .int x4] σ P := CtA.of (by decide) (Nat.le_of_ble_eq_true rfl) (XA.drop (by simp [leL, enL]) h)
