def K_X10_forgetAnswers_0 (scr : ScA)   (σ : Nat → Nat → Int32) (P : (Nat → Nat → Int32) → Prop) : Prop := XA scr 2 mX10_forgetAnswers 172 4705 0 [some (.ref 0)] [] (hs σ) (pV P)
def K_X10_forgetAnswers_12 (scr : ScA)   (σ : Nat → Nat → Int32) (P : (Nat → Nat → Int32) → Prop) : Prop := XA scr 2 mX10_forgetAnswers 172 4705 12 [some (.ref 0)] [] (hs σ) (pV P)
def K_X10_forgetAnswers_19 (scr : ScA)   (σ : Nat → Nat → Int32) (P : (Nat → Nat → Int32) → Prop) : Prop := XA scr 2 mX10_forgetAnswers 172 4705 19 [some (.ref 0)] [] (hs σ) (pV P)
def K_X10_forgetAnswers_26 (scr : ScA)   (σ : Nat → Nat → Int32) (P : (Nat → Nat → Int32) → Prop) : Prop := XA scr 2 mX10_forgetAnswers 172 4705 26 [none] [] (hs σ) (pV P)
set_option maxRecDepth 20000 in
theorem W_X10_forgetAnswers_0 {scr : ScA}     {σ : Nat → Nat → Int32} {P : (Nat → Nat → Int32) → Prop} (H : ∀ σ1, σ1 = (su σ 0 12 0) → CvA scr 0 mX3_forgetAnswers [.ref 49] σ1 (fun σ' => K_X10_forgetAnswers_12 scr σ' P)) : K_X10_forgetAnswers_0 scr σ P := by
  show XA scr 2 mX10_forgetAnswers 172 4705 0 [some (.ref 0)] [] (hs σ) (pV P)
  refine XA.blk (e9 := 5) (ok := true) (ls' := [some (.ref 0)]) (st' := []) (h' := hs (su σ 0 12 0)) [(.aload_n 0, 1, 0, 0, 0, 0, 0, 0), (.iconst 0, 1, 0, 0, 0, 0, 0, 0), (.putfield 361, 3, 10, 12, 2, 410, 0, 0)] (by decide +kernel) rfl rfl ?_
  obtain ⟨σ1, hσ1⟩ : ∃ s9, s9 = (su σ 0 12 0) := ⟨_, rfl⟩
  rw [← hσ1]
  have H := H σ1 hσ1
  refine XA.blk (e9 := 9) (ok := true) (ls' := [some (.ref 0)]) (st' := [.ref 49]) (h' := hs σ1) [(.aload_n 0, 1, 0, 0, 0, 0, 0, 0), (.getfield 49, 3, 10, 5, 50, 403, 0, 0)] (by decide +kernel) rfl rfl ?_
  refine XA.callV (as := []) (rest := []) (mc' := 0) (ms' := 0) (idx := 364) (t := 483) cv_X3_forgetAnswers (by decide +kernel) rfl rfl rfl (Nat.le_of_ble_eq_true rfl) (Nat.le_of_ble_eq_true rfl) (Nat.le_of_ble_eq_true rfl) (Nat.le_of_ble_eq_true rfl) (H) (fun rv h' hp => ?_)
  obtain ⟨s9, rfl, rfl, hK⟩ := hp
  exact ⟨rfl, rfl, hK⟩
set_option maxRecDepth 20000 in
theorem W_X10_forgetAnswers_12 {scr : ScA}     {σ : Nat → Nat → Int32} {P : (Nat → Nat → Int32) → Prop} (H : CvA scr 1 mX2_forgetAnswers [.ref 77] σ (fun σ' => K_X10_forgetAnswers_19 scr σ' P)) : K_X10_forgetAnswers_12 scr σ P := by
  show XA scr 2 mX10_forgetAnswers 172 4705 12 [some (.ref 0)] [] (hs σ) (pV P)
  refine XA.blk (e9 := 16) (ok := true) (ls' := [some (.ref 0)]) (st' := [.ref 77]) (h' := hs σ) [(.aload_n 0, 1, 0, 0, 0, 0, 0, 0), (.getfield 56, 3, 10, 6, 78, 404, 0, 0)] (by decide +kernel) rfl rfl ?_
  refine XA.callV (as := []) (rest := []) (mc' := 0) (ms' := 0) (idx := 203) (t := 487) cv_X2_forgetAnswers (by decide +kernel) rfl rfl rfl (Nat.le_of_ble_eq_true rfl) (Nat.le_of_ble_eq_true rfl) (Nat.le_of_ble_eq_true rfl) (Nat.le_of_ble_eq_true rfl) (H) (fun rv h' hp => ?_)
  obtain ⟨s9, rfl, rfl, hK⟩ := hp
  exact ⟨rfl, rfl, hK⟩
set_option maxRecDepth 20000 in
theorem W_X10_forgetAnswers_19 {scr : ScA}     {σ : Nat → Nat → Int32} {P : (Nat → Nat → Int32) → Prop} (H : CvA scr 0 mX9_forgetAnswers [.ref 106] σ (fun σ' => K_X10_forgetAnswers_26 scr σ' P)) : K_X10_forgetAnswers_19 scr σ P := by
  show XA scr 2 mX10_forgetAnswers 172 4705 19 [some (.ref 0)] [] (hs σ) (pV P)
  refine XA.blk (e9 := 23) (ok := true) (ls' := [some (.ref 0)]) (st' := [.ref 106]) (h' := hs σ) [(.aload_n 0, 1, 0, 0, 0, 0, 0, 0), (.getfield 63, 3, 10, 7, 107, 405, 0, 0)] (by decide +kernel) rfl rfl ?_
  refine XA.callV (as := []) (rest := []) (mc' := 0) (ms' := 0) (idx := 365) (t := 488) cv_X9_forgetAnswers (by decide +kernel) rfl rfl rfl (Nat.le_of_ble_eq_true rfl) (Nat.le_of_ble_eq_true rfl) (Nat.le_of_ble_eq_true rfl) (Nat.le_of_ble_eq_true rfl) (H) (fun rv h' hp => ?_)
  obtain ⟨s9, rfl, rfl, hK⟩ := hp
  exact ⟨rfl, rfl, XA.drop (by simp [leL]) hK⟩
set_option maxRecDepth 20000 in
theorem W_X10_forgetAnswers_26 {scr : ScA}     {σ : Nat → Nat → Int32} {P : (Nat → Nat → Int32) → Prop} (H : P σ) : K_X10_forgetAnswers_26 scr σ P := by
  show XA scr 2 mX10_forgetAnswers 172 4705 26 [none] [] (hs σ) (pV P)
  exact XA.ret none rfl (show ckRt mX10_forgetAnswers 26 .return_ = true by decide +kernel) trivial (Nat.le_of_ble_eq_true rfl) (Nat.le_of_ble_eq_true rfl) ⟨_, rfl, rfl, H⟩
theorem E_X10_forgetAnswers {scr : ScA}   {σ : Nat → Nat → Int32} {P : (Nat → Nat → Int32) → Prop} (h : K_X10_forgetAnswers_0 scr σ P) : CvA scr 2 mX10_forgetAnswers [.ref 0] σ P := CtA.of (by decide) (Nat.le_of_ble_eq_true rfl) (XA.drop (by simp [leL, enL]) h)
def K_X10_played_0 (scr : ScA)   (σ : Nat → Nat → Int32) (P : Nat → (Nat → Nat → Int32) → Prop) : Prop := XA scr 4 mX10_played 172 4705 0 [some (.ref 0)] [] (hs σ) (pR P)
def K_X10_played_30 (scr : ScA)   (σ : Nat → Nat → Int32) (P : Nat → (Nat → Nat → Int32) → Prop) : Prop := XA scr 4 mX10_played 172 4705 30 [some (.ref 0)] [] (hs σ) (pR P)
set_option maxRecDepth 20000 in
theorem W_X10_played_0 {scr : ScA}     {σ : Nat → Nat → Int32} {P : Nat → (Nat → Nat → Int32) → Prop} (H : (¬ (σ 0 12) = 0 → P 18 σ) ∧ ((σ 0 12) = 0 → CvA scr 3 mX5_play [.ref 18, .ref 3, .ref 10, .int (((1 : Int32) <<< ((σ 10 3) &&& 31)) - 1), .int 0] σ (fun σ' => K_X10_played_30 scr σ' P))) : K_X10_played_0 scr σ P := by
  show XA scr 4 mX10_played 172 4705 0 [some (.ref 0)] [] (hs σ) (pR P)
  refine XA.blk (e9 := 4) (ok := true) (ls' := [some (.ref 0)]) (st' := [.int (σ 0 12)]) (h' := hs σ) [(.aload_n 0, 1, 0, 0, 0, 0, 0, 0), (.getfield 361, 3, 10, 12, 0, 410, 0, 0)] (by decide +kernel) rfl rfl ?_
  refine XA.if_ne (31) 35 (by decide +kernel) (fun c1 => ?_) (fun c1 => ?_)
  · have H := H.1 c1
    refine XA.blk (e9 := 39) (ok := true) (ls' := [some (.ref 0)]) (st' := [.ref 18]) (h' := hs σ) [(.aload_n 0, 1, 0, 0, 0, 0, 0, 0), (.getfield 42, 3, 10, 4, 19, 402, 0, 0)] (by decide +kernel) rfl rfl ?_
    exact XA.ret (some (.ref 18)) rfl (show ckRt mX10_played 39 .areturn = true by decide +kernel) trivial (Nat.le_of_ble_eq_true rfl) (Nat.le_of_ble_eq_true rfl) ⟨_, _, rfl, rfl, H⟩
  · have H := H.2 c1
    refine XA.blk (e9 := 23) (ok := true) (ls' := [some (.ref 0)]) (st' := [.ref 10, .ref 10, .ref 3, .ref 18]) (h' := hs σ) [(.aload_n 0, 1, 0, 0, 0, 0, 0, 0), (.getfield 42, 3, 10, 4, 19, 402, 0, 0), (.aload_n 0, 1, 0, 0, 0, 0, 0, 0), (.getfield 19, 3, 10, 1, 4, 399, 0, 0), (.aload_n 0, 1, 0, 0, 0, 0, 0, 0), (.getfield 26, 3, 10, 2, 11, 400, 0, 0), (.aload_n 0, 1, 0, 0, 0, 0, 0, 0), (.getfield 26, 3, 10, 2, 11, 400, 0, 0)] (by decide +kernel) rfl rfl ?_
    refine XA.callV (as := []) (rest := [.ref 10, .ref 3, .ref 18]) (mc' := 0) (ms' := 0) (idx := 235) (t := 542) cv_X1_allBits (by decide +kernel) rfl rfl rfl (Nat.le_of_ble_eq_true rfl) (Nat.le_of_ble_eq_true rfl) (Nat.le_of_ble_eq_true rfl) (Nat.le_of_ble_eq_true rfl) (pu_X1_allBits scr σ (by unfold isEv; omega) ) (fun rv h' hp => ?_)
    obtain ⟨rfl, rfl⟩ := hp
    refine ⟨rfl, rfl, ?_⟩
    show XA scr 4 mX10_played 172 4705 26 [some (.ref 0)] [.int (((1 : Int32) <<< ((σ 10 3) &&& 31)) - 1), .ref 10, .ref 3, .ref 18] (hs σ) (pR P)
    refine XA.blk (e9 := 27) (ok := true) (ls' := [some (.ref 0)]) (st' := [.int 0, .int (((1 : Int32) <<< ((σ 10 3) &&& 31)) - 1), .ref 10, .ref 3, .ref 18]) (h' := hs σ) [(.iconst 0, 1, 0, 0, 0, 0, 0, 0)] (by decide +kernel) rfl rfl ?_
    refine XA.callV (as := [.ref 3, .ref 10, .int (((1 : Int32) <<< ((σ 10 3) &&& 31)) - 1), .int 0]) (rest := []) (mc' := 0) (ms' := 0) (idx := 239) (t := 546) cv_X5_play (by decide +kernel) rfl rfl rfl (Nat.le_of_ble_eq_true rfl) (Nat.le_of_ble_eq_true rfl) (Nat.le_of_ble_eq_true rfl) (Nat.le_of_ble_eq_true rfl) (H) (fun rv h' hp => ?_)
    obtain ⟨s9, rfl, rfl, hK⟩ := hp
    exact ⟨rfl, rfl, hK⟩
set_option maxRecDepth 20000 in
theorem W_X10_played_30 {scr : ScA}     {σ : Nat → Nat → Int32} {P : Nat → (Nat → Nat → Int32) → Prop} (H : ∀ σ1, σ1 = (su σ 0 12 1) → P 18 σ1) : K_X10_played_30 scr σ P := by
  show XA scr 4 mX10_played 172 4705 30 [some (.ref 0)] [] (hs σ) (pR P)
  refine XA.blk (e9 := 35) (ok := true) (ls' := [some (.ref 0)]) (st' := []) (h' := hs (su σ 0 12 1)) [(.aload_n 0, 1, 0, 0, 0, 0, 0, 0), (.iconst 1, 1, 0, 0, 0, 0, 1, 0), (.putfield 361, 3, 10, 12, 2, 410, 0, 0)] (by decide +kernel) rfl rfl ?_
  obtain ⟨σ1, hσ1⟩ : ∃ s9, s9 = (su σ 0 12 1) := ⟨_, rfl⟩
  rw [← hσ1]
  have H := H σ1 hσ1
  refine XA.blk (e9 := 39) (ok := true) (ls' := [some (.ref 0)]) (st' := [.ref 18]) (h' := hs σ1) [(.aload_n 0, 1, 0, 0, 0, 0, 0, 0), (.getfield 42, 3, 10, 4, 19, 402, 0, 0)] (by decide +kernel) rfl rfl ?_
  exact XA.ret (some (.ref 18)) rfl (show ckRt mX10_played 39 .areturn = true by decide +kernel) trivial (Nat.le_of_ble_eq_true rfl) (Nat.le_of_ble_eq_true rfl) ⟨_, _, rfl, rfl, H⟩
theorem E_X10_played {scr : ScA}   {σ : Nat → Nat → Int32} {P : Nat → (Nat → Nat → Int32) → Prop} (h : K_X10_played_0 scr σ P) : CrA scr 4 mX10_played [.ref 0] σ P := CtA.of (by decide) (Nat.le_of_ble_eq_true rfl) (XA.drop (by simp [leL, enL]) h)
