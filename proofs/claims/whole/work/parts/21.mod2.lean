def K_X11_most_0 (scr : ScA)  (x1 : Int32) (σ : Nat → Nat → Int32) (P : Int32 → (Nat → Nat → Int32) → Prop) : Prop := XA scr 8 mX11_most 172 4705 0 [some (.ref 136), some (.int x1)] [] (hs σ) (pI P)
def K_X11_most_12 (scr : ScA)  (y0 : Int32) (σ : Nat → Nat → Int32) (P : Int32 → (Nat → Nat → Int32) → Prop) : Prop := XA scr 8 mX11_most 172 4705 12 [none, none] [.int y0] (hs σ) (pI P)
set_option maxRecDepth 20000 in
theorem W_X11_most_0 {scr : ScA}   {x1 : Int32}  {σ : Nat → Nat → Int32} {P : Int32 → (Nat → Nat → Int32) → Prop} (H : ((inV x1 0 1) = 0 → P (-2) σ) ∧ (¬ (inV x1 0 1) = 0 → CiA scr 7 mX11_mostOf [.ref 136, .int x1] σ (fun r9 σ' => K_X11_most_12 scr r9 σ' P))) : K_X11_most_0 scr x1 σ P := by
  show XA scr 8 mX11_most 172 4705 0 [some (.ref 136), some (.int x1)] [] (hs σ) (pI P)
  refine XA.blk (e9 := 1) (ok := true) (ls' := [some (.ref 136), some (.int x1)]) (st' := [.int x1]) (h' := hs σ) [(.iload_n 1, 1, 1, 0, 0, 0, 0, 0)] (by decide +kernel) rfl rfl ?_
  refine XA.callS (as := [.int x1]) (rest := []) (mc' := 0) (ms' := 0) (idx := 256) (t := 1203) cs_X11_isTwo (by decide +kernel) rfl rfl (Nat.le_of_ble_eq_true rfl) (Nat.le_of_ble_eq_true rfl) (Nat.le_of_ble_eq_true rfl) (Nat.le_of_ble_eq_true rfl) (pu_X11_isTwo scr σ x1) (fun rv h' hp => ?_)
  obtain ⟨rfl, rfl⟩ := hp
  refine ⟨rfl, rfl, ?_⟩
  show XA scr 8 mX11_most 172 4705 4 [some (.ref 136), some (.int x1)] [.int (inV x1 0 1)] (hs σ) (pI P)
  refine XA.if_eq (11) 15 (by decide +kernel) (fun c1 => ?_) (fun c1 => ?_)
  · have H := H.1 c1
    refine XA.blk (e9 := 17) (ok := true) (ls' := [some (.ref 136), some (.int x1)]) (st' := [.int (-2)]) (h' := hs σ) [(.bipush (-2), 2, 0, 0, 0, 0, (-2), 0)] (by decide +kernel) rfl rfl ?_
    exact XA.ret (some (.int (-2))) rfl (show ckRt mX11_most 17 .ireturn = true by decide +kernel) trivial (Nat.le_of_ble_eq_true rfl) (Nat.le_of_ble_eq_true rfl) ⟨_, _, rfl, rfl, H⟩
  · have H := H.2 c1
    refine XA.blk (e9 := 9) (ok := true) (ls' := [some (.ref 136), some (.int x1)]) (st' := [.int x1, .ref 136]) (h' := hs σ) [(.aload_n 0, 1, 0, 0, 0, 0, 0, 0), (.iload_n 1, 1, 1, 0, 0, 0, 0, 0)] (by decide +kernel) rfl rfl ?_
    refine XA.callV (as := [.int x1]) (rest := []) (mc' := 0) (ms' := 0) (idx := 268) (t := 1230) cv_X11_mostOf (by decide +kernel) rfl rfl rfl (Nat.le_of_ble_eq_true rfl) (Nat.le_of_ble_eq_true rfl) (Nat.le_of_ble_eq_true rfl) (Nat.le_of_ble_eq_true rfl) (H) (fun rv h' hp => ?_)
    obtain ⟨r9, s9, rfl, rfl, hK⟩ := hp
    exact ⟨rfl, rfl, XA.drop (by simp [leL]) hK⟩
set_option maxRecDepth 20000 in
theorem W_X11_most_12 {scr : ScA}   {y0 : Int32}  {σ : Nat → Nat → Int32} {P : Int32 → (Nat → Nat → Int32) → Prop} (H : P y0 σ) : K_X11_most_12 scr y0 σ P := by
  show XA scr 8 mX11_most 172 4705 12 [none, none] [.int y0] (hs σ) (pI P)
  refine XA.blk (e9 := 17) (ok := true) (ls' := [none, none]) (st' := [.int y0]) (h' := hs σ) [(.goto 5, 3, 17, 0, 0, 0, 0, 0)] (by decide +kernel) rfl rfl ?_
  exact XA.ret (some (.int y0)) rfl (show ckRt mX11_most 17 .ireturn = true by decide +kernel) trivial (Nat.le_of_ble_eq_true rfl) (Nat.le_of_ble_eq_true rfl) ⟨_, _, rfl, rfl, H⟩
theorem E_X11_most {scr : ScA}  {x1 : Int32} {σ : Nat → Nat → Int32} {P : Int32 → (Nat → Nat → Int32) → Prop} (h : K_X11_most_0 scr x1 σ P) : CiA scr 8 mX11_most [.ref 136, .int x1] σ P := CtA.of (by decide) (Nat.le_of_ble_eq_true rfl) (XA.drop (by simp [leL, enL]) h)
def K_X11_clumsyOf_0 (scr : ScA)   (σ : Nat → Nat → Int32) (P : Int32 → (Nat → Nat → Int32) → Prop) : Prop := XA scr 7 mX11_clumsyOf 172 4705 0 [some (.ref 136), none, none, none] [] (hs σ) (pI P)
def K_X11_clumsyOf_4 (scr : ScA)   (σ : Nat → Nat → Int32) (P : Int32 → (Nat → Nat → Int32) → Prop) : Prop := XA scr 7 mX11_clumsyOf 172 4705 4 [some (.ref 136), none, none, none] [] (hs σ) (pI P)
def K_X11_clumsyOf_10 (scr : ScA)  (x1 : Int32) (x2 : Int32) (x3 : Int32) (σ : Nat → Nat → Int32) (P : Int32 → (Nat → Nat → Int32) → Prop) : Prop := XA scr 7 mX11_clumsyOf 172 4705 10 [some (.ref 136), some (.int x1), some (.int x2), some (.int x3)] [] (hs σ) (pI P)
set_option maxRecDepth 20000 in
theorem W_X11_clumsyOf_0 {scr : ScA}     {σ : Nat → Nat → Int32} {P : Int32 → (Nat → Nat → Int32) → Prop} (H : CvA scr 6 mX11_runsTold [.ref 136] σ (fun σ' => K_X11_clumsyOf_4 scr σ' P)) : K_X11_clumsyOf_0 scr σ P := by
  show XA scr 7 mX11_clumsyOf 172 4705 0 [some (.ref 136), none, none, none] [] (hs σ) (pI P)
  refine XA.blk (e9 := 1) (ok := true) (ls' := [some (.ref 136), none, none, none]) (st' := [.ref 136]) (h' := hs σ) [(.aload_n 0, 1, 0, 0, 0, 0, 0, 0)] (by decide +kernel) rfl rfl ?_
  refine XA.callV (as := []) (rest := []) (mc' := 0) (ms' := 0) (idx := 247) (t := 1145) cv_X11_runsTold (by decide +kernel) rfl rfl rfl (Nat.le_of_ble_eq_true rfl) (Nat.le_of_ble_eq_true rfl) (Nat.le_of_ble_eq_true rfl) (Nat.le_of_ble_eq_true rfl) (H) (fun rv h' hp => ?_)
  obtain ⟨s9, rfl, rfl, hK⟩ := hp
  exact ⟨rfl, rfl, hK⟩
set_option maxRecDepth 20000 in
theorem W_X11_clumsyOf_4 {scr : ScA}     {σ : Nat → Nat → Int32} {P : Int32 → (Nat → Nat → Int32) → Prop} (H : K_X11_clumsyOf_10 scr (-1) 0 0 σ P) : K_X11_clumsyOf_4 scr σ P := by
  show XA scr 7 mX11_clumsyOf 172 4705 4 [some (.ref 136), none, none, none] [] (hs σ) (pI P)
  refine XA.blk (e9 := 10) (ok := true) (ls' := [some (.ref 136), some (.int (-1)), some (.int 0), some (.int 0)]) (st' := []) (h' := hs σ) [(.iconst (-1), 1, 0, 0, 0, 0, (-1), 0), (.istore_n 1, 1, 1, 0, 0, 0, 0, 0), (.iconst 0, 1, 0, 0, 0, 0, 0, 0), (.istore_n 2, 1, 2, 0, 0, 0, 0, 0), (.iconst 0, 1, 0, 0, 0, 0, 0, 0), (.istore_n 3, 1, 3, 0, 0, 0, 0, 0)] (by decide +kernel) rfl rfl ?_
  exact H
set_option maxRecDepth 20000 in
theorem W_X11_clumsyOf_10 {scr : ScA}   {x1 : Int32} {x2 : Int32} {x3 : Int32}  {σ : Nat → Nat → Int32} {P : Int32 → (Nat → Nat → Int32) → Prop} (H : ((σ 136 2) ≤ x3 → P x1 σ) ∧ (¬ (σ 136 2) ≤ x3 → (inB x3 10 = true) ∧ (K_X11_clumsyOf_10 scr (if (σ 152 (Int32.toNatClampNeg x3)) ≤ x2 then x1 else x3 : Int32) (if (σ 152 (Int32.toNatClampNeg x3)) ≤ x2 then x2 else σ 152 (Int32.toNatClampNeg x3) : Int32) (x3 + 1) σ P))) : K_X11_clumsyOf_10 scr x1 x2 x3 σ P := by
  show XA scr 7 mX11_clumsyOf 172 4705 10 [some (.ref 136), some (.int x1), some (.int x2), some (.int x3)] [] (hs σ) (pI P)
  refine XA.blk (e9 := 15) (ok := true) (ls' := [some (.ref 136), some (.int x1), some (.int x2), some (.int x3)]) (st' := [.int (σ 136 2), .int x3]) (h' := hs σ) [(.iload_n 3, 1, 3, 0, 0, 0, 0, 0), (.aload_n 0, 1, 0, 0, 0, 0, 0, 0), (.getfield 141, 3, 11, 2, 0, 895, 0, 0)] (by decide +kernel) rfl rfl ?_
  refine XA.icmp_ge (46) 61 (by decide +kernel) (fun c1 => ?_) (fun c1 => ?_)
  · have H := H.1 c1
    refine XA.blk (e9 := 62) (ok := true) (ls' := [some (.ref 136), some (.int x1), some (.int x2), some (.int x3)]) (st' := [.int x1]) (h' := hs σ) [(.iload_n 1, 1, 1, 0, 0, 0, 0, 0)] (by decide +kernel) rfl rfl ?_
    exact XA.ret (some (.int x1)) rfl (show ckRt mX11_clumsyOf 62 .ireturn = true by decide +kernel) trivial (Nat.le_of_ble_eq_true rfl) (Nat.le_of_ble_eq_true rfl) ⟨_, _, rfl, rfl, H⟩
  · have H := H.2 c1
    obtain ⟨o1, H⟩ := H
    refine XA.blk (e9 := 25) (ok := inB x3 10 && (true)) (ls' := [some (.ref 136), some (.int x1), some (.int x2), some (.int x3)]) (st' := [.int x2, .int (σ 152 (Int32.toNatClampNeg x3))]) (h' := hs σ) [(.aload_n 0, 1, 0, 0, 0, 0, 0, 0), (.getfield 55, 3, 11, 30, 17, 923, 0, 0), (.iload_n 3, 1, 3, 0, 0, 0, 0, 0), (.iaload, 1, 0, 0, 0, 0, 0, 0), (.iload_n 2, 1, 2, 0, 0, 0, 0, 0)] (by decide +kernel) rfl (by simp only [o1, Bool.and_true, Bool.true_and]) ?_
    have hJ25 : XA scr 7 mX11_clumsyOf 172 4705 33 [some (.ref 136), none, some (.int x2), some (.int x3)] [.int (if (σ 152 (Int32.toNatClampNeg x3)) ≤ x2 then x1 else x3 : Int32)] (hs σ) (pI P) := by
      refine XA.blk (e9 := 41) (ok := inB x3 10 && (true)) (ls' := [some (.ref 136), some (.int (if (σ 152 (Int32.toNatClampNeg x3)) ≤ x2 then x1 else x3 : Int32)), some (.int x2), some (.int x3)]) (st' := [.int x2, .int (σ 152 (Int32.toNatClampNeg x3))]) (h' := hs σ) [(.istore_n 1, 1, 1, 0, 0, 0, 0, 0), (.aload_n 0, 1, 0, 0, 0, 0, 0, 0), (.getfield 55, 3, 11, 30, 17, 923, 0, 0), (.iload_n 3, 1, 3, 0, 0, 0, 0, 0), (.iaload, 1, 0, 0, 0, 0, 0, 0), (.iload_n 2, 1, 2, 0, 0, 0, 0, 0)] (by decide +kernel) rfl (by simp only [o1, Bool.and_true, Bool.true_and]) ?_
      have hJ41 : XA scr 7 mX11_clumsyOf 172 4705 54 [some (.ref 136), some (.int (if (σ 152 (Int32.toNatClampNeg x3)) ≤ x2 then x1 else x3 : Int32)), none, some (.int x3)] [.int (if (σ 152 (Int32.toNatClampNeg x3)) ≤ x2 then x2 else σ 152 (Int32.toNatClampNeg x3) : Int32)] (hs σ) (pI P) := by
        refine XA.blk (e9 := 10) (ok := true) (ls' := [some (.ref 136), some (.int (if (σ 152 (Int32.toNatClampNeg x3)) ≤ x2 then x1 else x3 : Int32)), some (.int (if (σ 152 (Int32.toNatClampNeg x3)) ≤ x2 then x2 else σ 152 (Int32.toNatClampNeg x3) : Int32)), some (.int (x3 + 1))]) (st' := []) (h' := hs σ) [(.istore_n 2, 1, 2, 0, 0, 0, 0, 0), (.iinc 3 1, 3, 3, 0, 0, 0, 1, 0), (.goto (-48), 3, 10, 0, 0, 0, 0, 0)] (by decide +kernel) rfl rfl ?_
        exact H
      refine XA.icmp_le (12) 53 (by decide +kernel) (fun c2 => ?_) (fun c2 => ?_)
      · refine XA.blk (e9 := 54) (ok := true) (ls' := [some (.ref 136), some (.int (if (σ 152 (Int32.toNatClampNeg x3)) ≤ x2 then x1 else x3 : Int32)), some (.int x2), some (.int x3)]) (st' := [.int x2]) (h' := hs σ) [(.iload_n 2, 1, 2, 0, 0, 0, 0, 0)] (by decide +kernel) rfl rfl ?_
        refine XA.drop (ls := [some (.ref 136), some (.int (if (σ 152 (Int32.toNatClampNeg x3)) ≤ x2 then x1 else x3 : Int32)), none, some (.int x3)]) (by simp [leL]) ?_
        simpa only [if_pos c2] using hJ41
      · refine XA.blk (e9 := 54) (ok := inB x3 10 && (true)) (ls' := [some (.ref 136), some (.int (if (σ 152 (Int32.toNatClampNeg x3)) ≤ x2 then x1 else x3 : Int32)), some (.int x2), some (.int x3)]) (st' := [.int (σ 152 (Int32.toNatClampNeg x3))]) (h' := hs σ) [(.aload_n 0, 1, 0, 0, 0, 0, 0, 0), (.getfield 55, 3, 11, 30, 17, 923, 0, 0), (.iload_n 3, 1, 3, 0, 0, 0, 0, 0), (.iaload, 1, 0, 0, 0, 0, 0, 0), (.goto 4, 3, 54, 0, 0, 0, 0, 0)] (by decide +kernel) rfl (by simp only [o1, Bool.and_true, Bool.true_and]) ?_
        refine XA.drop (ls := [some (.ref 136), some (.int (if (σ 152 (Int32.toNatClampNeg x3)) ≤ x2 then x1 else x3 : Int32)), none, some (.int x3)]) (by simp [leL]) ?_
        simpa only [if_neg c2] using hJ41
    refine XA.icmp_le (7) 32 (by decide +kernel) (fun c2 => ?_) (fun c2 => ?_)
    · refine XA.blk (e9 := 33) (ok := true) (ls' := [some (.ref 136), some (.int x1), some (.int x2), some (.int x3)]) (st' := [.int x1]) (h' := hs σ) [(.iload_n 1, 1, 1, 0, 0, 0, 0, 0)] (by decide +kernel) rfl rfl ?_
      refine XA.drop (ls := [some (.ref 136), none, some (.int x2), some (.int x3)]) (by simp [leL]) ?_
      simpa only [if_pos c2] using hJ25
    · refine XA.blk (e9 := 33) (ok := true) (ls' := [some (.ref 136), some (.int x1), some (.int x2), some (.int x3)]) (st' := [.int x3]) (h' := hs σ) [(.iload_n 3, 1, 3, 0, 0, 0, 0, 0), (.goto 4, 3, 33, 0, 0, 0, 0, 0)] (by decide +kernel) rfl rfl ?_
      refine XA.drop (ls := [some (.ref 136), none, some (.int x2), some (.int x3)]) (by simp [leL]) ?_
      simpa only [if_neg c2] using hJ25
theorem E_X11_clumsyOf {scr : ScA}   {σ : Nat → Nat → Int32} {P : Int32 → (Nat → Nat → Int32) → Prop} (h : K_X11_clumsyOf_0 scr σ P) : CiA scr 7 mX11_clumsyOf [.ref 136] σ P := CtA.of (by decide) (Nat.le_of_ble_eq_true rfl) (XA.drop (by simp [leL, enL]) h)
def K_X11_clumsy_0 (scr : ScA)   (σ : Nat → Nat → Int32) (P : Int32 → (Nat → Nat → Int32) → Prop) : Prop := XA scr 8 mX11_clumsy 172 4705 0 [some (.ref 136)] [] (hs σ) (pI P)
def K_X11_clumsy_4 (scr : ScA)  (y0 : Int32) (σ : Nat → Nat → Int32) (P : Int32 → (Nat → Nat → Int32) → Prop) : Prop := XA scr 8 mX11_clumsy 172 4705 4 [none] [.int y0] (hs σ) (pI P)
set_option maxRecDepth 20000 in
theorem W_X11_clumsy_0 {scr : ScA}     {σ : Nat → Nat → Int32} {P : Int32 → (Nat → Nat → Int32) → Prop} (H : CiA scr 7 mX11_clumsyOf [.ref 136] σ (fun r9 σ' => K_X11_clumsy_4 scr r9 σ' P)) : K_X11_clumsy_0 scr σ P := by
  show XA scr 8 mX11_clumsy 172 4705 0 [some (.ref 136)] [] (hs σ) (pI P)
  refine XA.blk (e9 := 1) (ok := true) (ls' := [some (.ref 136)]) (st' := [.ref 136]) (h' := hs σ) [(.aload_n 0, 1, 0, 0, 0, 0, 0, 0)] (by decide +kernel) rfl rfl ?_
  refine XA.callV (as := []) (rest := []) (mc' := 0) (ms' := 0) (idx := 271) (t := 1238) cv_X11_clumsyOf (by decide +kernel) rfl rfl rfl (Nat.le_of_ble_eq_true rfl) (Nat.le_of_ble_eq_true rfl) (Nat.le_of_ble_eq_true rfl) (Nat.le_of_ble_eq_true rfl) (H) (fun rv h' hp => ?_)
  obtain ⟨r9, s9, rfl, rfl, hK⟩ := hp
  exact ⟨rfl, rfl, XA.drop (by simp [leL]) hK⟩
set_option maxRecDepth 20000 in
theorem W_X11_clumsy_4 {scr : ScA}   {y0 : Int32}  {σ : Nat → Nat → Int32} {P : Int32 → (Nat → Nat → Int32) → Prop} (H : P y0 σ) : K_X11_clumsy_4 scr y0 σ P := by
  show XA scr 8 mX11_clumsy 172 4705 4 [none] [.int y0] (hs σ) (pI P)
  exact XA.ret (some (.int y0)) rfl (show ckRt mX11_clumsy 4 .ireturn = true by decide +kernel) trivial (Nat.le_of_ble_eq_true rfl) (Nat.le_of_ble_eq_true rfl) ⟨_, _, rfl, rfl, H⟩
theorem E_X11_clumsy {scr : ScA}   {σ : Nat → Nat → Int32} {P : Int32 → (Nat → Nat → Int32) → Prop} (h : K_X11_clumsy_0 scr σ P) : CiA scr 8 mX11_clumsy [.ref 136] σ P := CtA.of (by decide) (Nat.le_of_ble_eq_true rfl) (XA.drop (by simp [leL, enL]) h)
def K_X11_downOf_0 (scr : ScA)   (σ : Nat → Nat → Int32) (P : Int32 → (Nat → Nat → Int32) → Prop) : Prop := XA scr 7 mX11_downOf 172 4705 0 [some (.ref 136)] [] (hs σ) (pI P)
def K_X11_downOf_4 (scr : ScA)   (σ : Nat → Nat → Int32) (P : Int32 → (Nat → Nat → Int32) → Prop) : Prop := XA scr 7 mX11_downOf 172 4705 4 [some (.ref 136)] [] (hs σ) (pI P)
set_option maxRecDepth 20000 in
theorem W_X11_downOf_0 {scr : ScA}     {σ : Nat → Nat → Int32} {P : Int32 → (Nat → Nat → Int32) → Prop} (H : CvA scr 6 mX11_runsTold [.ref 136] σ (fun σ' => K_X11_downOf_4 scr σ' P)) : K_X11_downOf_0 scr σ P := by
  show XA scr 7 mX11_downOf 172 4705 0 [some (.ref 136)] [] (hs σ) (pI P)
  refine XA.blk (e9 := 1) (ok := true) (ls' := [some (.ref 136)]) (st' := [.ref 136]) (h' := hs σ) [(.aload_n 0, 1, 0, 0, 0, 0, 0, 0)] (by decide +kernel) rfl rfl ?_
  refine XA.callV (as := []) (rest := []) (mc' := 0) (ms' := 0) (idx := 247) (t := 1145) cv_X11_runsTold (by decide +kernel) rfl rfl rfl (Nat.le_of_ble_eq_true rfl) (Nat.le_of_ble_eq_true rfl) (Nat.le_of_ble_eq_true rfl) (Nat.le_of_ble_eq_true rfl) (H) (fun rv h' hp => ?_)
  obtain ⟨s9, rfl, rfl, hK⟩ := hp
  exact ⟨rfl, rfl, hK⟩
set_option maxRecDepth 20000 in
theorem W_X11_downOf_4 {scr : ScA}     {σ : Nat → Nat → Int32} {P : Int32 → (Nat → Nat → Int32) → Prop} (H : P ((((1 : Int32) <<< ((σ 136 2) &&& 31)) - 1) &&& ((σ 136 24) ^^^ (-1))) σ) : K_X11_downOf_4 scr σ P := by
  show XA scr 7 mX11_downOf 172 4705 4 [some (.ref 136)] [] (hs σ) (pI P)
  refine XA.blk (e9 := 19) (ok := true) (ls' := [some (.ref 136)]) (st' := [.int ((((1 : Int32) <<< ((σ 136 2) &&& 31)) - 1) &&& ((σ 136 24) ^^^ (-1)))]) (h' := hs σ) [(.iconst 1, 1, 0, 0, 0, 0, 1, 0), (.aload_n 0, 1, 0, 0, 0, 0, 0, 0), (.getfield 141, 3, 11, 2, 0, 895, 0, 0), (.ishl, 1, 0, 0, 0, 0, 0, 0), (.iconst 1, 1, 0, 0, 0, 0, 1, 0), (.isub, 1, 0, 0, 0, 0, 0, 0), (.aload_n 0, 1, 0, 0, 0, 0, 0, 0), (.getfield 211, 3, 11, 24, 0, 917, 0, 0), (.iconst (-1), 1, 0, 0, 0, 0, (-1), 0), (.ixor, 1, 0, 0, 0, 0, 0, 0), (.iand, 1, 0, 0, 0, 0, 0, 0)] (by decide +kernel) rfl rfl ?_
  exact XA.ret (some (.int ((((1 : Int32) <<< ((σ 136 2) &&& 31)) - 1) &&& ((σ 136 24) ^^^ (-1))))) rfl (show ckRt mX11_downOf 19 .ireturn = true by decide +kernel) trivial (Nat.le_of_ble_eq_true rfl) (Nat.le_of_ble_eq_true rfl) ⟨_, _, rfl, rfl, H⟩
theorem E_X11_downOf {scr : ScA}   {σ : Nat → Nat → Int32} {P : Int32 → (Nat → Nat → Int32) → Prop} (h : K_X11_downOf_0 scr σ P) : CiA scr 7 mX11_downOf [.ref 136] σ P := CtA.of (by decide) (Nat.le_of_ble_eq_true rfl) (XA.drop (by simp [leL, enL]) h)
def K_X11_down_0 (scr : ScA)   (σ : Nat → Nat → Int32) (P : Int32 → (Nat → Nat → Int32) → Prop) : Prop := XA scr 8 mX11_down 172 4705 0 [some (.ref 136)] [] (hs σ) (pI P)
def K_X11_down_4 (scr : ScA)  (y0 : Int32) (σ : Nat → Nat → Int32) (P : Int32 → (Nat → Nat → Int32) → Prop) : Prop := XA scr 8 mX11_down 172 4705 4 [none] [.int y0] (hs σ) (pI P)
set_option maxRecDepth 20000 in
theorem W_X11_down_0 {scr : ScA}     {σ : Nat → Nat → Int32} {P : Int32 → (Nat → Nat → Int32) → Prop} (H : CiA scr 7 mX11_downOf [.ref 136] σ (fun r9 σ' => K_X11_down_4 scr r9 σ' P)) : K_X11_down_0 scr σ P := by
  show XA scr 8 mX11_down 172 4705 0 [some (.ref 136)] [] (hs σ) (pI P)
  refine XA.blk (e9 := 1) (ok := true) (ls' := [some (.ref 136)]) (st' := [.ref 136]) (h' := hs σ) [(.aload_n 0, 1, 0, 0, 0, 0, 0, 0)] (by decide +kernel) rfl rfl ?_
  refine XA.callV (as := []) (rest := []) (mc' := 0) (ms' := 0) (idx := 274) (t := 1246) cv_X11_downOf (by decide +kernel) rfl rfl rfl (Nat.le_of_ble_eq_true rfl) (Nat.le_of_ble_eq_true rfl) (Nat.le_of_ble_eq_true rfl) (Nat.le_of_ble_eq_true rfl) (H) (fun rv h' hp => ?_)
  obtain ⟨r9, s9, rfl, rfl, hK⟩ := hp
  exact ⟨rfl, rfl, XA.drop (by simp [leL]) hK⟩
set_option maxRecDepth 20000 in
theorem W_X11_down_4 {scr : ScA}   {y0 : Int32}  {σ : Nat → Nat → Int32} {P : Int32 → (Nat → Nat → Int32) → Prop} (H : P y0 σ) : K_X11_down_4 scr y0 σ P := by
  show XA scr 8 mX11_down 172 4705 4 [none] [.int y0] (hs σ) (pI P)
  exact XA.ret (some (.int y0)) rfl (show ckRt mX11_down 4 .ireturn = true by decide +kernel) trivial (Nat.le_of_ble_eq_true rfl) (Nat.le_of_ble_eq_true rfl) ⟨_, _, rfl, rfl, H⟩
theorem E_X11_down {scr : ScA}   {σ : Nat → Nat → Int32} {P : Int32 → (Nat → Nat → Int32) → Prop} (h : K_X11_down_0 scr σ P) : CiA scr 8 mX11_down [.ref 136] σ P := CtA.of (by decide) (Nat.le_of_ble_eq_true rfl) (XA.drop (by simp [leL, enL]) h)
def K_X11_starts_0 (scr : ScA)   (σ : Nat → Nat → Int32) (P : (Nat → Nat → Int32) → Prop) : Prop := XA scr 6 mX11_starts 172 4705 0 [some (.ref 136)] [] (hs σ) (pV P)
def K_X11_starts_4 (scr : ScA)   (σ : Nat → Nat → Int32) (P : (Nat → Nat → Int32) → Prop) : Prop := XA scr 6 mX11_starts 172 4705 4 [some (.ref 136)] [] (hs σ) (pV P)
set_option maxRecDepth 20000 in
theorem W_X11_starts_0 {scr : ScA}     {σ : Nat → Nat → Int32} {P : (Nat → Nat → Int32) → Prop} (H : CvA scr 5 mX11_asTold [.ref 136] σ (fun σ' => K_X11_starts_4 scr σ' P)) : K_X11_starts_0 scr σ P := by
  show XA scr 6 mX11_starts 172 4705 0 [some (.ref 136)] [] (hs σ) (pV P)
  refine XA.blk (e9 := 1) (ok := true) (ls' := [some (.ref 136)]) (st' := [.ref 136]) (h' := hs σ) [(.aload_n 0, 1, 0, 0, 0, 0, 0, 0)] (by decide +kernel) rfl rfl ?_
  refine XA.callV (as := []) (rest := []) (mc' := 0) (ms' := 0) (idx := 241) (t := 1149) cv_X11_asTold (by decide +kernel) rfl rfl rfl (Nat.le_of_ble_eq_true rfl) (Nat.le_of_ble_eq_true rfl) (Nat.le_of_ble_eq_true rfl) (Nat.le_of_ble_eq_true rfl) (H) (fun rv h' hp => ?_)
  obtain ⟨s9, rfl, rfl, hK⟩ := hp
  exact ⟨rfl, rfl, hK⟩
set_option maxRecDepth 20000 in
theorem W_X11_starts_4 {scr : ScA}     {σ : Nat → Nat → Int32} {P : (Nat → Nat → Int32) → Prop} (H : ∀ σ1, σ1 = (su σ 136 40 (-1)) → ∀ σ2, σ2 = (su σ1 136 41 (-1)) → P σ2) : K_X11_starts_4 scr σ P := by
  show XA scr 6 mX11_starts 172 4705 4 [some (.ref 136)] [] (hs σ) (pV P)
  refine XA.blk (e9 := 9) (ok := true) (ls' := [some (.ref 136)]) (st' := []) (h' := hs (su σ 136 40 (-1))) [(.aload_n 0, 1, 0, 0, 0, 0, 0, 0), (.iconst (-1), 1, 0, 0, 0, 0, (-1), 0), (.putfield 277, 3, 11, 40, 0, 933, 0, 0)] (by decide +kernel) rfl rfl ?_
  obtain ⟨σ1, hσ1⟩ : ∃ s9, s9 = (su σ 136 40 (-1)) := ⟨_, rfl⟩
  rw [← hσ1]
  have H := H σ1 hσ1
  refine XA.blk (e9 := 14) (ok := true) (ls' := [some (.ref 136)]) (st' := []) (h' := hs (su σ1 136 41 (-1))) [(.aload_n 0, 1, 0, 0, 0, 0, 0, 0), (.iconst (-1), 1, 0, 0, 0, 0, (-1), 0), (.putfield 280, 3, 11, 41, 0, 934, 0, 0)] (by decide +kernel) rfl rfl ?_
  obtain ⟨σ2, hσ2⟩ : ∃ s9, s9 = (su σ1 136 41 (-1)) := ⟨_, rfl⟩
  rw [← hσ2]
  have H := H σ2 hσ2
  exact XA.ret none rfl (show ckRt mX11_starts 14 .return_ = true by decide +kernel) trivial (Nat.le_of_ble_eq_true rfl) (Nat.le_of_ble_eq_true rfl) ⟨_, rfl, rfl, H⟩
theorem E_X11_starts {scr : ScA}   {σ : Nat → Nat → Int32} {P : (Nat → Nat → Int32) → Prop} (h : K_X11_starts_0 scr σ P) : CvA scr 6 mX11_starts [.ref 136] σ P := CtA.of (by decide) (Nat.le_of_ble_eq_true rfl) (XA.drop (by simp [leL, enL]) h)
def K_X11_tries_0 (scr : ScA)  (x1 : Int32) (σ : Nat → Nat → Int32) (P : (Nat → Nat → Int32) → Prop) : Prop := XA scr 4 mX11_tries 172 4705 0 [some (.ref 136), some (.int x1)] [] (hs σ) (pV P)
def K_X11_tries_4 (scr : ScA)  (x1 : Int32) (σ : Nat → Nat → Int32) (P : (Nat → Nat → Int32) → Prop) : Prop := XA scr 4 mX11_tries 172 4705 4 [some (.ref 136), some (.int x1)] [] (hs σ) (pV P)
set_option maxRecDepth 20000 in
theorem W_X11_tries_0 {scr : ScA}   {x1 : Int32}  {σ : Nat → Nat → Int32} {P : (Nat → Nat → Int32) → Prop} (H : CvA scr 3 mX11_runs [.ref 136] σ (fun σ' => K_X11_tries_4 scr x1 σ' P)) : K_X11_tries_0 scr x1 σ P := by
  show XA scr 4 mX11_tries 172 4705 0 [some (.ref 136), some (.int x1)] [] (hs σ) (pV P)
  refine XA.blk (e9 := 1) (ok := true) (ls' := [some (.ref 136), some (.int x1)]) (st' := [.ref 136]) (h' := hs σ) [(.aload_n 0, 1, 0, 0, 0, 0, 0, 0)] (by decide +kernel) rfl rfl ?_
  refine XA.callV (as := []) (rest := []) (mc' := 0) (ms' := 0) (idx := 244) (t := 1153) cv_X11_runs (by decide +kernel) rfl rfl rfl (Nat.le_of_ble_eq_true rfl) (Nat.le_of_ble_eq_true rfl) (Nat.le_of_ble_eq_true rfl) (Nat.le_of_ble_eq_true rfl) (H) (fun rv h' hp => ?_)
  obtain ⟨s9, rfl, rfl, hK⟩ := hp
  exact ⟨rfl, rfl, hK⟩
set_option maxRecDepth 20000 in
theorem W_X11_tries_4 {scr : ScA}   {x1 : Int32}  {σ : Nat → Nat → Int32} {P : (Nat → Nat → Int32) → Prop} (H : ∀ σ1, σ1 = (su σ 136 40 (if (σ 136 17) ≤ (σ 136 41) then σ 136 40 else x1 : Int32)) → ∀ σ2, σ2 = (su σ1 136 41 (if (σ1 136 17) ≤ (σ1 136 41) then σ1 136 41 else σ1 136 17 : Int32)) → P σ2) : K_X11_tries_4 scr x1 σ P := by
  show XA scr 4 mX11_tries 172 4705 4 [some (.ref 136), some (.int x1)] [] (hs σ) (pV P)
  refine XA.blk (e9 := 13) (ok := true) (ls' := [some (.ref 136), some (.int x1)]) (st' := [.int (σ 136 41), .int (σ 136 17), .ref 136]) (h' := hs σ) [(.aload_n 0, 1, 0, 0, 0, 0, 0, 0), (.aload_n 0, 1, 0, 0, 0, 0, 0, 0), (.getfield 214, 3, 11, 17, 0, 910, 0, 0), (.aload_n 0, 1, 0, 0, 0, 0, 0, 0), (.getfield 280, 3, 11, 41, 0, 934, 0, 0)] (by decide +kernel) rfl rfl ?_
  have hJ13 : XA scr 4 mX11_tries 172 4705 24 [some (.ref 136), none] [.int (if (σ 136 17) ≤ (σ 136 41) then σ 136 40 else x1 : Int32), .ref 136] (hs σ) (pV P) := by
    refine XA.blk (e9 := 27) (ok := true) (ls' := [some (.ref 136), none]) (st' := []) (h' := hs (su σ 136 40 (if (σ 136 17) ≤ (σ 136 41) then σ 136 40 else x1 : Int32))) [(.putfield 277, 3, 11, 40, 0, 933, 0, 0)] (by decide +kernel) rfl rfl ?_
    obtain ⟨σ1, hσ1⟩ : ∃ s9, s9 = (su σ 136 40 (if (σ 136 17) ≤ (σ 136 41) then σ 136 40 else x1 : Int32)) := ⟨_, rfl⟩
    rw [← hσ1]
    have H := H σ1 hσ1
    refine XA.blk (e9 := 36) (ok := true) (ls' := [some (.ref 136), none]) (st' := [.int (σ1 136 41), .int (σ1 136 17), .ref 136]) (h' := hs σ1) [(.aload_n 0, 1, 0, 0, 0, 0, 0, 0), (.aload_n 0, 1, 0, 0, 0, 0, 0, 0), (.getfield 214, 3, 11, 17, 0, 910, 0, 0), (.aload_n 0, 1, 0, 0, 0, 0, 0, 0), (.getfield 280, 3, 11, 41, 0, 934, 0, 0)] (by decide +kernel) rfl rfl ?_
    have hJ36 : XA scr 4 mX11_tries 172 4705 50 [none, none] [.int (if (σ1 136 17) ≤ (σ1 136 41) then σ1 136 41 else σ1 136 17 : Int32), .ref 136] (hs σ1) (pV P) := by
      refine XA.blk (e9 := 53) (ok := true) (ls' := [none, none]) (st' := []) (h' := hs (su σ1 136 41 (if (σ1 136 17) ≤ (σ1 136 41) then σ1 136 41 else σ1 136 17 : Int32))) [(.putfield 280, 3, 11, 41, 0, 934, 0, 0)] (by decide +kernel) rfl rfl ?_
      obtain ⟨σ2, hσ2⟩ : ∃ s9, s9 = (su σ1 136 41 (if (σ1 136 17) ≤ (σ1 136 41) then σ1 136 41 else σ1 136 17 : Int32)) := ⟨_, rfl⟩
      rw [← hσ2]
      have H := H σ2 hσ2
      exact XA.ret none rfl (show ckRt mX11_tries 53 .return_ = true by decide +kernel) trivial (Nat.le_of_ble_eq_true rfl) (Nat.le_of_ble_eq_true rfl) ⟨_, rfl, rfl, H⟩
    refine XA.icmp_le (10) 46 (by decide +kernel) (fun c1 => ?_) (fun c1 => ?_)
    · refine XA.blk (e9 := 50) (ok := true) (ls' := [some (.ref 136), none]) (st' := [.int (σ1 136 41), .ref 136]) (h' := hs σ1) [(.aload_n 0, 1, 0, 0, 0, 0, 0, 0), (.getfield 280, 3, 11, 41, 0, 934, 0, 0)] (by decide +kernel) rfl rfl ?_
      refine XA.drop (ls := [none, none]) (by simp [leL]) ?_
      simpa only [if_pos c1] using hJ36
    · refine XA.blk (e9 := 50) (ok := true) (ls' := [some (.ref 136), none]) (st' := [.int (σ1 136 17), .ref 136]) (h' := hs σ1) [(.aload_n 0, 1, 0, 0, 0, 0, 0, 0), (.getfield 214, 3, 11, 17, 0, 910, 0, 0), (.goto 7, 3, 50, 0, 0, 0, 0, 0)] (by decide +kernel) rfl rfl ?_
      refine XA.drop (ls := [none, none]) (by simp [leL]) ?_
      simpa only [if_neg c1] using hJ36
  refine XA.icmp_le (7) 20 (by decide +kernel) (fun c1 => ?_) (fun c1 => ?_)
  · refine XA.blk (e9 := 24) (ok := true) (ls' := [some (.ref 136), some (.int x1)]) (st' := [.int (σ 136 40), .ref 136]) (h' := hs σ) [(.aload_n 0, 1, 0, 0, 0, 0, 0, 0), (.getfield 277, 3, 11, 40, 0, 933, 0, 0)] (by decide +kernel) rfl rfl ?_
    refine XA.drop (ls := [some (.ref 136), none]) (by simp [leL]) ?_
    simpa only [if_pos c1] using hJ13
  · refine XA.blk (e9 := 24) (ok := true) (ls' := [some (.ref 136), some (.int x1)]) (st' := [.int x1, .ref 136]) (h' := hs σ) [(.iload_n 1, 1, 1, 0, 0, 0, 0, 0), (.goto 7, 3, 24, 0, 0, 0, 0, 0)] (by decide +kernel) rfl rfl ?_
    refine XA.drop (ls := [some (.ref 136), none]) (by simp [leL]) ?_
    simpa only [if_neg c1] using hJ13
theorem E_X11_tries {scr : ScA}  {x1 : Int32} {σ : Nat → Nat → Int32} {P : (Nat → Nat → Int32) → Prop} (h : K_X11_tries_0 scr x1 σ P) : CvA scr 4 mX11_tries [.ref 136, .int x1] σ P := CtA.of (by decide) (Nat.le_of_ble_eq_true rfl) (XA.drop (by simp [leL, enL]) h)
def K_X11_swapOf_0 (scr : ScA)  (x1 : Int32) (σ : Nat → Nat → Int32) (P : Int32 → (Nat → Nat → Int32) → Prop) : Prop := XA scr 7 mX11_swapOf 172 4705 0 [some (.ref 136), some (.int x1), none, none, none, none] [] (hs σ) (pI P)
def K_X11_swapOf_4 (scr : ScA)  (x1 : Int32) (σ : Nat → Nat → Int32) (P : Int32 → (Nat → Nat → Int32) → Prop) : Prop := XA scr 7 mX11_swapOf 172 4705 4 [some (.ref 136), some (.int x1), none, none, none, none] [] (hs σ) (pI P)
def K_X11_swapOf_6 (scr : ScA)  (x1 : Int32) (x2 : Int32) (σ : Nat → Nat → Int32) (P : Int32 → (Nat → Nat → Int32) → Prop) : Prop := XA scr 7 mX11_swapOf 172 4705 6 [some (.ref 136), some (.int x1), some (.int x2), none, none, none] [] (hs σ) (pI P)
def K_X11_swapOf_18 (scr : ScA)  (x1 : Int32) (x2 : Int32) (x3 : Int32) (σ : Nat → Nat → Int32) (P : Int32 → (Nat → Nat → Int32) → Prop) : Prop := XA scr 7 mX11_swapOf 172 4705 18 [some (.ref 136), some (.int x1), some (.int x2), some (.int x3), none, none] [] (hs σ) (pI P)
def K_X11_swapOf_68 (scr : ScA)  (x1 : Int32) (x2 : Int32) (x3 : Int32) (x4 : Int32) (x5 : Int32) (σ : Nat → Nat → Int32) (P : Int32 → (Nat → Nat → Int32) → Prop) : Prop := XA scr 7 mX11_swapOf 172 4705 68 [some (.ref 136), some (.int x1), some (.int x2), some (.int x3), some (.int x4), some (.int x5)] [] (hs σ) (pI P)
set_option maxRecDepth 20000 in
theorem W_X11_swapOf_0 {scr : ScA}   {x1 : Int32}  {σ : Nat → Nat → Int32} {P : Int32 → (Nat → Nat → Int32) → Prop} (H : CvA scr 6 mX11_starts [.ref 136] σ (fun σ' => K_X11_swapOf_4 scr x1 σ' P)) : K_X11_swapOf_0 scr x1 σ P := by
  show XA scr 7 mX11_swapOf 172 4705 0 [some (.ref 136), some (.int x1), none, none, none, none] [] (hs σ) (pI P)
  refine XA.blk (e9 := 1) (ok := true) (ls' := [some (.ref 136), some (.int x1), none, none, none, none]) (st' := [.ref 136]) (h' := hs σ) [(.aload_n 0, 1, 0, 0, 0, 0, 0, 0)] (by decide +kernel) rfl rfl ?_
  refine XA.callV (as := []) (rest := []) (mc' := 0) (ms' := 0) (idx := 283) (t := 1258) cv_X11_starts (by decide +kernel) rfl rfl rfl (Nat.le_of_ble_eq_true rfl) (Nat.le_of_ble_eq_true rfl) (Nat.le_of_ble_eq_true rfl) (Nat.le_of_ble_eq_true rfl) (H) (fun rv h' hp => ?_)
  obtain ⟨s9, rfl, rfl, hK⟩ := hp
  exact ⟨rfl, rfl, hK⟩
set_option maxRecDepth 20000 in
theorem W_X11_swapOf_4 {scr : ScA}   {x1 : Int32}  {σ : Nat → Nat → Int32} {P : Int32 → (Nat → Nat → Int32) → Prop} (H : K_X11_swapOf_6 scr x1 0 σ P) : K_X11_swapOf_4 scr x1 σ P := by
  show XA scr 7 mX11_swapOf 172 4705 4 [some (.ref 136), some (.int x1), none, none, none, none] [] (hs σ) (pI P)
  refine XA.blk (e9 := 6) (ok := true) (ls' := [some (.ref 136), some (.int x1), some (.int 0), none, none, none]) (st' := []) (h' := hs σ) [(.iconst 0, 1, 0, 0, 0, 0, 0, 0), (.istore_n 2, 1, 2, 0, 0, 0, 0, 0)] (by decide +kernel) rfl rfl ?_
  exact H
set_option maxRecDepth 20000 in
theorem W_X11_swapOf_6 {scr : ScA}   {x1 : Int32} {x2 : Int32}  {σ : Nat → Nat → Int32} {P : Int32 → (Nat → Nat → Int32) → Prop} (H : ((σ 136 2) ≤ x2 → P (if ¬ (σ 136 40) = (-1) then (if ¬ x1 = 0 then (if ¬ x1 = 1 then σ 136 41 else (σ 136 40) - (σ 136 40) / 10 * 10 : Int32) else (σ 136 40) / 10 : Int32) else (-1) : Int32) σ) ∧ (¬ (σ 136 2) ≤ x2 → K_X11_swapOf_18 scr x1 x2 (x2 + 1) σ P)) : K_X11_swapOf_6 scr x1 x2 σ P := by
  show XA scr 7 mX11_swapOf 172 4705 6 [some (.ref 136), some (.int x1), some (.int x2), none, none, none] [] (hs σ) (pI P)
  refine XA.blk (e9 := 11) (ok := true) (ls' := [some (.ref 136), some (.int x1), some (.int x2), none, none, none]) (st' := [.int (σ 136 2), .int x2]) (h' := hs σ) [(.iload_n 2, 1, 2, 0, 0, 0, 0, 0), (.aload_n 0, 1, 0, 0, 0, 0, 0, 0), (.getfield 141, 3, 11, 2, 0, 895, 0, 0)] (by decide +kernel) rfl rfl ?_
  refine XA.icmp_ge (85) 96 (by decide +kernel) (fun c1 => ?_) (fun c1 => ?_)
  · have H := H.1 c1
    refine XA.blk (e9 := 101) (ok := true) (ls' := [some (.ref 136), some (.int x1), some (.int x2), none, none, none]) (st' := [.int (-1), .int (σ 136 40)]) (h' := hs σ) [(.aload_n 0, 1, 0, 0, 0, 0, 0, 0), (.getfield 277, 3, 11, 40, 0, 933, 0, 0), (.iconst (-1), 1, 0, 0, 0, 0, (-1), 0)] (by decide +kernel) rfl rfl ?_
    have hJ101 : XA scr 7 mX11_swapOf 172 4705 141 [none, none, none, none, none, none] [.int (if ¬ (σ 136 40) = (-1) then (if ¬ x1 = 0 then (if ¬ x1 = 1 then σ 136 41 else (σ 136 40) - (σ 136 40) / 10 * 10 : Int32) else (σ 136 40) / 10 : Int32) else (-1) : Int32)] (hs σ) (pI P) := by
      exact XA.ret (some (.int (if ¬ (σ 136 40) = (-1) then (if ¬ x1 = 0 then (if ¬ x1 = 1 then σ 136 41 else (σ 136 40) - (σ 136 40) / 10 * 10 : Int32) else (σ 136 40) / 10 : Int32) else (-1) : Int32))) rfl (show ckRt mX11_swapOf 141 .ireturn = true by decide +kernel) trivial (Nat.le_of_ble_eq_true rfl) (Nat.le_of_ble_eq_true rfl) ⟨_, _, rfl, rfl, H⟩
    refine XA.icmp_ne (7) 108 (by decide +kernel) (fun c2 => ?_) (fun c2 => ?_)
    · refine XA.blk (e9 := 109) (ok := true) (ls' := [some (.ref 136), some (.int x1), some (.int x2), none, none, none]) (st' := [.int x1]) (h' := hs σ) [(.iload_n 1, 1, 1, 0, 0, 0, 0, 0)] (by decide +kernel) rfl rfl ?_
      have hJ109 : XA scr 7 mX11_swapOf 172 4705 141 [none, none, none, none, none, none] [.int (if ¬ x1 = 0 then (if ¬ x1 = 1 then σ 136 41 else (σ 136 40) - (σ 136 40) / 10 * 10 : Int32) else (σ 136 40) / 10 : Int32)] (hs σ) (pI P) := by
        simpa only [if_pos c2] using hJ101
      refine XA.if_ne (13) 122 (by decide +kernel) (fun c3 => ?_) (fun c3 => ?_)
      · refine XA.blk (e9 := 124) (ok := true) (ls' := [some (.ref 136), some (.int x1), some (.int x2), none, none, none]) (st' := [.int 1, .int x1]) (h' := hs σ) [(.iload_n 1, 1, 1, 0, 0, 0, 0, 0), (.iconst 1, 1, 0, 0, 0, 0, 1, 0)] (by decide +kernel) rfl rfl ?_
        have hJ124 : XA scr 7 mX11_swapOf 172 4705 141 [none, none, none, none, none, none] [.int (if ¬ x1 = 1 then σ 136 41 else (σ 136 40) - (σ 136 40) / 10 * 10 : Int32)] (hs σ) (pI P) := by
          simpa only [if_pos c3] using hJ109
        refine XA.icmp_ne (13) 137 (by decide +kernel) (fun c4 => ?_) (fun c4 => ?_)
        · refine XA.blk (e9 := 141) (ok := true) (ls' := [some (.ref 136), some (.int x1), some (.int x2), none, none, none]) (st' := [.int (σ 136 41)]) (h' := hs σ) [(.aload_n 0, 1, 0, 0, 0, 0, 0, 0), (.getfield 280, 3, 11, 41, 0, 934, 0, 0)] (by decide +kernel) rfl rfl ?_
          refine XA.drop (ls := [none, none, none, none, none, none]) (by simp [leL]) ?_
          simpa only [if_pos c4] using hJ124
        · refine XA.blk (e9 := 141) (ok := true) (ls' := [some (.ref 136), some (.int x1), some (.int x2), none, none, none]) (st' := [.int ((σ 136 40) - (σ 136 40) / 10 * 10)]) (h' := hs σ) [(.aload_n 0, 1, 0, 0, 0, 0, 0, 0), (.getfield 277, 3, 11, 40, 0, 933, 0, 0), (.bipush 10, 2, 0, 0, 0, 0, 10, 0), (.irem, 1, 0, 0, 0, 0, 0, 0), (.goto 7, 3, 141, 0, 0, 0, 0, 0)] (by decide +kernel) rfl rfl ?_
          refine XA.drop (ls := [none, none, none, none, none, none]) (by simp [leL]) ?_
          simpa only [if_neg (not_not_intro c4)] using hJ124
      · refine XA.blk (e9 := 141) (ok := true) (ls' := [some (.ref 136), some (.int x1), some (.int x2), none, none, none]) (st' := [.int ((σ 136 40) / 10)]) (h' := hs σ) [(.aload_n 0, 1, 0, 0, 0, 0, 0, 0), (.getfield 277, 3, 11, 40, 0, 933, 0, 0), (.bipush 10, 2, 0, 0, 0, 0, 10, 0), (.idiv, 1, 0, 0, 0, 0, 0, 0), (.goto 22, 3, 141, 0, 0, 0, 0, 0)] (by decide +kernel) rfl rfl ?_
        refine XA.drop (ls := [none, none, none, none, none, none]) (by simp [leL]) ?_
        simpa only [if_neg (not_not_intro c3)] using hJ109
    · refine XA.blk (e9 := 141) (ok := true) (ls' := [some (.ref 136), some (.int x1), some (.int x2), none, none, none]) (st' := [.int (-1)]) (h' := hs σ) [(.iconst (-1), 1, 0, 0, 0, 0, (-1), 0), (.goto 36, 3, 141, 0, 0, 0, 0, 0)] (by decide +kernel) rfl rfl ?_
      refine XA.drop (ls := [none, none, none, none, none, none]) (by simp [leL]) ?_
      simpa only [if_neg (not_not_intro c2)] using hJ101
  · have H := H.2 c1
    refine XA.blk (e9 := 18) (ok := true) (ls' := [some (.ref 136), some (.int x1), some (.int x2), some (.int (x2 + 1)), none, none]) (st' := []) (h' := hs σ) [(.iload_n 2, 1, 2, 0, 0, 0, 0, 0), (.iconst 1, 1, 0, 0, 0, 0, 1, 0), (.iadd, 1, 0, 0, 0, 0, 0, 0), (.istore_n 3, 1, 3, 0, 0, 0, 0, 0)] (by decide +kernel) rfl rfl ?_
    exact H
set_option maxRecDepth 20000 in
theorem W_X11_swapOf_18 {scr : ScA}   {x1 : Int32} {x2 : Int32} {x3 : Int32}  {σ : Nat → Nat → Int32} {P : Int32 → (Nat → Nat → Int32) → Prop} (H : ((σ 136 2) ≤ x3 → K_X11_swapOf_6 scr x1 (x2 + 1) σ P) ∧ (¬ (σ 136 2) ≤ x3 → (inB x2 11 = true) ∧ (inB x3 11 = true) ∧ (∀ σ1, σ1 = (su σ 142 (Int32.toNatClampNeg x2) (σ 142 (Int32.toNatClampNeg x3))) → ∀ σ2, σ2 = (su σ1 142 (Int32.toNatClampNeg x3) (σ 142 (Int32.toNatClampNeg x2))) → CvA scr 4 mX11_tries [.ref 136, .int ((10 * x2) + x3)] σ2 (fun σ' => K_X11_swapOf_68 scr x1 x2 x3 (σ 142 (Int32.toNatClampNeg x2)) (σ 142 (Int32.toNatClampNeg x3)) σ' P)))) : K_X11_swapOf_18 scr x1 x2 x3 σ P := by
  show XA scr 7 mX11_swapOf 172 4705 18 [some (.ref 136), some (.int x1), some (.int x2), some (.int x3), none, none] [] (hs σ) (pI P)
  refine XA.blk (e9 := 23) (ok := true) (ls' := [some (.ref 136), some (.int x1), some (.int x2), some (.int x3), none, none]) (st' := [.int (σ 136 2), .int x3]) (h' := hs σ) [(.iload_n 3, 1, 3, 0, 0, 0, 0, 0), (.aload_n 0, 1, 0, 0, 0, 0, 0, 0), (.getfield 141, 3, 11, 2, 0, 895, 0, 0)] (by decide +kernel) rfl rfl ?_
  refine XA.icmp_ge (67) 90 (by decide +kernel) (fun c1 => ?_) (fun c1 => ?_)
  · have H := H.1 c1
    refine XA.blk (e9 := 6) (ok := true) (ls' := [some (.ref 136), some (.int x1), some (.int (x2 + 1)), some (.int x3), none, none]) (st' := []) (h' := hs σ) [(.iinc 2 1, 3, 2, 0, 0, 0, 1, 0), (.goto (-87), 3, 6, 0, 0, 0, 0, 0)] (by decide +kernel) rfl rfl ?_
    exact XA.drop (by simp [leL]) H
  · have H := H.2 c1
    obtain ⟨o1, o2, H⟩ := H
    refine XA.blk (e9 := 50) (ok := inB x2 11 && (inB x3 11 && (inB x2 11 && (true)))) (ls' := [some (.ref 136), some (.int x1), some (.int x2), some (.int x3), some (.int (σ 142 (Int32.toNatClampNeg x2))), some (.int (σ 142 (Int32.toNatClampNeg x3)))]) (st' := []) (h' := hs (su σ 142 (Int32.toNatClampNeg x2) (σ 142 (Int32.toNatClampNeg x3)))) [(.aload_n 0, 1, 0, 0, 0, 0, 0, 0), (.getfield 25, 3, 11, 7, 7, 900, 0, 0), (.iload_n 2, 1, 2, 0, 0, 0, 0, 0), (.iaload, 1, 0, 0, 0, 0, 0, 0), (.istore 4, 2, 4, 0, 0, 0, 0, 0), (.aload_n 0, 1, 0, 0, 0, 0, 0, 0), (.getfield 25, 3, 11, 7, 7, 900, 0, 0), (.iload_n 3, 1, 3, 0, 0, 0, 0, 0), (.iaload, 1, 0, 0, 0, 0, 0, 0), (.istore 5, 2, 5, 0, 0, 0, 0, 0), (.aload_n 0, 1, 0, 0, 0, 0, 0, 0), (.getfield 25, 3, 11, 7, 7, 900, 0, 0), (.iload_n 2, 1, 2, 0, 0, 0, 0, 0), (.iload 5, 2, 5, 0, 0, 0, 0, 0), (.iastore, 1, 0, 0, 0, 0, 0, 0)] (by decide +kernel) rfl (by simp only [o1, o2, Bool.and_true, Bool.true_and]) ?_
    obtain ⟨σ1, hσ1⟩ : ∃ s9, s9 = (su σ 142 (Int32.toNatClampNeg x2) (σ 142 (Int32.toNatClampNeg x3))) := ⟨_, rfl⟩
    rw [← hσ1]
    have H := H σ1 hσ1
    refine XA.blk (e9 := 58) (ok := inB x3 11 && (true)) (ls' := [some (.ref 136), some (.int x1), some (.int x2), some (.int x3), some (.int (σ 142 (Int32.toNatClampNeg x2))), some (.int (σ 142 (Int32.toNatClampNeg x3)))]) (st' := []) (h' := hs (su σ1 142 (Int32.toNatClampNeg x3) (σ 142 (Int32.toNatClampNeg x2)))) [(.aload_n 0, 1, 0, 0, 0, 0, 0, 0), (.getfield 25, 3, 11, 7, 7, 900, 0, 0), (.iload_n 3, 1, 3, 0, 0, 0, 0, 0), (.iload 4, 2, 4, 0, 0, 0, 0, 0), (.iastore, 1, 0, 0, 0, 0, 0, 0)] (by decide +kernel) rfl (by simp only [o2, Bool.and_true, Bool.true_and]) ?_
    obtain ⟨σ2, hσ2⟩ : ∃ s9, s9 = (su σ1 142 (Int32.toNatClampNeg x3) (σ 142 (Int32.toNatClampNeg x2))) := ⟨_, rfl⟩
    rw [← hσ2]
    have H := H σ2 hσ2
    refine XA.blk (e9 := 65) (ok := true) (ls' := [some (.ref 136), some (.int x1), some (.int x2), some (.int x3), some (.int (σ 142 (Int32.toNatClampNeg x2))), some (.int (σ 142 (Int32.toNatClampNeg x3)))]) (st' := [.int ((10 * x2) + x3), .ref 136]) (h' := hs σ2) [(.aload_n 0, 1, 0, 0, 0, 0, 0, 0), (.bipush 10, 2, 0, 0, 0, 0, 10, 0), (.iload_n 2, 1, 2, 0, 0, 0, 0, 0), (.imul, 1, 0, 0, 0, 0, 0, 0), (.iload_n 3, 1, 3, 0, 0, 0, 0, 0), (.iadd, 1, 0, 0, 0, 0, 0, 0)] (by decide +kernel) rfl rfl ?_
    refine XA.callV (as := [.int ((10 * x2) + x3)]) (rest := []) (mc' := 0) (ms' := 0) (idx := 286) (t := 1262) cv_X11_tries (by decide +kernel) rfl rfl rfl (Nat.le_of_ble_eq_true rfl) (Nat.le_of_ble_eq_true rfl) (Nat.le_of_ble_eq_true rfl) (Nat.le_of_ble_eq_true rfl) (H) (fun rv h' hp => ?_)
    obtain ⟨s9, rfl, rfl, hK⟩ := hp
    exact ⟨rfl, rfl, hK⟩
set_option maxRecDepth 20000 in
theorem W_X11_swapOf_68 {scr : ScA}   {x1 : Int32} {x2 : Int32} {x3 : Int32} {x4 : Int32} {x5 : Int32}  {σ : Nat → Nat → Int32} {P : Int32 → (Nat → Nat → Int32) → Prop} (H : (inB x2 11 = true) ∧ (∀ σ1, σ1 = (su σ 142 (Int32.toNatClampNeg x2) x4) → (inB x3 11 = true) ∧ (∀ σ2, σ2 = (su σ1 142 (Int32.toNatClampNeg x3) x5) → K_X11_swapOf_18 scr x1 x2 (x3 + 1) σ2 P))) : K_X11_swapOf_68 scr x1 x2 x3 x4 x5 σ P := by
  show XA scr 7 mX11_swapOf 172 4705 68 [some (.ref 136), some (.int x1), some (.int x2), some (.int x3), some (.int x4), some (.int x5)] [] (hs σ) (pI P)
  obtain ⟨o1, H⟩ := H
  refine XA.blk (e9 := 76) (ok := inB x2 11 && (true)) (ls' := [some (.ref 136), some (.int x1), some (.int x2), some (.int x3), some (.int x4), some (.int x5)]) (st' := []) (h' := hs (su σ 142 (Int32.toNatClampNeg x2) x4)) [(.aload_n 0, 1, 0, 0, 0, 0, 0, 0), (.getfield 25, 3, 11, 7, 7, 900, 0, 0), (.iload_n 2, 1, 2, 0, 0, 0, 0, 0), (.iload 4, 2, 4, 0, 0, 0, 0, 0), (.iastore, 1, 0, 0, 0, 0, 0, 0)] (by decide +kernel) rfl (by simp only [o1, Bool.and_true, Bool.true_and]) ?_
  obtain ⟨σ1, hσ1⟩ : ∃ s9, s9 = (su σ 142 (Int32.toNatClampNeg x2) x4) := ⟨_, rfl⟩
  rw [← hσ1]
  have H := H σ1 hσ1
  obtain ⟨o2, H⟩ := H
  refine XA.blk (e9 := 84) (ok := inB x3 11 && (true)) (ls' := [some (.ref 136), some (.int x1), some (.int x2), some (.int x3), some (.int x4), some (.int x5)]) (st' := []) (h' := hs (su σ1 142 (Int32.toNatClampNeg x3) x5)) [(.aload_n 0, 1, 0, 0, 0, 0, 0, 0), (.getfield 25, 3, 11, 7, 7, 900, 0, 0), (.iload_n 3, 1, 3, 0, 0, 0, 0, 0), (.iload 5, 2, 5, 0, 0, 0, 0, 0), (.iastore, 1, 0, 0, 0, 0, 0, 0)] (by decide +kernel) rfl (by simp only [o2, Bool.and_true, Bool.true_and]) ?_
  obtain ⟨σ2, hσ2⟩ : ∃ s9, s9 = (su σ1 142 (Int32.toNatClampNeg x3) x5) := ⟨_, rfl⟩
  rw [← hσ2]
  have H := H σ2 hσ2
  refine XA.blk (e9 := 18) (ok := true) (ls' := [some (.ref 136), some (.int x1), some (.int x2), some (.int (x3 + 1)), some (.int x4), some (.int x5)]) (st' := []) (h' := hs σ2) [(.iinc 3 1, 3, 3, 0, 0, 0, 1, 0), (.goto (-69), 3, 18, 0, 0, 0, 0, 0)] (by decide +kernel) rfl rfl ?_
  exact XA.drop (by simp [leL]) H
theorem E_X11_swapOf {scr : ScA}  {x1 : Int32} {σ : Nat → Nat → Int32} {P : Int32 → (Nat → Nat → Int32) → Prop} (h : K_X11_swapOf_0 scr x1 σ P) : CiA scr 7 mX11_swapOf [.ref 136, .int x1] σ P := CtA.of (by decide) (Nat.le_of_ble_eq_true rfl) (XA.drop (by simp [leL, enL]) h)
def K_X11_swap_0 (scr : ScA)  (x1 : Int32) (σ : Nat → Nat → Int32) (P : Int32 → (Nat → Nat → Int32) → Prop) : Prop := XA scr 8 mX11_swap 172 4705 0 [some (.ref 136), some (.int x1)] [] (hs σ) (pI P)
def K_X11_swap_12 (scr : ScA)  (y0 : Int32) (σ : Nat → Nat → Int32) (P : Int32 → (Nat → Nat → Int32) → Prop) : Prop := XA scr 8 mX11_swap 172 4705 12 [none, none] [.int y0] (hs σ) (pI P)
set_option maxRecDepth 20000 in
theorem W_X11_swap_0 {scr : ScA}   {x1 : Int32}  {σ : Nat → Nat → Int32} {P : Int32 → (Nat → Nat → Int32) → Prop} (H : ((inV x1 0 2) = 0 → P (-2) σ) ∧ (¬ (inV x1 0 2) = 0 → CiA scr 7 mX11_swapOf [.ref 136, .int x1] σ (fun r9 σ' => K_X11_swap_12 scr r9 σ' P))) : K_X11_swap_0 scr x1 σ P := by
  show XA scr 8 mX11_swap 172 4705 0 [some (.ref 136), some (.int x1)] [] (hs σ) (pI P)
  refine XA.blk (e9 := 1) (ok := true) (ls' := [some (.ref 136), some (.int x1)]) (st' := [.int x1]) (h' := hs σ) [(.iload_n 1, 1, 1, 0, 0, 0, 0, 0)] (by decide +kernel) rfl rfl ?_
  refine XA.callS (as := [.int x1]) (rest := []) (mc' := 0) (ms' := 0) (idx := 161) (t := 1118) cs_X11_isThree (by decide +kernel) rfl rfl (Nat.le_of_ble_eq_true rfl) (Nat.le_of_ble_eq_true rfl) (Nat.le_of_ble_eq_true rfl) (Nat.le_of_ble_eq_true rfl) (pu_X11_isThree scr σ x1) (fun rv h' hp => ?_)
  obtain ⟨rfl, rfl⟩ := hp
  refine ⟨rfl, rfl, ?_⟩
  show XA scr 8 mX11_swap 172 4705 4 [some (.ref 136), some (.int x1)] [.int (inV x1 0 2)] (hs σ) (pI P)
  refine XA.if_eq (11) 15 (by decide +kernel) (fun c1 => ?_) (fun c1 => ?_)
  · have H := H.1 c1
    refine XA.blk (e9 := 17) (ok := true) (ls' := [some (.ref 136), some (.int x1)]) (st' := [.int (-2)]) (h' := hs σ) [(.bipush (-2), 2, 0, 0, 0, 0, (-2), 0)] (by decide +kernel) rfl rfl ?_
    exact XA.ret (some (.int (-2))) rfl (show ckRt mX11_swap 17 .ireturn = true by decide +kernel) trivial (Nat.le_of_ble_eq_true rfl) (Nat.le_of_ble_eq_true rfl) ⟨_, _, rfl, rfl, H⟩
  · have H := H.2 c1
    refine XA.blk (e9 := 9) (ok := true) (ls' := [some (.ref 136), some (.int x1)]) (st' := [.int x1, .ref 136]) (h' := hs σ) [(.aload_n 0, 1, 0, 0, 0, 0, 0, 0), (.iload_n 1, 1, 1, 0, 0, 0, 0, 0)] (by decide +kernel) rfl rfl ?_
    refine XA.callV (as := [.int x1]) (rest := []) (mc' := 0) (ms' := 0) (idx := 289) (t := 1254) cv_X11_swapOf (by decide +kernel) rfl rfl rfl (Nat.le_of_ble_eq_true rfl) (Nat.le_of_ble_eq_true rfl) (Nat.le_of_ble_eq_true rfl) (Nat.le_of_ble_eq_true rfl) (H) (fun rv h' hp => ?_)
    obtain ⟨r9, s9, rfl, rfl, hK⟩ := hp
    exact ⟨rfl, rfl, XA.drop (by simp [leL]) hK⟩
set_option maxRecDepth 20000 in
theorem W_X11_swap_12 {scr : ScA}   {y0 : Int32}  {σ : Nat → Nat → Int32} {P : Int32 → (Nat → Nat → Int32) → Prop} (H : P y0 σ) : K_X11_swap_12 scr y0 σ P := by
  show XA scr 8 mX11_swap 172 4705 12 [none, none] [.int y0] (hs σ) (pI P)
  refine XA.blk (e9 := 17) (ok := true) (ls' := [none, none]) (st' := [.int y0]) (h' := hs σ) [(.goto 5, 3, 17, 0, 0, 0, 0, 0)] (by decide +kernel) rfl rfl ?_
  exact XA.ret (some (.int y0)) rfl (show ckRt mX11_swap 17 .ireturn = true by decide +kernel) trivial (Nat.le_of_ble_eq_true rfl) (Nat.le_of_ble_eq_true rfl) ⟨_, _, rfl, rfl, H⟩
theorem E_X11_swap {scr : ScA}  {x1 : Int32} {σ : Nat → Nat → Int32} {P : Int32 → (Nat → Nat → Int32) → Prop} (h : K_X11_swap_0 scr x1 σ P) : CiA scr 8 mX11_swap [.ref 136, .int x1] σ P := CtA.of (by decide) (Nat.le_of_ble_eq_true rfl) (XA.drop (by simp [leL, enL]) h)
def K_X11_comeOf_0 (scr : ScA)  (x1 : Int32) (x2 : Int32) (σ : Nat → Nat → Int32) (P : Int32 → (Nat → Nat → Int32) → Prop) : Prop := XA scr 7 mX11_comeOf 172 4705 0 [some (.ref 136), some (.int x1), some (.int x2), none, none] [] (hs σ) (pI P)
def K_X11_comeOf_4 (scr : ScA)  (x1 : Int32) (x2 : Int32) (σ : Nat → Nat → Int32) (P : Int32 → (Nat → Nat → Int32) → Prop) : Prop := XA scr 7 mX11_comeOf 172 4705 4 [some (.ref 136), some (.int x1), some (.int x2), none, none] [] (hs σ) (pI P)
def K_X11_comeOf_14 (scr : ScA)  (x1 : Int32) (x2 : Int32) (x3 : Int32) (x4 : Int32) (σ : Nat → Nat → Int32) (P : Int32 → (Nat → Nat → Int32) → Prop) : Prop := XA scr 7 mX11_comeOf 172 4705 14 [some (.ref 136), some (.int x1), some (.int x2), some (.int x3), some (.int x4)] [] (hs σ) (pI P)
def K_X11_comeOf_35 (scr : ScA)  (x1 : Int32) (x2 : Int32) (x3 : Int32) (x4 : Int32) (σ : Nat → Nat → Int32) (P : Int32 → (Nat → Nat → Int32) → Prop) : Prop := XA scr 7 mX11_comeOf 172 4705 35 [some (.ref 136), some (.int x1), some (.int x2), some (.int x3), some (.int x4)] [] (hs σ) (pI P)
set_option maxRecDepth 20000 in
theorem W_X11_comeOf_0 {scr : ScA}   {x1 : Int32} {x2 : Int32}  {σ : Nat → Nat → Int32} {P : Int32 → (Nat → Nat → Int32) → Prop} (H : CvA scr 6 mX11_starts [.ref 136] σ (fun σ' => K_X11_comeOf_4 scr x1 x2 σ' P)) : K_X11_comeOf_0 scr x1 x2 σ P := by
  show XA scr 7 mX11_comeOf 172 4705 0 [some (.ref 136), some (.int x1), some (.int x2), none, none] [] (hs σ) (pI P)
  refine XA.blk (e9 := 1) (ok := true) (ls' := [some (.ref 136), some (.int x1), some (.int x2), none, none]) (st' := [.ref 136]) (h' := hs σ) [(.aload_n 0, 1, 0, 0, 0, 0, 0, 0)] (by decide +kernel) rfl rfl ?_
  refine XA.callV (as := []) (rest := []) (mc' := 0) (ms' := 0) (idx := 283) (t := 1258) cv_X11_starts (by decide +kernel) rfl rfl rfl (Nat.le_of_ble_eq_true rfl) (Nat.le_of_ble_eq_true rfl) (Nat.le_of_ble_eq_true rfl) (Nat.le_of_ble_eq_true rfl) (H) (fun rv h' hp => ?_)
  obtain ⟨s9, rfl, rfl, hK⟩ := hp
  exact ⟨rfl, rfl, hK⟩
set_option maxRecDepth 20000 in
theorem W_X11_comeOf_4 {scr : ScA}   {x1 : Int32} {x2 : Int32}  {σ : Nat → Nat → Int32} {P : Int32 → (Nat → Nat → Int32) → Prop} (H : (inB x1 11 = true) ∧ (K_X11_comeOf_14 scr x1 x2 (σ 141 (Int32.toNatClampNeg x1)) 0 σ P)) : K_X11_comeOf_4 scr x1 x2 σ P := by
  show XA scr 7 mX11_comeOf 172 4705 4 [some (.ref 136), some (.int x1), some (.int x2), none, none] [] (hs σ) (pI P)
  obtain ⟨o1, H⟩ := H
  refine XA.blk (e9 := 14) (ok := inB x1 11 && (true)) (ls' := [some (.ref 136), some (.int x1), some (.int x2), some (.int (σ 141 (Int32.toNatClampNeg x1))), some (.int 0)]) (st' := []) (h' := hs σ) [(.aload_n 0, 1, 0, 0, 0, 0, 0, 0), (.getfield 22, 3, 11, 6, 6, 899, 0, 0), (.iload_n 1, 1, 1, 0, 0, 0, 0, 0), (.iaload, 1, 0, 0, 0, 0, 0, 0), (.istore_n 3, 1, 3, 0, 0, 0, 0, 0), (.iconst 0, 1, 0, 0, 0, 0, 0, 0), (.istore 4, 2, 4, 0, 0, 0, 0, 0)] (by decide +kernel) rfl (by simp only [o1, Bool.and_true, Bool.true_and]) ?_
  exact H
set_option maxRecDepth 20000 in
theorem W_X11_comeOf_14 {scr : ScA}   {x1 : Int32} {x2 : Int32} {x3 : Int32} {x4 : Int32}  {σ : Nat → Nat → Int32} {P : Int32 → (Nat → Nat → Int32) → Prop} (H : (24 ≤ x4 → (inB x1 11 = true) ∧ (∀ σ1, σ1 = (su σ 141 (Int32.toNatClampNeg x1) x3) → P (if ¬ x2 = 0 then σ1 136 41 else σ1 136 40 : Int32) σ1)) ∧ (¬ 24 ≤ x4 → (inB x1 11 = true) ∧ (∀ σ2, σ2 = (su σ 141 (Int32.toNatClampNeg x1) x4) → CvA scr 4 mX11_tries [.ref 136, .int x4] σ2 (fun σ' => K_X11_comeOf_35 scr x1 x2 x3 x4 σ' P)))) : K_X11_comeOf_14 scr x1 x2 x3 x4 σ P := by
  show XA scr 7 mX11_comeOf 172 4705 14 [some (.ref 136), some (.int x1), some (.int x2), some (.int x3), some (.int x4)] [] (hs σ) (pI P)
  refine XA.blk (e9 := 18) (ok := true) (ls' := [some (.ref 136), some (.int x1), some (.int x2), some (.int x3), some (.int x4)]) (st' := [.int 24, .int x4]) (h' := hs σ) [(.iload 4, 2, 4, 0, 0, 0, 0, 0), (.bipush 24, 2, 0, 0, 0, 0, 24, 0)] (by decide +kernel) rfl rfl ?_
  refine XA.icmp_ge (23) 41 (by decide +kernel) (fun c1 => ?_) (fun c1 => ?_)
  · have H := H.1 c1
    obtain ⟨o1, H⟩ := H
    refine XA.blk (e9 := 48) (ok := inB x1 11 && (true)) (ls' := [some (.ref 136), some (.int x1), some (.int x2), some (.int x3), some (.int x4)]) (st' := []) (h' := hs (su σ 141 (Int32.toNatClampNeg x1) x3)) [(.aload_n 0, 1, 0, 0, 0, 0, 0, 0), (.getfield 22, 3, 11, 6, 6, 899, 0, 0), (.iload_n 1, 1, 1, 0, 0, 0, 0, 0), (.iload_n 3, 1, 3, 0, 0, 0, 0, 0), (.iastore, 1, 0, 0, 0, 0, 0, 0)] (by decide +kernel) rfl (by simp only [o1, Bool.and_true, Bool.true_and]) ?_
    obtain ⟨σ1, hσ1⟩ : ∃ s9, s9 = (su σ 141 (Int32.toNatClampNeg x1) x3) := ⟨_, rfl⟩
    rw [← hσ1]
    have H := H σ1 hσ1
    refine XA.blk (e9 := 49) (ok := true) (ls' := [some (.ref 136), some (.int x1), some (.int x2), some (.int x3), some (.int x4)]) (st' := [.int x2]) (h' := hs σ1) [(.iload_n 2, 1, 2, 0, 0, 0, 0, 0)] (by decide +kernel) rfl rfl ?_
    have hJ49 : XA scr 7 mX11_comeOf 172 4705 63 [none, none, none, none, none] [.int (if ¬ x2 = 0 then σ1 136 41 else σ1 136 40 : Int32)] (hs σ1) (pI P) := by
      exact XA.ret (some (.int (if ¬ x2 = 0 then σ1 136 41 else σ1 136 40 : Int32))) rfl (show ckRt mX11_comeOf 63 .ireturn = true by decide +kernel) trivial (Nat.le_of_ble_eq_true rfl) (Nat.le_of_ble_eq_true rfl) ⟨_, _, rfl, rfl, H⟩
    refine XA.if_ne (10) 59 (by decide +kernel) (fun c2 => ?_) (fun c2 => ?_)
    · refine XA.blk (e9 := 63) (ok := true) (ls' := [some (.ref 136), some (.int x1), some (.int x2), some (.int x3), some (.int x4)]) (st' := [.int (σ1 136 41)]) (h' := hs σ1) [(.aload_n 0, 1, 0, 0, 0, 0, 0, 0), (.getfield 280, 3, 11, 41, 0, 934, 0, 0)] (by decide +kernel) rfl rfl ?_
      refine XA.drop (ls := [none, none, none, none, none]) (by simp [leL]) ?_
      simpa only [if_pos c2] using hJ49
    · refine XA.blk (e9 := 63) (ok := true) (ls' := [some (.ref 136), some (.int x1), some (.int x2), some (.int x3), some (.int x4)]) (st' := [.int (σ1 136 40)]) (h' := hs σ1) [(.aload_n 0, 1, 0, 0, 0, 0, 0, 0), (.getfield 277, 3, 11, 40, 0, 933, 0, 0), (.goto 7, 3, 63, 0, 0, 0, 0, 0)] (by decide +kernel) rfl rfl ?_
      refine XA.drop (ls := [none, none, none, none, none]) (by simp [leL]) ?_
      simpa only [if_neg (not_not_intro c2)] using hJ49
  · have H := H.2 c1
    obtain ⟨o1, H⟩ := H
    refine XA.blk (e9 := 29) (ok := inB x1 11 && (true)) (ls' := [some (.ref 136), some (.int x1), some (.int x2), some (.int x3), some (.int x4)]) (st' := []) (h' := hs (su σ 141 (Int32.toNatClampNeg x1) x4)) [(.aload_n 0, 1, 0, 0, 0, 0, 0, 0), (.getfield 22, 3, 11, 6, 6, 899, 0, 0), (.iload_n 1, 1, 1, 0, 0, 0, 0, 0), (.iload 4, 2, 4, 0, 0, 0, 0, 0), (.iastore, 1, 0, 0, 0, 0, 0, 0)] (by decide +kernel) rfl (by simp only [o1, Bool.and_true, Bool.true_and]) ?_
    obtain ⟨σ2, hσ2⟩ : ∃ s9, s9 = (su σ 141 (Int32.toNatClampNeg x1) x4) := ⟨_, rfl⟩
    rw [← hσ2]
    have H := H σ2 hσ2
    refine XA.blk (e9 := 32) (ok := true) (ls' := [some (.ref 136), some (.int x1), some (.int x2), some (.int x3), some (.int x4)]) (st' := [.int x4, .ref 136]) (h' := hs σ2) [(.aload_n 0, 1, 0, 0, 0, 0, 0, 0), (.iload 4, 2, 4, 0, 0, 0, 0, 0)] (by decide +kernel) rfl rfl ?_
    refine XA.callV (as := [.int x4]) (rest := []) (mc' := 0) (ms' := 0) (idx := 286) (t := 1262) cv_X11_tries (by decide +kernel) rfl rfl rfl (Nat.le_of_ble_eq_true rfl) (Nat.le_of_ble_eq_true rfl) (Nat.le_of_ble_eq_true rfl) (Nat.le_of_ble_eq_true rfl) (H) (fun rv h' hp => ?_)
    obtain ⟨s9, rfl, rfl, hK⟩ := hp
    exact ⟨rfl, rfl, hK⟩
set_option maxRecDepth 20000 in
theorem W_X11_comeOf_35 {scr : ScA}   {x1 : Int32} {x2 : Int32} {x3 : Int32} {x4 : Int32}  {σ : Nat → Nat → Int32} {P : Int32 → (Nat → Nat → Int32) → Prop} (H : K_X11_comeOf_14 scr x1 x2 x3 (x4 + 1) σ P) : K_X11_comeOf_35 scr x1 x2 x3 x4 σ P := by
  show XA scr 7 mX11_comeOf 172 4705 35 [some (.ref 136), some (.int x1), some (.int x2), some (.int x3), some (.int x4)] [] (hs σ) (pI P)
  refine XA.blk (e9 := 14) (ok := true) (ls' := [some (.ref 136), some (.int x1), some (.int x2), some (.int x3), some (.int (x4 + 1))]) (st' := []) (h' := hs σ) [(.iinc 4 1, 3, 4, 0, 0, 0, 1, 0), (.goto (-24), 3, 14, 0, 0, 0, 0, 0)] (by decide +kernel) rfl rfl ?_
  exact H
theorem E_X11_comeOf {scr : ScA}  {x1 : Int32} {x2 : Int32} {σ : Nat → Nat → Int32} {P : Int32 → (Nat → Nat → Int32) → Prop} (h : K_X11_comeOf_0 scr x1 x2 σ P) : CiA scr 7 mX11_comeOf [.ref 136, .int x1, .int x2] σ P := CtA.of (by decide) (Nat.le_of_ble_eq_true rfl) (XA.drop (by simp [leL, enL]) h)
def K_X11_come_0 (scr : ScA)  (x1 : Int32) (x2 : Int32) (σ : Nat → Nat → Int32) (P : Int32 → (Nat → Nat → Int32) → Prop) : Prop := XA scr 8 mX11_come 172 4705 0 [some (.ref 136), some (.int x1), some (.int x2)] [] (hs σ) (pI P)
def K_X11_come_5 (scr : ScA)  (x1 : Int32) (x2 : Int32) (y0 : Int32) (σ : Nat → Nat → Int32) (P : Int32 → (Nat → Nat → Int32) → Prop) : Prop := XA scr 8 mX11_come 172 4705 5 [some (.ref 136), some (.int x1), some (.int x2)] [.int y0] (hs σ) (pI P)
def K_X11_come_21 (scr : ScA)  (y0 : Int32) (σ : Nat → Nat → Int32) (P : Int32 → (Nat → Nat → Int32) → Prop) : Prop := XA scr 8 mX11_come 172 4705 21 [none, none, none] [.int y0] (hs σ) (pI P)
set_option maxRecDepth 20000 in
theorem W_X11_come_0 {scr : ScA}   {x1 : Int32} {x2 : Int32}  {σ : Nat → Nat → Int32} {P : Int32 → (Nat → Nat → Int32) → Prop} (H : CiA scr 5 mX11_isAcrobat [.ref 136, .int x1] σ (fun r9 σ' => K_X11_come_5 scr x1 x2 r9 σ' P)) : K_X11_come_0 scr x1 x2 σ P := by
  show XA scr 8 mX11_come 172 4705 0 [some (.ref 136), some (.int x1), some (.int x2)] [] (hs σ) (pI P)
  refine XA.blk (e9 := 2) (ok := true) (ls' := [some (.ref 136), some (.int x1), some (.int x2)]) (st' := [.int x1, .ref 136]) (h' := hs σ) [(.aload_n 0, 1, 0, 0, 0, 0, 0, 0), (.iload_n 1, 1, 1, 0, 0, 0, 0, 0)] (by decide +kernel) rfl rfl ?_
  refine XA.callV (as := [.int x1]) (rest := []) (mc' := 0) (ms' := 0) (idx := 155) (t := 1102) cv_X11_isAcrobat (by decide +kernel) rfl rfl rfl (Nat.le_of_ble_eq_true rfl) (Nat.le_of_ble_eq_true rfl) (Nat.le_of_ble_eq_true rfl) (Nat.le_of_ble_eq_true rfl) (H) (fun rv h' hp => ?_)
  obtain ⟨r9, s9, rfl, rfl, hK⟩ := hp
  exact ⟨rfl, rfl, hK⟩
set_option maxRecDepth 20000 in
theorem W_X11_come_5 {scr : ScA}   {x1 : Int32} {x2 : Int32} {y0 : Int32}  {σ : Nat → Nat → Int32} {P : Int32 → (Nat → Nat → Int32) → Prop} (H : (y0 = 0 → P (-2) σ) ∧ (¬ y0 = 0 → ((inV x2 0 1) = 0 → P (-2) σ) ∧ (¬ (inV x2 0 1) = 0 → CiA scr 7 mX11_comeOf [.ref 136, .int x1, .int x2] σ (fun r9 σ' => K_X11_come_21 scr r9 σ' P)))) : K_X11_come_5 scr x1 x2 y0 σ P := by
  show XA scr 8 mX11_come 172 4705 5 [some (.ref 136), some (.int x1), some (.int x2)] [.int y0] (hs σ) (pI P)
  refine XA.if_eq (19) 24 (by decide +kernel) (fun c1 => ?_) (fun c1 => ?_)
  · have H := H.1 c1
    refine XA.blk (e9 := 26) (ok := true) (ls' := [some (.ref 136), some (.int x1), some (.int x2)]) (st' := [.int (-2)]) (h' := hs σ) [(.bipush (-2), 2, 0, 0, 0, 0, (-2), 0)] (by decide +kernel) rfl rfl ?_
    exact XA.ret (some (.int (-2))) rfl (show ckRt mX11_come 26 .ireturn = true by decide +kernel) trivial (Nat.le_of_ble_eq_true rfl) (Nat.le_of_ble_eq_true rfl) ⟨_, _, rfl, rfl, H⟩
  · have H := H.2 c1
    refine XA.blk (e9 := 9) (ok := true) (ls' := [some (.ref 136), some (.int x1), some (.int x2)]) (st' := [.int x2]) (h' := hs σ) [(.iload_n 2, 1, 2, 0, 0, 0, 0, 0)] (by decide +kernel) rfl rfl ?_
    refine XA.callS (as := [.int x2]) (rest := []) (mc' := 0) (ms' := 0) (idx := 256) (t := 1203) cs_X11_isTwo (by decide +kernel) rfl rfl (Nat.le_of_ble_eq_true rfl) (Nat.le_of_ble_eq_true rfl) (Nat.le_of_ble_eq_true rfl) (Nat.le_of_ble_eq_true rfl) (pu_X11_isTwo scr σ x2) (fun rv h' hp => ?_)
    obtain ⟨rfl, rfl⟩ := hp
    refine ⟨rfl, rfl, ?_⟩
    show XA scr 8 mX11_come 172 4705 12 [some (.ref 136), some (.int x1), some (.int x2)] [.int (inV x2 0 1)] (hs σ) (pI P)
    refine XA.if_eq (12) 24 (by decide +kernel) (fun c2 => ?_) (fun c2 => ?_)
    · have H := H.1 c2
      refine XA.blk (e9 := 26) (ok := true) (ls' := [some (.ref 136), some (.int x1), some (.int x2)]) (st' := [.int (-2)]) (h' := hs σ) [(.bipush (-2), 2, 0, 0, 0, 0, (-2), 0)] (by decide +kernel) rfl rfl ?_
      exact XA.ret (some (.int (-2))) rfl (show ckRt mX11_come 26 .ireturn = true by decide +kernel) trivial (Nat.le_of_ble_eq_true rfl) (Nat.le_of_ble_eq_true rfl) ⟨_, _, rfl, rfl, H⟩
    · have H := H.2 c2
      refine XA.blk (e9 := 18) (ok := true) (ls' := [some (.ref 136), some (.int x1), some (.int x2)]) (st' := [.int x2, .int x1, .ref 136]) (h' := hs σ) [(.aload_n 0, 1, 0, 0, 0, 0, 0, 0), (.iload_n 1, 1, 1, 0, 0, 0, 0, 0), (.iload_n 2, 1, 2, 0, 0, 0, 0, 0)] (by decide +kernel) rfl rfl ?_
      refine XA.callV (as := [.int x1, .int x2]) (rest := []) (mc' := 0) (ms' := 0) (idx := 292) (t := 1270) cv_X11_comeOf (by decide +kernel) rfl rfl rfl (Nat.le_of_ble_eq_true rfl) (Nat.le_of_ble_eq_true rfl) (Nat.le_of_ble_eq_true rfl) (Nat.le_of_ble_eq_true rfl) (H) (fun rv h' hp => ?_)
      obtain ⟨r9, s9, rfl, rfl, hK⟩ := hp
      exact ⟨rfl, rfl, XA.drop (by simp [leL]) hK⟩
set_option maxRecDepth 20000 in
theorem W_X11_come_21 {scr : ScA}   {y0 : Int32}  {σ : Nat → Nat → Int32} {P : Int32 → (Nat → Nat → Int32) → Prop} (H : P y0 σ) : K_X11_come_21 scr y0 σ P := by
  show XA scr 8 mX11_come 172 4705 21 [none, none, none] [.int y0] (hs σ) (pI P)
  refine XA.blk (e9 := 26) (ok := true) (ls' := [none, none, none]) (st' := [.int y0]) (h' := hs σ) [(.goto 5, 3, 26, 0, 0, 0, 0, 0)] (by decide +kernel) rfl rfl ?_
  exact XA.ret (some (.int y0)) rfl (show ckRt mX11_come 26 .ireturn = true by decide +kernel) trivial (Nat.le_of_ble_eq_true rfl) (Nat.le_of_ble_eq_true rfl) ⟨_, _, rfl, rfl, H⟩
theorem E_X11_come {scr : ScA}  {x1 : Int32} {x2 : Int32} {σ : Nat → Nat → Int32} {P : Int32 → (Nat → Nat → Int32) → Prop} (h : K_X11_come_0 scr x1 x2 σ P) : CiA scr 8 mX11_come [.ref 136, .int x1, .int x2] σ P := CtA.of (by decide) (Nat.le_of_ble_eq_true rfl) (XA.drop (by simp [leL, enL]) h)
def K_X11_trainOf_0 (scr : ScA)  (x1 : Int32) (σ : Nat → Nat → Int32) (P : Int32 → (Nat → Nat → Int32) → Prop) : Prop := XA scr 7 mX11_trainOf 172 4705 0 [some (.ref 136), some (.int x1), none, none] [] (hs σ) (pI P)
def K_X11_trainOf_4 (scr : ScA)  (x1 : Int32) (σ : Nat → Nat → Int32) (P : Int32 → (Nat → Nat → Int32) → Prop) : Prop := XA scr 7 mX11_trainOf 172 4705 4 [some (.ref 136), some (.int x1), none, none] [] (hs σ) (pI P)
def K_X11_trainOf_6 (scr : ScA)  (x1 : Int32) (x2 : Int32) (σ : Nat → Nat → Int32) (P : Int32 → (Nat → Nat → Int32) → Prop) : Prop := XA scr 7 mX11_trainOf 172 4705 6 [some (.ref 136), some (.int x1), some (.int x2), none] [] (hs σ) (pI P)
def K_X11_trainOf_46 (scr : ScA)  (x1 : Int32) (x2 : Int32) (x3 : Int32) (σ : Nat → Nat → Int32) (P : Int32 → (Nat → Nat → Int32) → Prop) : Prop := XA scr 7 mX11_trainOf 172 4705 46 [some (.ref 136), some (.int x1), some (.int x2), some (.int x3)] [] (hs σ) (pI P)
set_option maxRecDepth 20000 in
theorem W_X11_trainOf_0 {scr : ScA}   {x1 : Int32}  {σ : Nat → Nat → Int32} {P : Int32 → (Nat → Nat → Int32) → Prop} (H : CvA scr 6 mX11_starts [.ref 136] σ (fun σ' => K_X11_trainOf_4 scr x1 σ' P)) : K_X11_trainOf_0 scr x1 σ P := by
  show XA scr 7 mX11_trainOf 172 4705 0 [some (.ref 136), some (.int x1), none, none] [] (hs σ) (pI P)
  refine XA.blk (e9 := 1) (ok := true) (ls' := [some (.ref 136), some (.int x1), none, none]) (st' := [.ref 136]) (h' := hs σ) [(.aload_n 0, 1, 0, 0, 0, 0, 0, 0)] (by decide +kernel) rfl rfl ?_
  refine XA.callV (as := []) (rest := []) (mc' := 0) (ms' := 0) (idx := 283) (t := 1258) cv_X11_starts (by decide +kernel) rfl rfl rfl (Nat.le_of_ble_eq_true rfl) (Nat.le_of_ble_eq_true rfl) (Nat.le_of_ble_eq_true rfl) (Nat.le_of_ble_eq_true rfl) (H) (fun rv h' hp => ?_)
  obtain ⟨s9, rfl, rfl, hK⟩ := hp
  exact ⟨rfl, rfl, hK⟩
set_option maxRecDepth 20000 in
theorem W_X11_trainOf_4 {scr : ScA}   {x1 : Int32}  {σ : Nat → Nat → Int32} {P : Int32 → (Nat → Nat → Int32) → Prop} (H : K_X11_trainOf_6 scr x1 0 σ P) : K_X11_trainOf_4 scr x1 σ P := by
  show XA scr 7 mX11_trainOf 172 4705 4 [some (.ref 136), some (.int x1), none, none] [] (hs σ) (pI P)
  refine XA.blk (e9 := 6) (ok := true) (ls' := [some (.ref 136), some (.int x1), some (.int 0), none]) (st' := []) (h' := hs σ) [(.iconst 0, 1, 0, 0, 0, 0, 0, 0), (.istore_n 2, 1, 2, 0, 0, 0, 0, 0)] (by decide +kernel) rfl rfl ?_
  exact H
set_option maxRecDepth 20000 in
theorem W_X11_trainOf_6 {scr : ScA}   {x1 : Int32} {x2 : Int32}  {σ : Nat → Nat → Int32} {P : Int32 → (Nat → Nat → Int32) → Prop} (H : ((σ 136 2) ≤ x2 → P (if ¬ x1 = 0 then σ 136 41 else σ 136 40 : Int32) σ) ∧ (¬ (σ 136 2) ≤ x2 → (inB x2 11 = true) ∧ (∀ σ1, σ1 = (su σ 140 (Int32.toNatClampNeg x2) (if ¬ (σ 140 (Int32.toNatClampNeg x2)) = 9 then (σ 140 (Int32.toNatClampNeg x2)) + 1 else 9 : Int32)) → CvA scr 4 mX11_tries [.ref 136, .int x2] σ1 (fun σ' => K_X11_trainOf_46 scr x1 x2 (σ 140 (Int32.toNatClampNeg x2)) σ' P)))) : K_X11_trainOf_6 scr x1 x2 σ P := by
  show XA scr 7 mX11_trainOf 172 4705 6 [some (.ref 136), some (.int x1), some (.int x2), none] [] (hs σ) (pI P)
  refine XA.blk (e9 := 11) (ok := true) (ls' := [some (.ref 136), some (.int x1), some (.int x2), none]) (st' := [.int (σ 136 2), .int x2]) (h' := hs σ) [(.iload_n 2, 1, 2, 0, 0, 0, 0, 0), (.aload_n 0, 1, 0, 0, 0, 0, 0, 0), (.getfield 141, 3, 11, 2, 0, 895, 0, 0)] (by decide +kernel) rfl rfl ?_
  refine XA.icmp_ge (48) 59 (by decide +kernel) (fun c1 => ?_) (fun c1 => ?_)
  · have H := H.1 c1
    refine XA.blk (e9 := 60) (ok := true) (ls' := [some (.ref 136), some (.int x1), some (.int x2), none]) (st' := [.int x1]) (h' := hs σ) [(.iload_n 1, 1, 1, 0, 0, 0, 0, 0)] (by decide +kernel) rfl rfl ?_
    have hJ60 : XA scr 7 mX11_trainOf 172 4705 74 [none, none, none, none] [.int (if ¬ x1 = 0 then σ 136 41 else σ 136 40 : Int32)] (hs σ) (pI P) := by
      exact XA.ret (some (.int (if ¬ x1 = 0 then σ 136 41 else σ 136 40 : Int32))) rfl (show ckRt mX11_trainOf 74 .ireturn = true by decide +kernel) trivial (Nat.le_of_ble_eq_true rfl) (Nat.le_of_ble_eq_true rfl) ⟨_, _, rfl, rfl, H⟩
    refine XA.if_ne (10) 70 (by decide +kernel) (fun c2 => ?_) (fun c2 => ?_)
    · refine XA.blk (e9 := 74) (ok := true) (ls' := [some (.ref 136), some (.int x1), some (.int x2), none]) (st' := [.int (σ 136 41)]) (h' := hs σ) [(.aload_n 0, 1, 0, 0, 0, 0, 0, 0), (.getfield 280, 3, 11, 41, 0, 934, 0, 0)] (by decide +kernel) rfl rfl ?_
      refine XA.drop (ls := [none, none, none, none]) (by simp [leL]) ?_
      simpa only [if_pos c2] using hJ60
    · refine XA.blk (e9 := 74) (ok := true) (ls' := [some (.ref 136), some (.int x1), some (.int x2), none]) (st' := [.int (σ 136 40)]) (h' := hs σ) [(.aload_n 0, 1, 0, 0, 0, 0, 0, 0), (.getfield 277, 3, 11, 40, 0, 933, 0, 0), (.goto 7, 3, 74, 0, 0, 0, 0, 0)] (by decide +kernel) rfl rfl ?_
      refine XA.drop (ls := [none, none, none, none]) (by simp [leL]) ?_
      simpa only [if_neg (not_not_intro c2)] using hJ60
  · have H := H.2 c1
    obtain ⟨o1, H⟩ := H
    refine XA.blk (e9 := 29) (ok := inB x2 11 && (true)) (ls' := [some (.ref 136), some (.int x1), some (.int x2), some (.int (σ 140 (Int32.toNatClampNeg x2)))]) (st' := [.int 9, .int (σ 140 (Int32.toNatClampNeg x2)), .int x2, .ref 140]) (h' := hs σ) [(.aload_n 0, 1, 0, 0, 0, 0, 0, 0), (.getfield 19, 3, 11, 5, 5, 898, 0, 0), (.iload_n 2, 1, 2, 0, 0, 0, 0, 0), (.iaload, 1, 0, 0, 0, 0, 0, 0), (.istore_n 3, 1, 3, 0, 0, 0, 0, 0), (.aload_n 0, 1, 0, 0, 0, 0, 0, 0), (.getfield 19, 3, 11, 5, 5, 898, 0, 0), (.iload_n 2, 1, 2, 0, 0, 0, 0, 0), (.iload_n 3, 1, 3, 0, 0, 0, 0, 0), (.bipush 9, 2, 0, 0, 0, 0, 9, 0)] (by decide +kernel) rfl (by simp only [o1, Bool.and_true, Bool.true_and]) ?_
    have hJ29 : XA scr 7 mX11_trainOf 172 4705 40 [some (.ref 136), some (.int x1), some (.int x2), some (.int (σ 140 (Int32.toNatClampNeg x2)))] [.int (if ¬ (σ 140 (Int32.toNatClampNeg x2)) = 9 then (σ 140 (Int32.toNatClampNeg x2)) + 1 else 9 : Int32), .int x2, .ref 140] (hs σ) (pI P) := by
      refine XA.blk (e9 := 41) (ok := inB x2 11 && (true)) (ls' := [some (.ref 136), some (.int x1), some (.int x2), some (.int (σ 140 (Int32.toNatClampNeg x2)))]) (st' := []) (h' := hs (su σ 140 (Int32.toNatClampNeg x2) (if ¬ (σ 140 (Int32.toNatClampNeg x2)) = 9 then (σ 140 (Int32.toNatClampNeg x2)) + 1 else 9 : Int32))) [(.iastore, 1, 0, 0, 0, 0, 0, 0)] (by decide +kernel) rfl (by simp only [o1, Bool.and_true, Bool.true_and]) ?_
      obtain ⟨σ1, hσ1⟩ : ∃ s9, s9 = (su σ 140 (Int32.toNatClampNeg x2) (if ¬ (σ 140 (Int32.toNatClampNeg x2)) = 9 then (σ 140 (Int32.toNatClampNeg x2)) + 1 else 9 : Int32)) := ⟨_, rfl⟩
      rw [← hσ1]
      have H := H σ1 hσ1
      refine XA.blk (e9 := 43) (ok := true) (ls' := [some (.ref 136), some (.int x1), some (.int x2), some (.int (σ 140 (Int32.toNatClampNeg x2)))]) (st' := [.int x2, .ref 136]) (h' := hs σ1) [(.aload_n 0, 1, 0, 0, 0, 0, 0, 0), (.iload_n 2, 1, 2, 0, 0, 0, 0, 0)] (by decide +kernel) rfl rfl ?_
      refine XA.callV (as := [.int x2]) (rest := []) (mc' := 0) (ms' := 0) (idx := 286) (t := 1262) cv_X11_tries (by decide +kernel) rfl rfl rfl (Nat.le_of_ble_eq_true rfl) (Nat.le_of_ble_eq_true rfl) (Nat.le_of_ble_eq_true rfl) (Nat.le_of_ble_eq_true rfl) (H) (fun rv h' hp => ?_)
      obtain ⟨s9, rfl, rfl, hK⟩ := hp
      exact ⟨rfl, rfl, hK⟩
    refine XA.icmp_ne (8) 37 (by decide +kernel) (fun c2 => ?_) (fun c2 => ?_)
    · refine XA.blk (e9 := 40) (ok := true) (ls' := [some (.ref 136), some (.int x1), some (.int x2), some (.int (σ 140 (Int32.toNatClampNeg x2)))]) (st' := [.int ((σ 140 (Int32.toNatClampNeg x2)) + 1), .int x2, .ref 140]) (h' := hs σ) [(.iload_n 3, 1, 3, 0, 0, 0, 0, 0), (.iconst 1, 1, 0, 0, 0, 0, 1, 0), (.iadd, 1, 0, 0, 0, 0, 0, 0)] (by decide +kernel) rfl rfl ?_
      simpa only [if_pos c2] using hJ29
    · refine XA.blk (e9 := 40) (ok := true) (ls' := [some (.ref 136), some (.int x1), some (.int x2), some (.int (σ 140 (Int32.toNatClampNeg x2)))]) (st' := [.int 9, .int x2, .ref 140]) (h' := hs σ) [(.bipush 9, 2, 0, 0, 0, 0, 9, 0), (.goto 6, 3, 40, 0, 0, 0, 0, 0)] (by decide +kernel) rfl rfl ?_
      simpa only [if_neg (not_not_intro c2)] using hJ29
set_option maxRecDepth 20000 in
theorem W_X11_trainOf_46 {scr : ScA}   {x1 : Int32} {x2 : Int32} {x3 : Int32}  {σ : Nat → Nat → Int32} {P : Int32 → (Nat → Nat → Int32) → Prop} (H : (inB x2 11 = true) ∧ (∀ σ1, σ1 = (su σ 140 (Int32.toNatClampNeg x2) x3) → K_X11_trainOf_6 scr x1 (x2 + 1) σ1 P)) : K_X11_trainOf_46 scr x1 x2 x3 σ P := by
  show XA scr 7 mX11_trainOf 172 4705 46 [some (.ref 136), some (.int x1), some (.int x2), some (.int x3)] [] (hs σ) (pI P)
  obtain ⟨o1, H⟩ := H
  refine XA.blk (e9 := 53) (ok := inB x2 11 && (true)) (ls' := [some (.ref 136), some (.int x1), some (.int x2), some (.int x3)]) (st' := []) (h' := hs (su σ 140 (Int32.toNatClampNeg x2) x3)) [(.aload_n 0, 1, 0, 0, 0, 0, 0, 0), (.getfield 19, 3, 11, 5, 5, 898, 0, 0), (.iload_n 2, 1, 2, 0, 0, 0, 0, 0), (.iload_n 3, 1, 3, 0, 0, 0, 0, 0), (.iastore, 1, 0, 0, 0, 0, 0, 0)] (by decide +kernel) rfl (by simp only [o1, Bool.and_true, Bool.true_and]) ?_
  obtain ⟨σ1, hσ1⟩ : ∃ s9, s9 = (su σ 140 (Int32.toNatClampNeg x2) x3) := ⟨_, rfl⟩
  rw [← hσ1]
  have H := H σ1 hσ1
  refine XA.blk (e9 := 6) (ok := true) (ls' := [some (.ref 136), some (.int x1), some (.int (x2 + 1)), some (.int x3)]) (st' := []) (h' := hs σ1) [(.iinc 2 1, 3, 2, 0, 0, 0, 1, 0), (.goto (-50), 3, 6, 0, 0, 0, 0, 0)] (by decide +kernel) rfl rfl ?_
  exact XA.drop (by simp [leL]) H
theorem E_X11_trainOf {scr : ScA}  {x1 : Int32} {σ : Nat → Nat → Int32} {P : Int32 → (Nat → Nat → Int32) → Prop} (h : K_X11_trainOf_0 scr x1 σ P) : CiA scr 7 mX11_trainOf [.ref 136, .int x1] σ P := CtA.of (by decide) (Nat.le_of_ble_eq_true rfl) (XA.drop (by simp [leL, enL]) h)
def K_X11_train_0 (scr : ScA)  (x1 : Int32) (σ : Nat → Nat → Int32) (P : Int32 → (Nat → Nat → Int32) → Prop) : Prop := XA scr 8 mX11_train 172 4705 0 [some (.ref 136), some (.int x1)] [] (hs σ) (pI P)
def K_X11_train_12 (scr : ScA)  (y0 : Int32) (σ : Nat → Nat → Int32) (P : Int32 → (Nat → Nat → Int32) → Prop) : Prop := XA scr 8 mX11_train 172 4705 12 [none, none] [.int y0] (hs σ) (pI P)
set_option maxRecDepth 20000 in
theorem W_X11_train_0 {scr : ScA}   {x1 : Int32}  {σ : Nat → Nat → Int32} {P : Int32 → (Nat → Nat → Int32) → Prop} (H : ((inV x1 0 1) = 0 → P (-2) σ) ∧ (¬ (inV x1 0 1) = 0 → CiA scr 7 mX11_trainOf [.ref 136, .int x1] σ (fun r9 σ' => K_X11_train_12 scr r9 σ' P))) : K_X11_train_0 scr x1 σ P := by
  show XA scr 8 mX11_train 172 4705 0 [some (.ref 136), some (.int x1)] [] (hs σ) (pI P)
  refine XA.blk (e9 := 1) (ok := true) (ls' := [some (.ref 136), some (.int x1)]) (st' := [.int x1]) (h' := hs σ) [(.iload_n 1, 1, 1, 0, 0, 0, 0, 0)] (by decide +kernel) rfl rfl ?_
  refine XA.callS (as := [.int x1]) (rest := []) (mc' := 0) (ms' := 0) (idx := 256) (t := 1203) cs_X11_isTwo (by decide +kernel) rfl rfl (Nat.le_of_ble_eq_true rfl) (Nat.le_of_ble_eq_true rfl) (Nat.le_of_ble_eq_true rfl) (Nat.le_of_ble_eq_true rfl) (pu_X11_isTwo scr σ x1) (fun rv h' hp => ?_)
  obtain ⟨rfl, rfl⟩ := hp
  refine ⟨rfl, rfl, ?_⟩
  show XA scr 8 mX11_train 172 4705 4 [some (.ref 136), some (.int x1)] [.int (inV x1 0 1)] (hs σ) (pI P)
  refine XA.if_eq (11) 15 (by decide +kernel) (fun c1 => ?_) (fun c1 => ?_)
  · have H := H.1 c1
    refine XA.blk (e9 := 17) (ok := true) (ls' := [some (.ref 136), some (.int x1)]) (st' := [.int (-2)]) (h' := hs σ) [(.bipush (-2), 2, 0, 0, 0, 0, (-2), 0)] (by decide +kernel) rfl rfl ?_
    exact XA.ret (some (.int (-2))) rfl (show ckRt mX11_train 17 .ireturn = true by decide +kernel) trivial (Nat.le_of_ble_eq_true rfl) (Nat.le_of_ble_eq_true rfl) ⟨_, _, rfl, rfl, H⟩
  · have H := H.2 c1
    refine XA.blk (e9 := 9) (ok := true) (ls' := [some (.ref 136), some (.int x1)]) (st' := [.int x1, .ref 136]) (h' := hs σ) [(.aload_n 0, 1, 0, 0, 0, 0, 0, 0), (.iload_n 1, 1, 1, 0, 0, 0, 0, 0)] (by decide +kernel) rfl rfl ?_
    refine XA.callV (as := [.int x1]) (rest := []) (mc' := 0) (ms' := 0) (idx := 295) (t := 1278) cv_X11_trainOf (by decide +kernel) rfl rfl rfl (Nat.le_of_ble_eq_true rfl) (Nat.le_of_ble_eq_true rfl) (Nat.le_of_ble_eq_true rfl) (Nat.le_of_ble_eq_true rfl) (H) (fun rv h' hp => ?_)
    obtain ⟨r9, s9, rfl, rfl, hK⟩ := hp
    exact ⟨rfl, rfl, XA.drop (by simp [leL]) hK⟩
set_option maxRecDepth 20000 in
theorem W_X11_train_12 {scr : ScA}   {y0 : Int32}  {σ : Nat → Nat → Int32} {P : Int32 → (Nat → Nat → Int32) → Prop} (H : P y0 σ) : K_X11_train_12 scr y0 σ P := by
  show XA scr 8 mX11_train 172 4705 12 [none, none] [.int y0] (hs σ) (pI P)
  refine XA.blk (e9 := 17) (ok := true) (ls' := [none, none]) (st' := [.int y0]) (h' := hs σ) [(.goto 5, 3, 17, 0, 0, 0, 0, 0)] (by decide +kernel) rfl rfl ?_
  exact XA.ret (some (.int y0)) rfl (show ckRt mX11_train 17 .ireturn = true by decide +kernel) trivial (Nat.le_of_ble_eq_true rfl) (Nat.le_of_ble_eq_true rfl) ⟨_, _, rfl, rfl, H⟩
theorem E_X11_train {scr : ScA}  {x1 : Int32} {σ : Nat → Nat → Int32} {P : Int32 → (Nat → Nat → Int32) → Prop} (h : K_X11_train_0 scr x1 σ P) : CiA scr 8 mX11_train [.ref 136, .int x1] σ P := CtA.of (by decide) (Nat.le_of_ble_eq_true rfl) (XA.drop (by simp [leL, enL]) h)
def K_X11_isSpared_0 (scr : ScA)  (x1 : Int32) (σ : Nat → Nat → Int32) (P : Int32 → (Nat → Nat → Int32) → Prop) : Prop := XA scr 4 mX11_isSpared 172 4705 0 [some (.ref 136), some (.int x1)] [] (hs σ) (pI P)
def K_X11_isSpared_9 (scr : ScA)   (σ : Nat → Nat → Int32) (P : Int32 → (Nat → Nat → Int32) → Prop) : Prop := XA scr 4 mX11_isSpared 172 4705 9 [some (.ref 136), none] [] (hs σ) (pI P)
set_option maxRecDepth 20000 in
theorem W_X11_isSpared_0 {scr : ScA}   {x1 : Int32}  {σ : Nat → Nat → Int32} {P : Int32 → (Nat → Nat → Int32) → Prop} (H : ∀ σ1, σ1 = (su σ 136 16 x1) → CvA scr 3 mX11_runs [.ref 136] σ1 (fun σ' => K_X11_isSpared_9 scr σ' P)) : K_X11_isSpared_0 scr x1 σ P := by
  show XA scr 4 mX11_isSpared 172 4705 0 [some (.ref 136), some (.int x1)] [] (hs σ) (pI P)
  refine XA.blk (e9 := 5) (ok := true) (ls' := [some (.ref 136), some (.int x1)]) (st' := []) (h' := hs (su σ 136 16 x1)) [(.aload_n 0, 1, 0, 0, 0, 0, 0, 0), (.iload_n 1, 1, 1, 0, 0, 0, 0, 0), (.putfield 180, 3, 11, 16, 0, 909, 0, 0)] (by decide +kernel) rfl rfl ?_
  obtain ⟨σ1, hσ1⟩ : ∃ s9, s9 = (su σ 136 16 x1) := ⟨_, rfl⟩
  rw [← hσ1]
  have H := H σ1 hσ1
  refine XA.blk (e9 := 6) (ok := true) (ls' := [some (.ref 136), some (.int x1)]) (st' := [.ref 136]) (h' := hs σ1) [(.aload_n 0, 1, 0, 0, 0, 0, 0, 0)] (by decide +kernel) rfl rfl ?_
  refine XA.callV (as := []) (rest := []) (mc' := 0) (ms' := 0) (idx := 244) (t := 1153) cv_X11_runs (by decide +kernel) rfl rfl rfl (Nat.le_of_ble_eq_true rfl) (Nat.le_of_ble_eq_true rfl) (Nat.le_of_ble_eq_true rfl) (Nat.le_of_ble_eq_true rfl) (H) (fun rv h' hp => ?_)
  obtain ⟨s9, rfl, rfl, hK⟩ := hp
  exact ⟨rfl, rfl, XA.drop (by simp [leL]) hK⟩
set_option maxRecDepth 20000 in
theorem W_X11_isSpared_9 {scr : ScA}     {σ : Nat → Nat → Int32} {P : Int32 → (Nat → Nat → Int32) → Prop} (H : (((if ¬ (σ 136 18) = 0 then 0 else 1 : Int32) : Int32) = 0 ∨ ((if ¬ (σ 136 18) = 0 then 0 else 1 : Int32) : Int32) = 1) ∧ P (if ¬ (σ 136 18) = 0 then 0 else 1 : Int32) σ) : K_X11_isSpared_9 scr σ P := by
  show XA scr 4 mX11_isSpared 172 4705 9 [some (.ref 136), none] [] (hs σ) (pI P)
  refine XA.blk (e9 := 13) (ok := true) (ls' := [some (.ref 136), none]) (st' := [.int (σ 136 18)]) (h' := hs σ) [(.aload_n 0, 1, 0, 0, 0, 0, 0, 0), (.getfield 192, 3, 11, 18, 0, 911, 0, 0)] (by decide +kernel) rfl rfl ?_
  have hJ13 : XA scr 4 mX11_isSpared 172 4705 21 [none, none] [.int (if ¬ (σ 136 18) = 0 then 0 else 1 : Int32)] (hs σ) (pI P) := by
    exact XA.ret (some (.int (if ¬ (σ 136 18) = 0 then 0 else 1 : Int32))) rfl (show ckRt mX11_isSpared 21 .ireturn = true by decide +kernel) H.1 (Nat.le_of_ble_eq_true rfl) (Nat.le_of_ble_eq_true rfl) ⟨_, _, rfl, rfl, H.2⟩
  refine XA.if_ne (7) 20 (by decide +kernel) (fun c1 => ?_) (fun c1 => ?_)
  · refine XA.blk (e9 := 21) (ok := true) (ls' := [some (.ref 136), none]) (st' := [.int 0]) (h' := hs σ) [(.iconst 0, 1, 0, 0, 0, 0, 0, 0)] (by decide +kernel) rfl rfl ?_
    refine XA.drop (ls := [none, none]) (by simp [leL]) ?_
    simpa only [if_pos c1] using hJ13
  · refine XA.blk (e9 := 21) (ok := true) (ls' := [some (.ref 136), none]) (st' := [.int 1]) (h' := hs σ) [(.iconst 1, 1, 0, 0, 0, 0, 1, 0), (.goto 4, 3, 21, 0, 0, 0, 0, 0)] (by decide +kernel) rfl rfl ?_
    refine XA.drop (ls := [none, none]) (by simp [leL]) ?_
    simpa only [if_neg (not_not_intro c1)] using hJ13
theorem E_X11_isSpared {scr : ScA}  {x1 : Int32} {σ : Nat → Nat → Int32} {P : Int32 → (Nat → Nat → Int32) → Prop} (h : K_X11_isSpared_0 scr x1 σ P) : CiA scr 4 mX11_isSpared [.ref 136, .int x1] σ P := CtA.of (by decide) (Nat.le_of_ble_eq_true rfl) (XA.drop (by simp [leL, enL]) h)
