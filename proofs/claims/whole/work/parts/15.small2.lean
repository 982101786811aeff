def K_X11_isMoment_0 (scr : ScA)  (x0 : Int32) (σ : Nat → Nat → Int32) (P : Int32 → (Nat → Nat → Int32) → Prop) : Prop := XA scr 1 mX11_isMoment 172 4705 0 [some (.int x0)] [] (hs σ) (pI P)
set_option maxRecDepth 20000 in
theorem W_X11_isMoment_0 {scr : ScA}   {x0 : Int32}  {σ : Nat → Nat → Int32} {P : Int32 → (Nat → Nat → Int32) → Prop} (H : ((inV x0 0 23 : Int32) = 0 ∨ (inV x0 0 23 : Int32) = 1) ∧ P (inV x0 0 23) σ) : K_X11_isMoment_0 scr x0 σ P := by
  show XA scr 1 mX11_isMoment 172 4705 0 [some (.int x0)] [] (hs σ) (pI P)
  refine XA.blk (e9 := 4) (ok := true) (ls' := [some (.int x0)]) (st' := [.int 23, .int 0, .int x0]) (h' := hs σ) [(.iload_n 0, 1, 0, 0, 0, 0, 0, 0), (.iconst 0, 1, 0, 0, 0, 0, 0, 0), (.bipush 23, 2, 0, 0, 0, 0, 23, 0)] (by decide +kernel) rfl rfl ?_
  refine XA.callS (as := [.int x0, .int 0, .int 23]) (rest := []) (mc' := 0) (ms' := 0) (idx := 118) (t := 1061) cs_X11_in (by decide +kernel) rfl rfl (Nat.le_of_ble_eq_true rfl) (Nat.le_of_ble_eq_true rfl) (Nat.le_of_ble_eq_true rfl) (Nat.le_of_ble_eq_true rfl) (pu_X11_in scr σ x0 0 23) (fun rv h' hp => ?_)
  obtain ⟨rfl, rfl⟩ := hp
  refine ⟨rfl, rfl, ?_⟩
  show XA scr 1 mX11_isMoment 172 4705 7 [some (.int x0)] [.int (inV x0 0 23)] (hs σ) (pI P)
  exact XA.ret (some (.int (inV x0 0 23))) rfl (show ckRt mX11_isMoment 7 .ireturn = true by decide +kernel) H.1 (Nat.le_of_ble_eq_true rfl) (Nat.le_of_ble_eq_true rfl) ⟨_, _, rfl, rfl, H.2⟩
theorem E_X11_isMoment {scr : ScA}  {x0 : Int32} {σ : Nat → Nat → Int32} {P : Int32 → (Nat → Nat → Int32) → Prop} (h : K_X11_isMoment_0 scr x0 σ P) : CiA scr 1 mX11_isMoment [.int x0] σ P := CtA.of (by decide) (Nat.le_of_ble_eq_true rfl) (XA.drop (by simp [leL, enL]) h)
def K_X11_isTen_0 (scr : ScA)  (x0 : Int32) (σ : Nat → Nat → Int32) (P : Int32 → (Nat → Nat → Int32) → Prop) : Prop := XA scr 1 mX11_isTen 172 4705 0 [some (.int x0)] [] (hs σ) (pI P)
set_option maxRecDepth 20000 in
theorem W_X11_isTen_0 {scr : ScA}   {x0 : Int32}  {σ : Nat → Nat → Int32} {P : Int32 → (Nat → Nat → Int32) → Prop} (H : ((inV x0 0 9 : Int32) = 0 ∨ (inV x0 0 9 : Int32) = 1) ∧ P (inV x0 0 9) σ) : K_X11_isTen_0 scr x0 σ P := by
  show XA scr 1 mX11_isTen 172 4705 0 [some (.int x0)] [] (hs σ) (pI P)
  refine XA.blk (e9 := 4) (ok := true) (ls' := [some (.int x0)]) (st' := [.int 9, .int 0, .int x0]) (h' := hs σ) [(.iload_n 0, 1, 0, 0, 0, 0, 0, 0), (.iconst 0, 1, 0, 0, 0, 0, 0, 0), (.bipush 9, 2, 0, 0, 0, 0, 9, 0)] (by decide +kernel) rfl rfl ?_
  refine XA.callS (as := [.int x0, .int 0, .int 9]) (rest := []) (mc' := 0) (ms' := 0) (idx := 118) (t := 1061) cs_X11_in (by decide +kernel) rfl rfl (Nat.le_of_ble_eq_true rfl) (Nat.le_of_ble_eq_true rfl) (Nat.le_of_ble_eq_true rfl) (Nat.le_of_ble_eq_true rfl) (pu_X11_in scr σ x0 0 9) (fun rv h' hp => ?_)
  obtain ⟨rfl, rfl⟩ := hp
  refine ⟨rfl, rfl, ?_⟩
  show XA scr 1 mX11_isTen 172 4705 7 [some (.int x0)] [.int (inV x0 0 9)] (hs σ) (pI P)
  exact XA.ret (some (.int (inV x0 0 9))) rfl (show ckRt mX11_isTen 7 .ireturn = true by decide +kernel) H.1 (Nat.le_of_ble_eq_true rfl) (Nat.le_of_ble_eq_true rfl) ⟨_, _, rfl, rfl, H.2⟩
theorem E_X11_isTen {scr : ScA}  {x0 : Int32} {σ : Nat → Nat → Int32} {P : Int32 → (Nat → Nat → Int32) → Prop} (h : K_X11_isTen_0 scr x0 σ P) : CiA scr 1 mX11_isTen [.int x0] σ P := CtA.of (by decide) (Nat.le_of_ble_eq_true rfl) (XA.drop (by simp [leL, enL]) h)
def K_X11_isTwo_0 (scr : ScA)  (x0 : Int32) (σ : Nat → Nat → Int32) (P : Int32 → (Nat → Nat → Int32) → Prop) : Prop := XA scr 1 mX11_isTwo 172 4705 0 [some (.int x0)] [] (hs σ) (pI P)
set_option maxRecDepth 20000 in
theorem W_X11_isTwo_0 {scr : ScA}   {x0 : Int32}  {σ : Nat → Nat → Int32} {P : Int32 → (Nat → Nat → Int32) → Prop} (H : ((inV x0 0 1 : Int32) = 0 ∨ (inV x0 0 1 : Int32) = 1) ∧ P (inV x0 0 1) σ) : K_X11_isTwo_0 scr x0 σ P := by
  show XA scr 1 mX11_isTwo 172 4705 0 [some (.int x0)] [] (hs σ) (pI P)
  refine XA.blk (e9 := 3) (ok := true) (ls' := [some (.int x0)]) (st' := [.int 1, .int 0, .int x0]) (h' := hs σ) [(.iload_n 0, 1, 0, 0, 0, 0, 0, 0), (.iconst 0, 1, 0, 0, 0, 0, 0, 0), (.iconst 1, 1, 0, 0, 0, 0, 1, 0)] (by decide +kernel) rfl rfl ?_
  refine XA.callS (as := [.int x0, .int 0, .int 1]) (rest := []) (mc' := 0) (ms' := 0) (idx := 118) (t := 1061) cs_X11_in (by decide +kernel) rfl rfl (Nat.le_of_ble_eq_true rfl) (Nat.le_of_ble_eq_true rfl) (Nat.le_of_ble_eq_true rfl) (Nat.le_of_ble_eq_true rfl) (pu_X11_in scr σ x0 0 1) (fun rv h' hp => ?_)
  obtain ⟨rfl, rfl⟩ := hp
  refine ⟨rfl, rfl, ?_⟩
  show XA scr 1 mX11_isTwo 172 4705 6 [some (.int x0)] [.int (inV x0 0 1)] (hs σ) (pI P)
  exact XA.ret (some (.int (inV x0 0 1))) rfl (show ckRt mX11_isTwo 6 .ireturn = true by decide +kernel) H.1 (Nat.le_of_ble_eq_true rfl) (Nat.le_of_ble_eq_true rfl) ⟨_, _, rfl, rfl, H.2⟩
theorem E_X11_isTwo {scr : ScA}  {x0 : Int32} {σ : Nat → Nat → Int32} {P : Int32 → (Nat → Nat → Int32) → Prop} (h : K_X11_isTwo_0 scr x0 σ P) : CiA scr 1 mX11_isTwo [.int x0] σ P := CtA.of (by decide) (Nat.le_of_ble_eq_true rfl) (XA.drop (by simp [leL, enL]) h)
def K_X11_isThree_0 (scr : ScA)  (x0 : Int32) (σ : Nat → Nat → Int32) (P : Int32 → (Nat → Nat → Int32) → Prop) : Prop := XA scr 1 mX11_isThree 172 4705 0 [some (.int x0)] [] (hs σ) (pI P)
set_option maxRecDepth 20000 in
theorem W_X11_isThree_0 {scr : ScA}   {x0 : Int32}  {σ : Nat → Nat → Int32} {P : Int32 → (Nat → Nat → Int32) → Prop} (H : ((inV x0 0 2 : Int32) = 0 ∨ (inV x0 0 2 : Int32) = 1) ∧ P (inV x0 0 2) σ) : K_X11_isThree_0 scr x0 σ P := by
  show XA scr 1 mX11_isThree 172 4705 0 [some (.int x0)] [] (hs σ) (pI P)
  refine XA.blk (e9 := 3) (ok := true) (ls' := [some (.int x0)]) (st' := [.int 2, .int 0, .int x0]) (h' := hs σ) [(.iload_n 0, 1, 0, 0, 0, 0, 0, 0), (.iconst 0, 1, 0, 0, 0, 0, 0, 0), (.iconst 2, 1, 0, 0, 0, 0, 2, 0)] (by decide +kernel) rfl rfl ?_
  refine XA.callS (as := [.int x0, .int 0, .int 2]) (rest := []) (mc' := 0) (ms' := 0) (idx := 118) (t := 1061) cs_X11_in (by decide +kernel) rfl rfl (Nat.le_of_ble_eq_true rfl) (Nat.le_of_ble_eq_true rfl) (Nat.le_of_ble_eq_true rfl) (Nat.le_of_ble_eq_true rfl) (pu_X11_in scr σ x0 0 2) (fun rv h' hp => ?_)
  obtain ⟨rfl, rfl⟩ := hp
  refine ⟨rfl, rfl, ?_⟩
  show XA scr 1 mX11_isThree 172 4705 6 [some (.int x0)] [.int (inV x0 0 2)] (hs σ) (pI P)
  exact XA.ret (some (.int (inV x0 0 2))) rfl (show ckRt mX11_isThree 6 .ireturn = true by decide +kernel) H.1 (Nat.le_of_ble_eq_true rfl) (Nat.le_of_ble_eq_true rfl) ⟨_, _, rfl, rfl, H.2⟩
theorem E_X11_isThree {scr : ScA}  {x0 : Int32} {σ : Nat → Nat → Int32} {P : Int32 → (Nat → Nat → Int32) → Prop} (h : K_X11_isThree_0 scr x0 σ P) : CiA scr 1 mX11_isThree [.int x0] σ P := CtA.of (by decide) (Nat.le_of_ble_eq_true rfl) (XA.drop (by simp [leL, enL]) h)
def K_X11_isSheet_0 (scr : ScA)  (x0 : Int32) (σ : Nat → Nat → Int32) (P : Int32 → (Nat → Nat → Int32) → Prop) : Prop := XA scr 1 mX11_isSheet 172 4705 0 [some (.int x0)] [] (hs σ) (pI P)
set_option maxRecDepth 20000 in
theorem W_X11_isSheet_0 {scr : ScA}   {x0 : Int32}  {σ : Nat → Nat → Int32} {P : Int32 → (Nat → Nat → Int32) → Prop} (H : ((inV x0 0 3 : Int32) = 0 ∨ (inV x0 0 3 : Int32) = 1) ∧ P (inV x0 0 3) σ) : K_X11_isSheet_0 scr x0 σ P := by
  show XA scr 1 mX11_isSheet 172 4705 0 [some (.int x0)] [] (hs σ) (pI P)
  refine XA.blk (e9 := 3) (ok := true) (ls' := [some (.int x0)]) (st' := [.int 3, .int 0, .int x0]) (h' := hs σ) [(.iload_n 0, 1, 0, 0, 0, 0, 0, 0), (.iconst 0, 1, 0, 0, 0, 0, 0, 0), (.iconst 3, 1, 0, 0, 0, 0, 3, 0)] (by decide +kernel) rfl rfl ?_
  refine XA.callS (as := [.int x0, .int 0, .int 3]) (rest := []) (mc' := 0) (ms' := 0) (idx := 118) (t := 1061) cs_X11_in (by decide +kernel) rfl rfl (Nat.le_of_ble_eq_true rfl) (Nat.le_of_ble_eq_true rfl) (Nat.le_of_ble_eq_true rfl) (Nat.le_of_ble_eq_true rfl) (pu_X11_in scr σ x0 0 3) (fun rv h' hp => ?_)
  obtain ⟨rfl, rfl⟩ := hp
  refine ⟨rfl, rfl, ?_⟩
  show XA scr 1 mX11_isSheet 172 4705 6 [some (.int x0)] [.int (inV x0 0 3)] (hs σ) (pI P)
  exact XA.ret (some (.int (inV x0 0 3))) rfl (show ckRt mX11_isSheet 6 .ireturn = true by decide +kernel) H.1 (Nat.le_of_ble_eq_true rfl) (Nat.le_of_ble_eq_true rfl) ⟨_, _, rfl, rfl, H.2⟩
theorem E_X11_isSheet {scr : ScA}  {x0 : Int32} {σ : Nat → Nat → Int32} {P : Int32 → (Nat → Nat → Int32) → Prop} (h : K_X11_isSheet_0 scr x0 σ P) : CiA scr 1 mX11_isSheet [.int x0] σ P := CtA.of (by decide) (Nat.le_of_ble_eq_true rfl) (XA.drop (by simp [leL, enL]) h)
def K_X11_isUp_0 (scr : ScA)  (x1 : Int32) (σ : Nat → Nat → Int32) (P : Int32 → (Nat → Nat → Int32) → Prop) : Prop := XA scr 1 mX11_isUp 172 4705 0 [some (.ref 136), some (.int x1)] [] (hs σ) (pI P)
set_option maxRecDepth 20000 in
theorem W_X11_isUp_0 {scr : ScA}   {x1 : Int32}  {σ : Nat → Nat → Int32} {P : Int32 → (Nat → Nat → Int32) → Prop} (H : ((iiV (σ 136 25) x1 : Int32) = 0 ∨ (iiV (σ 136 25) x1 : Int32) = 1) ∧ P (iiV (σ 136 25) x1) σ) : K_X11_isUp_0 scr x1 σ P := by
  show XA scr 1 mX11_isUp 172 4705 0 [some (.ref 136), some (.int x1)] [] (hs σ) (pI P)
  refine XA.blk (e9 := 5) (ok := true) (ls' := [some (.ref 136), some (.int x1)]) (st' := [.int x1, .int (σ 136 25)]) (h' := hs σ) [(.aload_n 0, 1, 0, 0, 0, 0, 0, 0), (.getfield 183, 3, 11, 25, 0, 918, 0, 0), (.iload_n 1, 1, 1, 0, 0, 0, 0, 0)] (by decide +kernel) rfl rfl ?_
  refine XA.callS (as := [.int (σ 136 25), .int x1]) (rest := []) (mc' := 0) (ms' := 0) (idx := 186) (t := 1161) cs_X11_isIn (by decide +kernel) rfl rfl (Nat.le_of_ble_eq_true rfl) (Nat.le_of_ble_eq_true rfl) (Nat.le_of_ble_eq_true rfl) (Nat.le_of_ble_eq_true rfl) (pu_X11_isIn scr σ (σ 136 25) x1) (fun rv h' hp => ?_)
  obtain ⟨rfl, rfl⟩ := hp
  refine ⟨rfl, rfl, ?_⟩
  show XA scr 1 mX11_isUp 172 4705 8 [some (.ref 136), some (.int x1)] [.int (iiV (σ 136 25) x1)] (hs σ) (pI P)
  exact XA.ret (some (.int (iiV (σ 136 25) x1))) rfl (show ckRt mX11_isUp 8 .ireturn = true by decide +kernel) H.1 (Nat.le_of_ble_eq_true rfl) (Nat.le_of_ble_eq_true rfl) ⟨_, _, rfl, rfl, H.2⟩
theorem E_X11_isUp {scr : ScA}  {x1 : Int32} {σ : Nat → Nat → Int32} {P : Int32 → (Nat → Nat → Int32) → Prop} (h : K_X11_isUp_0 scr x1 σ P) : CiA scr 1 mX11_isUp [.ref 136, .int x1] σ P := CtA.of (by decide) (Nat.le_of_ble_eq_true rfl) (XA.drop (by simp [leL, enL]) h)
def K_X11_lacks_0 (scr : ScA)  (x1 : Int32) (x2 : Int32) (x3 : Int32) (σ : Nat → Nat → Int32) (P : Int32 → (Nat → Nat → Int32) → Prop) : Prop := XA scr 1 mX11_lacks 172 4705 0 [some (.ref 136), some (.int x1), some (.int x2), some (.int x3)] [] (hs σ) (pI P)
set_option maxRecDepth 20000 in
theorem W_X11_lacks_0 {scr : ScA}   {x1 : Int32} {x2 : Int32} {x3 : Int32}  {σ : Nat → Nat → Int32} {P : Int32 → (Nat → Nat → Int32) → Prop} (H : (inB x1 4 = true) ∧ (P (if ¬ (σ 167 (Int32.toNatClampNeg x1)) = 0 then (if (σ 168 (Int32.toNatClampNeg x1)) = x2 then (if (inV x3 0 ((σ 169 (Int32.toNatClampNeg x1)) - 1)) = 0 then 2 else 0 : Int32) else 3 : Int32) else 1 : Int32) σ)) : K_X11_lacks_0 scr x1 x2 x3 σ P := by
  show XA scr 1 mX11_lacks 172 4705 0 [some (.ref 136), some (.int x1), some (.int x2), some (.int x3)] [] (hs σ) (pI P)
  obtain ⟨o1, H⟩ := H
  refine XA.blk (e9 := 6) (ok := inB x1 4 && (true)) (ls' := [some (.ref 136), some (.int x1), some (.int x2), some (.int x3)]) (st' := [.int (σ 167 (Int32.toNatClampNeg x1))]) (h' := hs σ) [(.aload_n 0, 1, 0, 0, 0, 0, 0, 0), (.getfield 100, 3, 11, 48, 32, 941, 0, 0), (.iload_n 1, 1, 1, 0, 0, 0, 0, 0), (.baload, 1, 0, 0, 0, 0, 0, 0)] (by decide +kernel) rfl (by simp only [o1, Bool.and_true, Bool.true_and]) ?_
  have hJ6 : XA scr 1 mX11_lacks 172 4705 48 [none, none, none, none] [.int (if ¬ (σ 167 (Int32.toNatClampNeg x1)) = 0 then (if (σ 168 (Int32.toNatClampNeg x1)) = x2 then (if (inV x3 0 ((σ 169 (Int32.toNatClampNeg x1)) - 1)) = 0 then 2 else 0 : Int32) else 3 : Int32) else 1 : Int32)] (hs σ) (pI P) := by
    exact XA.ret (some (.int (if ¬ (σ 167 (Int32.toNatClampNeg x1)) = 0 then (if (σ 168 (Int32.toNatClampNeg x1)) = x2 then (if (inV x3 0 ((σ 169 (Int32.toNatClampNeg x1)) - 1)) = 0 then 2 else 0 : Int32) else 3 : Int32) else 1 : Int32))) rfl (show ckRt mX11_lacks 48 .ireturn = true by decide +kernel) trivial (Nat.le_of_ble_eq_true rfl) (Nat.le_of_ble_eq_true rfl) ⟨_, _, rfl, rfl, H⟩
  refine XA.if_ne (7) 13 (by decide +kernel) (fun c1 => ?_) (fun c1 => ?_)
  · refine XA.blk (e9 := 20) (ok := inB x1 4 && (true)) (ls' := [some (.ref 136), some (.int x1), some (.int x2), some (.int x3)]) (st' := [.int x2, .int (σ 168 (Int32.toNatClampNeg x1))]) (h' := hs σ) [(.aload_n 0, 1, 0, 0, 0, 0, 0, 0), (.getfield 104, 3, 11, 49, 33, 942, 0, 0), (.iload_n 1, 1, 1, 0, 0, 0, 0, 0), (.iaload, 1, 0, 0, 0, 0, 0, 0), (.iload_n 2, 1, 2, 0, 0, 0, 0, 0)] (by decide +kernel) rfl (by simp only [o1, Bool.and_true, Bool.true_and]) ?_
    have hJ20 : XA scr 1 mX11_lacks 172 4705 48 [none, none, none, none] [.int (if (σ 168 (Int32.toNatClampNeg x1)) = x2 then (if (inV x3 0 ((σ 169 (Int32.toNatClampNeg x1)) - 1)) = 0 then 2 else 0 : Int32) else 3 : Int32)] (hs σ) (pI P) := by
      simpa only [if_pos c1] using hJ6
    refine XA.icmp_eq (7) 27 (by decide +kernel) (fun c2 => ?_) (fun c2 => ?_)
    · refine XA.blk (e9 := 37) (ok := inB x1 4 && (true)) (ls' := [some (.ref 136), some (.int x1), some (.int x2), some (.int x3)]) (st' := [.int ((σ 169 (Int32.toNatClampNeg x1)) - 1), .int 0, .int x3]) (h' := hs σ) [(.iload_n 3, 1, 3, 0, 0, 0, 0, 0), (.iconst 0, 1, 0, 0, 0, 0, 0, 0), (.aload_n 0, 1, 0, 0, 0, 0, 0, 0), (.getfield 107, 3, 11, 50, 34, 943, 0, 0), (.iload_n 1, 1, 1, 0, 0, 0, 0, 0), (.iaload, 1, 0, 0, 0, 0, 0, 0), (.iconst 1, 1, 0, 0, 0, 0, 1, 0), (.isub, 1, 0, 0, 0, 0, 0, 0)] (by decide +kernel) rfl (by simp only [o1, Bool.and_true, Bool.true_and]) ?_
      refine XA.callS (as := [.int x3, .int 0, .int ((σ 169 (Int32.toNatClampNeg x1)) - 1)]) (rest := []) (mc' := 0) (ms' := 0) (idx := 118) (t := 1061) cs_X11_in (by decide +kernel) rfl rfl (Nat.le_of_ble_eq_true rfl) (Nat.le_of_ble_eq_true rfl) (Nat.le_of_ble_eq_true rfl) (Nat.le_of_ble_eq_true rfl) (pu_X11_in scr σ x3 0 ((σ 169 (Int32.toNatClampNeg x1)) - 1)) (fun rv h' hp => ?_)
      obtain ⟨rfl, rfl⟩ := hp
      refine ⟨rfl, rfl, ?_⟩
      show XA scr 1 mX11_lacks 172 4705 40 [some (.ref 136), some (.int x1), some (.int x2), some (.int x3)] [.int (inV x3 0 ((σ 169 (Int32.toNatClampNeg x1)) - 1))] (hs σ) (pI P)
      have hJ40 : XA scr 1 mX11_lacks 172 4705 48 [none, none, none, none] [.int (if (inV x3 0 ((σ 169 (Int32.toNatClampNeg x1)) - 1)) = 0 then 2 else 0 : Int32)] (hs σ) (pI P) := by
        simpa only [if_pos c2] using hJ20
      refine XA.if_eq (7) 47 (by decide +kernel) (fun c3 => ?_) (fun c3 => ?_)
      · refine XA.blk (e9 := 48) (ok := true) (ls' := [some (.ref 136), some (.int x1), some (.int x2), some (.int x3)]) (st' := [.int 2]) (h' := hs σ) [(.iconst 2, 1, 0, 0, 0, 0, 2, 0)] (by decide +kernel) rfl rfl ?_
        refine XA.drop (ls := [none, none, none, none]) (by simp [leL]) ?_
        simpa only [if_pos c3] using hJ40
      · refine XA.blk (e9 := 48) (ok := true) (ls' := [some (.ref 136), some (.int x1), some (.int x2), some (.int x3)]) (st' := [.int 0]) (h' := hs σ) [(.iconst 0, 1, 0, 0, 0, 0, 0, 0), (.goto 4, 3, 48, 0, 0, 0, 0, 0)] (by decide +kernel) rfl rfl ?_
        refine XA.drop (ls := [none, none, none, none]) (by simp [leL]) ?_
        simpa only [if_neg c3] using hJ40
    · refine XA.blk (e9 := 48) (ok := true) (ls' := [some (.ref 136), some (.int x1), some (.int x2), some (.int x3)]) (st' := [.int 3]) (h' := hs σ) [(.iconst 3, 1, 0, 0, 0, 0, 3, 0), (.goto 24, 3, 48, 0, 0, 0, 0, 0)] (by decide +kernel) rfl rfl ?_
      refine XA.drop (ls := [none, none, none, none]) (by simp [leL]) ?_
      simpa only [if_neg c2] using hJ20
  · refine XA.blk (e9 := 48) (ok := true) (ls' := [some (.ref 136), some (.int x1), some (.int x2), some (.int x3)]) (st' := [.int 1]) (h' := hs σ) [(.iconst 1, 1, 0, 0, 0, 0, 1, 0), (.goto 38, 3, 48, 0, 0, 0, 0, 0)] (by decide +kernel) rfl rfl ?_
    refine XA.drop (ls := [none, none, none, none]) (by simp [leL]) ?_
    simpa only [if_neg (not_not_intro c1)] using hJ6
theorem E_X11_lacks {scr : ScA}  {x1 : Int32} {x2 : Int32} {x3 : Int32} {σ : Nat → Nat → Int32} {P : Int32 → (Nat → Nat → Int32) → Prop} (h : K_X11_lacks_0 scr x1 x2 x3 σ P) : CiA scr 1 mX11_lacks [.ref 136, .int x1, .int x2, .int x3] σ P := CtA.of (by decide) (Nat.le_of_ble_eq_true rfl) (XA.drop (by simp [leL, enL]) h)
def K_X4_item_0 (scr : ScA) (k : Nat) (x1 : Int32) (σ : Nat → Nat → Int32) (P : Int32 → (Nat → Nat → Int32) → Prop) : Prop := XA scr 1 mX4_item 172 4705 0 [some (.ref k), some (.int x1)] [] (hs σ) (pI P)
set_option maxRecDepth 20000 in
theorem W_X4_item_0 {scr : ScA} {k : Nat} (hk : isSe k) {x1 : Int32}  {σ : Nat → Nat → Int32} {P : Int32 → (Nat → Nat → Int32) → Prop} (H : (¬ (isW x1 60) = 0 → (inB x1 60 = true)) ∧ (P (if (isW x1 60) = 0 then 0 else σ (k + 1) (Int32.toNatClampNeg x1) : Int32) σ)) : K_X4_item_0 scr k x1 σ P := by
  show XA scr 1 mX4_item 172 4705 0 [some (.ref k), some (.int x1)] [] (hs σ) (pI P)
  refine XA.blk (e9 := 3) (ok := true) (ls' := [some (.ref k), some (.int x1)]) (st' := [.int 60, .int x1]) (h' := hs σ) [(.iload_n 1, 1, 1, 0, 0, 0, 0, 0), (.bipush 60, 2, 0, 0, 0, 0, 60, 0)] (by decide +kernel) rfl rfl ?_
  refine XA.callS (as := [.int x1, .int 60]) (rest := []) (mc' := 0) (ms' := 0) (idx := 41) (t := 532) cs_X10_isWithin (by decide +kernel) rfl rfl (Nat.le_of_ble_eq_true rfl) (Nat.le_of_ble_eq_true rfl) (Nat.le_of_ble_eq_true rfl) (Nat.le_of_ble_eq_true rfl) (pu_X10_isWithin scr σ x1 60) (fun rv h' hp => ?_)
  obtain ⟨rfl, rfl⟩ := hp
  refine ⟨rfl, rfl, ?_⟩
  show XA scr 1 mX4_item 172 4705 6 [some (.ref k), some (.int x1)] [.int (isW x1 60)] (hs σ) (pI P)
  obtain ⟨hF6, H⟩ := H
  have hJ6 : XA scr 1 mX4_item 172 4705 19 [none, none] [.int (if (isW x1 60) = 0 then 0 else σ (k + 1) (Int32.toNatClampNeg x1) : Int32)] (hs σ) (pI P) := by
    exact XA.ret (some (.int (if (isW x1 60) = 0 then 0 else σ (k + 1) (Int32.toNatClampNeg x1) : Int32))) rfl (show ckRt mX4_item 19 .ireturn = true by decide +kernel) trivial (Nat.le_of_ble_eq_true rfl) (Nat.le_of_ble_eq_true rfl) ⟨_, _, rfl, rfl, H⟩
  refine XA.if_eq (12) 18 (by decide +kernel) (fun c1 => ?_) (fun c1 => ?_)
  · refine XA.blk (e9 := 19) (ok := true) (ls' := [some (.ref k), some (.int x1)]) (st' := [.int 0]) (h' := hs σ) [(.iconst 0, 1, 0, 0, 0, 0, 0, 0)] (by decide +kernel) rfl rfl ?_
    refine XA.drop (ls := [none, none]) (by simp [leL]) ?_
    simpa only [if_pos c1] using hJ6
  · have H := hF6 c1
    have o1 := H
    refine XA.blk (e9 := 19) (ok := (kO 172 S0 k 4 && kR R0 k 0 (k + 1)) && (kA 172 S0 (k + 1) 1 x1 && (true))) (ls' := [some (.ref k), some (.int x1)]) (st' := [.int (σ (k + 1) (Int32.toNatClampNeg x1))]) (h' := hs σ) [(.aload_n 0, 1, 0, 0, 0, 0, 0, 0), (.getfield 9, 3, 4, 0, 2, 381, 0, 0), (.iload_n 1, 1, 1, 0, 0, 0, 0, 0), (.iaload, 1, 0, 0, 0, 0, 0, 0), (.goto 4, 3, 19, 0, 0, 0, 0, 0)] (by decide +kernel) rfl (by simp only [seO hk, seR0 hk, seA1 hk x1, o1, Bool.and_true, Bool.true_and]) ?_
    refine XA.drop (ls := [none, none]) (by simp [leL]) ?_
    simpa only [if_neg c1] using hJ6
theorem E_X4_item {scr : ScA} {k : Nat} {x1 : Int32} {σ : Nat → Nat → Int32} {P : Int32 → (Nat → Nat → Int32) → Prop} (h : K_X4_item_0 scr k x1 σ P) : CiA scr 1 mX4_item [.ref k, .int x1] σ P := CtA.of (by decide) (Nat.le_of_ble_eq_true rfl) (XA.drop (by simp [leL, enL]) h)
def K_X4_whatFails_0 (scr : ScA) (k : Nat) (x1 : Int32) (x2 : Int32) (σ : Nat → Nat → Int32) (P : Int32 → (Nat → Nat → Int32) → Prop) : Prop := XA scr 1 mX4_whatFails 172 4705 0 [some (.ref k), some (.int x1), some (.int x2)] [] (hs σ) (pI P)
set_option maxRecDepth 20000 in
theorem W_X4_whatFails_0 {scr : ScA} {k : Nat} (hk : isSe k) {x1 : Int32} {x2 : Int32}  {σ : Nat → Nat → Int32} {P : Int32 → (Nat → Nat → Int32) → Prop} (H : ((σ k 3) = 0 → (x1 = (σ k 1) → P (if (isW x2 (σ k 2)) = 0 then 2 else 0 : Int32) σ) ∧ (¬ x1 = (σ k 1) → P 3 σ)) ∧ (¬ (σ k 3) = 0 → P 1 σ)) : K_X4_whatFails_0 scr k x1 x2 σ P := by
  show XA scr 1 mX4_whatFails 172 4705 0 [some (.ref k), some (.int x1), some (.int x2)] [] (hs σ) (pI P)
  refine XA.blk (e9 := 4) (ok := kO 172 S0 k 4 && (true)) (ls' := [some (.ref k), some (.int x1), some (.int x2)]) (st' := [.int (σ k 3)]) (h' := hs σ) [(.aload_n 0, 1, 0, 0, 0, 0, 0, 0), (.getfield 15, 3, 4, 3, 0, 387, 0, 0)] (by decide +kernel) rfl (by simp only [seO hk, Bool.and_true, Bool.true_and]) ?_
  refine XA.if_eq (5) 9 (by decide +kernel) (fun c1 => ?_) (fun c1 => ?_)
  · have H := H.1 c1
    refine XA.blk (e9 := 14) (ok := kO 172 S0 k 4 && (true)) (ls' := [some (.ref k), some (.int x1), some (.int x2)]) (st' := [.int (σ k 1), .int x1]) (h' := hs σ) [(.iload_n 1, 1, 1, 0, 0, 0, 0, 0), (.aload_n 0, 1, 0, 0, 0, 0, 0, 0), (.getfield 25, 3, 4, 1, 0, 383, 0, 0)] (by decide +kernel) rfl (by simp only [seO hk, Bool.and_true, Bool.true_and]) ?_
    refine XA.icmp_eq (5) 19 (by decide +kernel) (fun c2 => ?_) (fun c2 => ?_)
    · have H := H.1 c2
      refine XA.blk (e9 := 24) (ok := kO 172 S0 k 4 && (true)) (ls' := [some (.ref k), some (.int x1), some (.int x2)]) (st' := [.int (σ k 2), .int x2]) (h' := hs σ) [(.iload_n 2, 1, 2, 0, 0, 0, 0, 0), (.aload_n 0, 1, 0, 0, 0, 0, 0, 0), (.getfield 38, 3, 4, 2, 0, 385, 0, 0)] (by decide +kernel) rfl (by simp only [seO hk, Bool.and_true, Bool.true_and]) ?_
      refine XA.callS (as := [.int x2, .int (σ k 2)]) (rest := []) (mc' := 0) (ms' := 0) (idx := 41) (t := 532) cs_X10_isWithin (by decide +kernel) rfl rfl (Nat.le_of_ble_eq_true rfl) (Nat.le_of_ble_eq_true rfl) (Nat.le_of_ble_eq_true rfl) (Nat.le_of_ble_eq_true rfl) (pu_X10_isWithin scr σ x2 (σ k 2)) (fun rv h' hp => ?_)
      obtain ⟨rfl, rfl⟩ := hp
      refine ⟨rfl, rfl, ?_⟩
      show XA scr 1 mX4_whatFails 172 4705 27 [some (.ref k), some (.int x1), some (.int x2)] [.int (isW x2 (σ k 2))] (hs σ) (pI P)
      have hJ27 : XA scr 1 mX4_whatFails 172 4705 35 [none, none, none] [.int (if (isW x2 (σ k 2)) = 0 then 2 else 0 : Int32)] (hs σ) (pI P) := by
        exact XA.ret (some (.int (if (isW x2 (σ k 2)) = 0 then 2 else 0 : Int32))) rfl (show ckRt mX4_whatFails 35 .ireturn = true by decide +kernel) trivial (Nat.le_of_ble_eq_true rfl) (Nat.le_of_ble_eq_true rfl) ⟨_, _, rfl, rfl, H⟩
      refine XA.if_eq (7) 34 (by decide +kernel) (fun c3 => ?_) (fun c3 => ?_)
      · refine XA.blk (e9 := 35) (ok := true) (ls' := [some (.ref k), some (.int x1), some (.int x2)]) (st' := [.int 2]) (h' := hs σ) [(.iconst 2, 1, 0, 0, 0, 0, 2, 0)] (by decide +kernel) rfl rfl ?_
        refine XA.drop (ls := [none, none, none]) (by simp [leL]) ?_
        simpa only [if_pos c3] using hJ27
      · refine XA.blk (e9 := 35) (ok := true) (ls' := [some (.ref k), some (.int x1), some (.int x2)]) (st' := [.int 0]) (h' := hs σ) [(.iconst 0, 1, 0, 0, 0, 0, 0, 0), (.goto 4, 3, 35, 0, 0, 0, 0, 0)] (by decide +kernel) rfl rfl ?_
        refine XA.drop (ls := [none, none, none]) (by simp [leL]) ?_
        simpa only [if_neg c3] using hJ27
    · have H := H.2 c2
      refine XA.blk (e9 := 18) (ok := true) (ls' := [some (.ref k), some (.int x1), some (.int x2)]) (st' := [.int 3]) (h' := hs σ) [(.iconst 3, 1, 0, 0, 0, 0, 3, 0)] (by decide +kernel) rfl rfl ?_
      exact XA.ret (some (.int 3)) rfl (show ckRt mX4_whatFails 18 .ireturn = true by decide +kernel) trivial (Nat.le_of_ble_eq_true rfl) (Nat.le_of_ble_eq_true rfl) ⟨_, _, rfl, rfl, H⟩
  · have H := H.2 c1
    refine XA.blk (e9 := 8) (ok := true) (ls' := [some (.ref k), some (.int x1), some (.int x2)]) (st' := [.int 1]) (h' := hs σ) [(.iconst 1, 1, 0, 0, 0, 0, 1, 0)] (by decide +kernel) rfl rfl ?_
    exact XA.ret (some (.int 1)) rfl (show ckRt mX4_whatFails 8 .ireturn = true by decide +kernel) trivial (Nat.le_of_ble_eq_true rfl) (Nat.le_of_ble_eq_true rfl) ⟨_, _, rfl, rfl, H⟩
theorem E_X4_whatFails {scr : ScA} {k : Nat} {x1 : Int32} {x2 : Int32} {σ : Nat → Nat → Int32} {P : Int32 → (Nat → Nat → Int32) → Prop} (h : K_X4_whatFails_0 scr k x1 x2 σ P) : CiA scr 1 mX4_whatFails [.ref k, .int x1, .int x2] σ P := CtA.of (by decide) (Nat.le_of_ble_eq_true rfl) (XA.drop (by simp [leL, enL]) h)
def K_X5_whoIsAt_0 (scr : ScA) (k q : Nat) (x2 : Int32) (x3 : Int32) (σ : Nat → Nat → Int32) (P : Int32 → (Nat → Nat → Int32) → Prop) : Prop := XA scr 1 mX5_whoIsAt 172 4705 0 [some (.ref k), some (.ref q), some (.int x2), some (.int x3)] [] (hs σ) (pI P)
set_option maxRecDepth 20000 in
theorem W_X5_whoIsAt_0 {scr : ScA} {k q : Nat} (hk : isSw k) (hq : isTr q) {x2 : Int32} {x3 : Int32}  {σ : Nat → Nat → Int32} {P : Int32 → (Nat → Nat → Int32) → Prop} (H : ((isW x2 24) = 0 → P (-1) σ) ∧ (¬ (isW x2 24) = 0 → ((isW x3 10) = 0 → P (-1) σ) ∧ (¬ (isW x3 10) = 0 → (inB x2 24 = true) ∧ ((¬ (hbV (σ (k + 1) (Int32.toNatClampNeg x2)) x3) = 0 → (inB x3 10 = true) ∧ (P (σ (q + 6) (Int32.toNatClampNeg x3)) σ)) ∧ ((hbV (σ (k + 1) (Int32.toNatClampNeg x2)) x3) = 0 → P (-1) σ))))) : K_X5_whoIsAt_0 scr k q x2 x3 σ P := by
  show XA scr 1 mX5_whoIsAt 172 4705 0 [some (.ref k), some (.ref q), some (.int x2), some (.int x3)] [] (hs σ) (pI P)
  refine XA.blk (e9 := 3) (ok := true) (ls' := [some (.ref k), some (.ref q), some (.int x2), some (.int x3)]) (st' := [.int 24, .int x2]) (h' := hs σ) [(.iload_n 2, 1, 2, 0, 0, 0, 0, 0), (.bipush 24, 2, 0, 0, 0, 0, 24, 0)] (by decide +kernel) rfl rfl ?_
  refine XA.callS (as := [.int x2, .int 24]) (rest := []) (mc' := 0) (ms' := 0) (idx := 129) (t := 590) cs_X10_isWithin (by decide +kernel) rfl rfl (Nat.le_of_ble_eq_true rfl) (Nat.le_of_ble_eq_true rfl) (Nat.le_of_ble_eq_true rfl) (Nat.le_of_ble_eq_true rfl) (pu_X10_isWithin scr σ x2 24) (fun rv h' hp => ?_)
  obtain ⟨rfl, rfl⟩ := hp
  refine ⟨rfl, rfl, ?_⟩
  show XA scr 1 mX5_whoIsAt 172 4705 6 [some (.ref k), some (.ref q), some (.int x2), some (.int x3)] [.int (isW x2 24)] (hs σ) (pI P)
  refine XA.if_eq (25) 31 (by decide +kernel) (fun c1 => ?_) (fun c1 => ?_)
  · have H := H.1 c1
    refine XA.blk (e9 := 32) (ok := true) (ls' := [some (.ref k), some (.ref q), some (.int x2), some (.int x3)]) (st' := [.int (-1)]) (h' := hs σ) [(.iconst (-1), 1, 0, 0, 0, 0, (-1), 0)] (by decide +kernel) rfl rfl ?_
    exact XA.ret (some (.int (-1))) rfl (show ckRt mX5_whoIsAt 32 .ireturn = true by decide +kernel) trivial (Nat.le_of_ble_eq_true rfl) (Nat.le_of_ble_eq_true rfl) ⟨_, _, rfl, rfl, H⟩
  · have H := H.2 c1
    refine XA.blk (e9 := 12) (ok := true) (ls' := [some (.ref k), some (.ref q), some (.int x2), some (.int x3)]) (st' := [.int 10, .int x3]) (h' := hs σ) [(.iload_n 3, 1, 3, 0, 0, 0, 0, 0), (.bipush 10, 2, 0, 0, 0, 0, 10, 0)] (by decide +kernel) rfl rfl ?_
    refine XA.callS (as := [.int x3, .int 10]) (rest := []) (mc' := 0) (ms' := 0) (idx := 129) (t := 590) cs_X10_isWithin (by decide +kernel) rfl rfl (Nat.le_of_ble_eq_true rfl) (Nat.le_of_ble_eq_true rfl) (Nat.le_of_ble_eq_true rfl) (Nat.le_of_ble_eq_true rfl) (pu_X10_isWithin scr σ x3 10) (fun rv h' hp => ?_)
    obtain ⟨rfl, rfl⟩ := hp
    refine ⟨rfl, rfl, ?_⟩
    show XA scr 1 mX5_whoIsAt 172 4705 15 [some (.ref k), some (.ref q), some (.int x2), some (.int x3)] [.int (isW x3 10)] (hs σ) (pI P)
    refine XA.if_eq (16) 31 (by decide +kernel) (fun c2 => ?_) (fun c2 => ?_)
    · have H := H.1 c2
      refine XA.blk (e9 := 32) (ok := true) (ls' := [some (.ref k), some (.ref q), some (.int x2), some (.int x3)]) (st' := [.int (-1)]) (h' := hs σ) [(.iconst (-1), 1, 0, 0, 0, 0, (-1), 0)] (by decide +kernel) rfl rfl ?_
      exact XA.ret (some (.int (-1))) rfl (show ckRt mX5_whoIsAt 32 .ireturn = true by decide +kernel) trivial (Nat.le_of_ble_eq_true rfl) (Nat.le_of_ble_eq_true rfl) ⟨_, _, rfl, rfl, H⟩
    · have H := H.2 c2
      obtain ⟨o1, H⟩ := H
      refine XA.blk (e9 := 25) (ok := (kO 172 S0 k 5 && kR R0 k 0 (k + 1)) && (kA 172 S0 (k + 1) 1 x2 && (true))) (ls' := [some (.ref k), some (.ref q), some (.int x2), some (.int x3)]) (st' := [.int x3, .int (σ (k + 1) (Int32.toNatClampNeg x2))]) (h' := hs σ) [(.aload_n 0, 1, 0, 0, 0, 0, 0, 0), (.getfield 9, 3, 5, 0, 2, 213, 0, 0), (.iload_n 2, 1, 2, 0, 0, 0, 0, 0), (.iaload, 1, 0, 0, 0, 0, 0, 0), (.iload_n 3, 1, 3, 0, 0, 0, 0, 0)] (by decide +kernel) rfl (by simp only [swO hk, swR0 hk, swA1 hk x2, o1, Bool.and_true, Bool.true_and]) ?_
      refine XA.callS (as := [.int (σ (k + 1) (Int32.toNatClampNeg x2)), .int x3]) (rest := []) (mc' := 0) (ms' := 0) (idx := 106) (t := 559) cs_X10_hasBit (by decide +kernel) rfl rfl (Nat.le_of_ble_eq_true rfl) (Nat.le_of_ble_eq_true rfl) (Nat.le_of_ble_eq_true rfl) (Nat.le_of_ble_eq_true rfl) (pu_X10_hasBit scr σ (σ (k + 1) (Int32.toNatClampNeg x2)) x3) (fun rv h' hp => ?_)
      obtain ⟨rfl, rfl⟩ := hp
      refine ⟨rfl, rfl, ?_⟩
      show XA scr 1 mX5_whoIsAt 172 4705 28 [some (.ref k), some (.ref q), some (.int x2), some (.int x3)] [.int (hbV (σ (k + 1) (Int32.toNatClampNeg x2)) x3)] (hs σ) (pI P)
      refine XA.if_ne (5) 33 (by decide +kernel) (fun c3 => ?_) (fun c3 => ?_)
      · have H := H.1 c3
        obtain ⟨o2, H⟩ := H
        refine XA.blk (e9 := 39) (ok := (kO 172 S0 q 8 && kR R0 q 5 (q + 6)) && (kA 172 S0 (q + 6) 1 x3 && (true))) (ls' := [some (.ref k), some (.ref q), some (.int x2), some (.int x3)]) (st' := [.int (σ (q + 6) (Int32.toNatClampNeg x3))]) (h' := hs σ) [(.aload_n 1, 1, 1, 0, 0, 0, 0, 0), (.getfield 135, 3, 8, 5, 7, 138, 0, 0), (.iload_n 3, 1, 3, 0, 0, 0, 0, 0), (.iaload, 1, 0, 0, 0, 0, 0, 0)] (by decide +kernel) rfl (by simp only [trO hq, trR5 hq, trA6 hq x3, o2, Bool.and_true, Bool.true_and]) ?_
        exact XA.ret (some (.int (σ (q + 6) (Int32.toNatClampNeg x3)))) rfl (show ckRt mX5_whoIsAt 39 .ireturn = true by decide +kernel) trivial (Nat.le_of_ble_eq_true rfl) (Nat.le_of_ble_eq_true rfl) ⟨_, _, rfl, rfl, H⟩
      · have H := H.2 c3
        refine XA.blk (e9 := 32) (ok := true) (ls' := [some (.ref k), some (.ref q), some (.int x2), some (.int x3)]) (st' := [.int (-1)]) (h' := hs σ) [(.iconst (-1), 1, 0, 0, 0, 0, (-1), 0)] (by decide +kernel) rfl rfl ?_
        exact XA.ret (some (.int (-1))) rfl (show ckRt mX5_whoIsAt 32 .ireturn = true by decide +kernel) trivial (Nat.le_of_ble_eq_true rfl) (Nat.le_of_ble_eq_true rfl) ⟨_, _, rfl, rfl, H⟩
theorem E_X5_whoIsAt {scr : ScA} {k q : Nat} {x2 : Int32} {x3 : Int32} {σ : Nat → Nat → Int32} {P : Int32 → (Nat → Nat → Int32) → Prop} (h : K_X5_whoIsAt_0 scr k q x2 x3 σ P) : CiA scr 1 mX5_whoIsAt [.ref k, .ref q, .int x2, .int x3] σ P := CtA.of (by decide) (Nat.le_of_ble_eq_true rfl) (XA.drop (by simp [leL, enL]) h)
def K_X5_stateOf_0 (scr : ScA) (k q : Nat) (x2 : Int32) (x3 : Int32) (σ : Nat → Nat → Int32) (P : Int32 → (Nat → Nat → Int32) → Prop) : Prop := XA scr 1 mX5_stateOf 172 4705 0 [some (.ref k), some (.ref q), some (.int x2), some (.int x3)] [] (hs σ) (pI P)
set_option maxRecDepth 20000 in
theorem W_X5_stateOf_0 {scr : ScA} {k q : Nat} (hk : isSw k) (hq : isTr q) {x2 : Int32} {x3 : Int32}  {σ : Nat → Nat → Int32} {P : Int32 → (Nat → Nat → Int32) → Prop} (H : (inB x2 10 = true) ∧ (((σ (q + 4) (Int32.toNatClampNeg x2)) ≤ x3 → ((hbV (σ k 6) (σ (q + 5) (Int32.toNatClampNeg x2))) = 0 → P (if (σ (k + 4) (Int32.toNatClampNeg x2)) < x3 then 1 else 3 : Int32) σ) ∧ (¬ (hbV (σ k 6) (σ (q + 5) (Int32.toNatClampNeg x2))) = 0 → P 2 σ)) ∧ (¬ (σ (q + 4) (Int32.toNatClampNeg x2)) ≤ x3 → P 0 σ))) : K_X5_stateOf_0 scr k q x2 x3 σ P := by
  show XA scr 1 mX5_stateOf 172 4705 0 [some (.ref k), some (.ref q), some (.int x2), some (.int x3)] [] (hs σ) (pI P)
  obtain ⟨o1, H⟩ := H
  refine XA.blk (e9 := 7) (ok := (kO 172 S0 q 8 && kR R0 q 3 (q + 4)) && (kA 172 S0 (q + 4) 1 x2 && (true))) (ls' := [some (.ref k), some (.ref q), some (.int x2), some (.int x3)]) (st' := [.int (σ (q + 4) (Int32.toNatClampNeg x2)), .int x3]) (h' := hs σ) [(.iload_n 3, 1, 3, 0, 0, 0, 0, 0), (.aload_n 1, 1, 1, 0, 0, 0, 0, 0), (.getfield 128, 3, 8, 3, 5, 132, 0, 0), (.iload_n 2, 1, 2, 0, 0, 0, 0, 0), (.iaload, 1, 0, 0, 0, 0, 0, 0)] (by decide +kernel) rfl (by simp only [trO hq, trR3 hq, trA4 hq x2, o1, Bool.and_true, Bool.true_and]) ?_
  refine XA.icmp_ge (5) 12 (by decide +kernel) (fun c1 => ?_) (fun c1 => ?_)
  · have H := H.1 c1
    refine XA.blk (e9 := 22) (ok := kO 172 S0 k 5 && ((kO 172 S0 q 8 && kR R0 q 4 (q + 5)) && (kA 172 S0 (q + 5) 1 x2 && (true)))) (ls' := [some (.ref k), some (.ref q), some (.int x2), some (.int x3)]) (st' := [.int (σ (q + 5) (Int32.toNatClampNeg x2)), .int (σ k 6)]) (h' := hs σ) [(.aload_n 0, 1, 0, 0, 0, 0, 0, 0), (.getfield 65, 3, 5, 6, 0, 223, 0, 0), (.aload_n 1, 1, 1, 0, 0, 0, 0, 0), (.getfield 119, 3, 8, 4, 6, 134, 0, 0), (.iload_n 2, 1, 2, 0, 0, 0, 0, 0), (.iaload, 1, 0, 0, 0, 0, 0, 0)] (by decide +kernel) rfl (by simp only [swO hk, trO hq, trR4 hq, trA5 hq x2, o1, Bool.and_true, Bool.true_and]) ?_
    refine XA.callS (as := [.int (σ k 6), .int (σ (q + 5) (Int32.toNatClampNeg x2))]) (rest := []) (mc' := 0) (ms' := 0) (idx := 106) (t := 559) cs_X10_hasBit (by decide +kernel) rfl rfl (Nat.le_of_ble_eq_true rfl) (Nat.le_of_ble_eq_true rfl) (Nat.le_of_ble_eq_true rfl) (Nat.le_of_ble_eq_true rfl) (pu_X10_hasBit scr σ (σ k 6) (σ (q + 5) (Int32.toNatClampNeg x2))) (fun rv h' hp => ?_)
    obtain ⟨rfl, rfl⟩ := hp
    refine ⟨rfl, rfl, ?_⟩
    show XA scr 1 mX5_stateOf 172 4705 25 [some (.ref k), some (.ref q), some (.int x2), some (.int x3)] [.int (hbV (σ k 6) (σ (q + 5) (Int32.toNatClampNeg x2)))] (hs σ) (pI P)
    refine XA.if_eq (5) 30 (by decide +kernel) (fun c2 => ?_) (fun c2 => ?_)
    · have H := H.1 c2
      refine XA.blk (e9 := 37) (ok := (kO 172 S0 k 5 && kR R0 k 4 (k + 4)) && (kA 172 S0 (k + 4) 1 x2 && (true))) (ls' := [some (.ref k), some (.ref q), some (.int x2), some (.int x3)]) (st' := [.int (σ (k + 4) (Int32.toNatClampNeg x2)), .int x3]) (h' := hs σ) [(.iload_n 3, 1, 3, 0, 0, 0, 0, 0), (.aload_n 0, 1, 0, 0, 0, 0, 0, 0), (.getfield 21, 3, 5, 4, 5, 221, 0, 0), (.iload_n 2, 1, 2, 0, 0, 0, 0, 0), (.iaload, 1, 0, 0, 0, 0, 0, 0)] (by decide +kernel) rfl (by simp only [swO hk, swR4 hk, swA4 hk x2, o1, Bool.and_true, Bool.true_and]) ?_
      have hJ37 : XA scr 1 mX5_stateOf 172 4705 45 [none, none, none, none] [.int (if (σ (k + 4) (Int32.toNatClampNeg x2)) < x3 then 1 else 3 : Int32)] (hs σ) (pI P) := by
        exact XA.ret (some (.int (if (σ (k + 4) (Int32.toNatClampNeg x2)) < x3 then 1 else 3 : Int32))) rfl (show ckRt mX5_stateOf 45 .ireturn = true by decide +kernel) trivial (Nat.le_of_ble_eq_true rfl) (Nat.le_of_ble_eq_true rfl) ⟨_, _, rfl, rfl, H⟩
      refine XA.icmp_gt (7) 44 (by decide +kernel) (fun c3 => ?_) (fun c3 => ?_)
      · refine XA.blk (e9 := 45) (ok := true) (ls' := [some (.ref k), some (.ref q), some (.int x2), some (.int x3)]) (st' := [.int 1]) (h' := hs σ) [(.iconst 1, 1, 0, 0, 0, 0, 1, 0)] (by decide +kernel) rfl rfl ?_
        refine XA.drop (ls := [none, none, none, none]) (by simp [leL]) ?_
        simpa only [if_pos c3] using hJ37
      · refine XA.blk (e9 := 45) (ok := true) (ls' := [some (.ref k), some (.ref q), some (.int x2), some (.int x3)]) (st' := [.int 3]) (h' := hs σ) [(.iconst 3, 1, 0, 0, 0, 0, 3, 0), (.goto 4, 3, 45, 0, 0, 0, 0, 0)] (by decide +kernel) rfl rfl ?_
        refine XA.drop (ls := [none, none, none, none]) (by simp [leL]) ?_
        simpa only [if_neg c3] using hJ37
    · have H := H.2 c2
      refine XA.blk (e9 := 29) (ok := true) (ls' := [some (.ref k), some (.ref q), some (.int x2), some (.int x3)]) (st' := [.int 2]) (h' := hs σ) [(.iconst 2, 1, 0, 0, 0, 0, 2, 0)] (by decide +kernel) rfl rfl ?_
      exact XA.ret (some (.int 2)) rfl (show ckRt mX5_stateOf 29 .ireturn = true by decide +kernel) trivial (Nat.le_of_ble_eq_true rfl) (Nat.le_of_ble_eq_true rfl) ⟨_, _, rfl, rfl, H⟩
  · have H := H.2 c1
    refine XA.blk (e9 := 11) (ok := true) (ls' := [some (.ref k), some (.ref q), some (.int x2), some (.int x3)]) (st' := [.int 0]) (h' := hs σ) [(.iconst 0, 1, 0, 0, 0, 0, 0, 0)] (by decide +kernel) rfl rfl ?_
    exact XA.ret (some (.int 0)) rfl (show ckRt mX5_stateOf 11 .ireturn = true by decide +kernel) trivial (Nat.le_of_ble_eq_true rfl) (Nat.le_of_ble_eq_true rfl) ⟨_, _, rfl, rfl, H⟩
theorem E_X5_stateOf {scr : ScA} {k q : Nat} {x2 : Int32} {x3 : Int32} {σ : Nat → Nat → Int32} {P : Int32 → (Nat → Nat → Int32) → Prop} (h : K_X5_stateOf_0 scr k q x2 x3 σ P) : CiA scr 1 mX5_stateOf [.ref k, .ref q, .int x2, .int x3] σ P := CtA.of (by decide) (Nat.le_of_ble_eq_true rfl) (XA.drop (by simp [leL, enL]) h)
def K_X9_shareOf_0 (scr : ScA)  (x0 : Int32) (x1 : Int32) (x2 : Int32) (σ : Nat → Nat → Int32) (P : Int64 → (Nat → Nat → Int32) → Prop) : Prop := XA scr 1 mX9_shareOf 172 4705 0 [some (.int x0), some (.int x1), some (.int x2), none, none, none] [] (hs σ) (pJ P)
def K_X9_shareOf_5 (scr : ScA)  (x0 : Int32) (x1 : Int32) (x2 : Int32) (x3 : Int64) (x5 : Int32) (σ : Nat → Nat → Int32) (P : Int64 → (Nat → Nat → Int32) → Prop) : Prop := XA scr 1 mX9_shareOf 172 4705 5 [some (.int x0), some (.int x1), some (.int x2), some (.long x3), none, some (.int x5)] [] (hs σ) (pJ P)
set_option maxRecDepth 20000 in
theorem W_X9_shareOf_0 {scr : ScA}   {x0 : Int32} {x1 : Int32} {x2 : Int32}  {σ : Nat → Nat → Int32} {P : Int64 → (Nat → Nat → Int32) → Prop} (H : K_X9_shareOf_5 scr x0 x1 x2 1 0 σ P) : K_X9_shareOf_0 scr x0 x1 x2 σ P := by
  show XA scr 1 mX9_shareOf 172 4705 0 [some (.int x0), some (.int x1), some (.int x2), none, none, none] [] (hs σ) (pJ P)
  refine XA.blk (e9 := 5) (ok := true) (ls' := [some (.int x0), some (.int x1), some (.int x2), some (.long 1), none, some (.int 0)]) (st' := []) (h' := hs σ) [(.lconst 1, 1, 0, 0, 0, 0, 0, 1), (.lstore_n 3, 1, 3, 0, 0, 0, 0, 0), (.iconst 0, 1, 0, 0, 0, 0, 0, 0), (.istore 5, 2, 5, 0, 0, 0, 0, 0)] (by decide +kernel) rfl rfl ?_
  exact H
set_option maxRecDepth 20000 in
theorem W_X9_shareOf_5 {scr : ScA}   {x0 : Int32} {x1 : Int32} {x2 : Int32} {x3 : Int64} {x5 : Int32}  {σ : Nat → Nat → Int32} {P : Int64 → (Nat → Nat → Int32) → Prop} (H : (x1 ≤ x5 → P x3 σ) ∧ (¬ x1 ≤ x5 → K_X9_shareOf_5 scr x0 x1 x2 (x3 * (if (hbV x0 x5) = 0 then Int32.toInt64 (16 - x2) else Int32.toInt64 x2 : Int64)) (x5 + 1) σ P)) : K_X9_shareOf_5 scr x0 x1 x2 x3 x5 σ P := by
  show XA scr 1 mX9_shareOf 172 4705 5 [some (.int x0), some (.int x1), some (.int x2), some (.long x3), none, some (.int x5)] [] (hs σ) (pJ P)
  refine XA.blk (e9 := 8) (ok := true) (ls' := [some (.int x0), some (.int x1), some (.int x2), some (.long x3), none, some (.int x5)]) (st' := [.int x1, .int x5]) (h' := hs σ) [(.iload 5, 2, 5, 0, 0, 0, 0, 0), (.iload_n 1, 1, 1, 0, 0, 0, 0, 0)] (by decide +kernel) rfl rfl ?_
  refine XA.icmp_ge (31) 39 (by decide +kernel) (fun c1 => ?_) (fun c1 => ?_)
  · have H := H.1 c1
    refine XA.blk (e9 := 40) (ok := true) (ls' := [some (.int x0), some (.int x1), some (.int x2), some (.long x3), none, some (.int x5)]) (st' := [.long x3]) (h' := hs σ) [(.lload_n 3, 1, 3, 0, 0, 0, 0, 0)] (by decide +kernel) rfl rfl ?_
    exact XA.ret (some (.long x3)) rfl (show ckRt mX9_shareOf 40 .lreturn = true by decide +kernel) trivial (Nat.le_of_ble_eq_true rfl) (Nat.le_of_ble_eq_true rfl) ⟨_, _, rfl, rfl, H⟩
  · have H := H.2 c1
    refine XA.blk (e9 := 15) (ok := true) (ls' := [some (.int x0), some (.int x1), some (.int x2), some (.long x3), none, some (.int x5)]) (st' := [.int x5, .int x0, .long x3]) (h' := hs σ) [(.lload_n 3, 1, 3, 0, 0, 0, 0, 0), (.iload_n 0, 1, 0, 0, 0, 0, 0, 0), (.iload 5, 2, 5, 0, 0, 0, 0, 0)] (by decide +kernel) rfl rfl ?_
    refine XA.callS (as := [.int x0, .int x5]) (rest := [.long x3]) (mc' := 0) (ms' := 0) (idx := 76) (t := 787) cs_X10_hasBit (by decide +kernel) rfl rfl (Nat.le_of_ble_eq_true rfl) (Nat.le_of_ble_eq_true rfl) (Nat.le_of_ble_eq_true rfl) (Nat.le_of_ble_eq_true rfl) (pu_X10_hasBit scr σ x0 x5) (fun rv h' hp => ?_)
    obtain ⟨rfl, rfl⟩ := hp
    refine ⟨rfl, rfl, ?_⟩
    show XA scr 1 mX9_shareOf 172 4705 18 [some (.int x0), some (.int x1), some (.int x2), some (.long x3), none, some (.int x5)] [.int (hbV x0 x5), .long x3] (hs σ) (pJ P)
    have hJ18 : XA scr 1 mX9_shareOf 172 4705 31 [some (.int x0), some (.int x1), some (.int x2), none, none, some (.int x5)] [.long (if (hbV x0 x5) = 0 then Int32.toInt64 (16 - x2) else Int32.toInt64 x2 : Int64), .long x3] (hs σ) (pJ P) := by
      refine XA.blk (e9 := 5) (ok := true) (ls' := [some (.int x0), some (.int x1), some (.int x2), some (.long (x3 * (if (hbV x0 x5) = 0 then Int32.toInt64 (16 - x2) else Int32.toInt64 x2 : Int64))), none, some (.int (x5 + 1))]) (st' := []) (h' := hs σ) [(.lmul, 1, 0, 0, 0, 0, 0, 0), (.lstore_n 3, 1, 3, 0, 0, 0, 0, 0), (.iinc 5 1, 3, 5, 0, 0, 0, 1, 0), (.goto (-31), 3, 5, 0, 0, 0, 0, 0)] (by decide +kernel) rfl rfl ?_
      exact H
    refine XA.if_eq (8) 26 (by decide +kernel) (fun c2 => ?_) (fun c2 => ?_)
    · refine XA.blk (e9 := 31) (ok := true) (ls' := [some (.int x0), some (.int x1), some (.int x2), some (.long x3), none, some (.int x5)]) (st' := [.long (Int32.toInt64 (16 - x2)), .long x3]) (h' := hs σ) [(.bipush 16, 2, 0, 0, 0, 0, 16, 0), (.iload_n 2, 1, 2, 0, 0, 0, 0, 0), (.isub, 1, 0, 0, 0, 0, 0, 0), (.i2l, 1, 0, 0, 0, 0, 0, 0)] (by decide +kernel) rfl rfl ?_
      refine XA.drop (ls := [some (.int x0), some (.int x1), some (.int x2), none, none, some (.int x5)]) (by simp [leL]) ?_
      simpa only [if_pos c2] using hJ18
    · refine XA.blk (e9 := 31) (ok := true) (ls' := [some (.int x0), some (.int x1), some (.int x2), some (.long x3), none, some (.int x5)]) (st' := [.long (Int32.toInt64 x2), .long x3]) (h' := hs σ) [(.iload_n 2, 1, 2, 0, 0, 0, 0, 0), (.i2l, 1, 0, 0, 0, 0, 0, 0), (.goto 8, 3, 31, 0, 0, 0, 0, 0)] (by decide +kernel) rfl rfl ?_
      refine XA.drop (ls := [some (.int x0), some (.int x1), some (.int x2), none, none, some (.int x5)]) (by simp [leL]) ?_
      simpa only [if_neg c2] using hJ18
theorem E_X9_shareOf {scr : ScA}  {x0 : Int32} {x1 : Int32} {x2 : Int32} {σ : Nat → Nat → Int32} {P : Int64 → (Nat → Nat → Int32) → Prop} (h : K_X9_shareOf_0 scr x0 x1 x2 σ P) : ClA scr 1 mX9_shareOf [.int x0, .int x1, .int x2] σ P := CtA.of (by decide) (Nat.le_of_ble_eq_true rfl) (XA.drop (by simp [leL, enL]) h)
