def K_X10_type_0 (scr : ScA)  (x1 : Int32) (σ : Nat → Nat → Int32) (P : Int32 → (Nat → Nat → Int32) → Prop) : Prop := XA scr 6 mX10_type 172 4705 0 [some (.ref 0), some (.int x1)] [] (hs σ) (pI P)
def K_X10_type_36 (scr : ScA)   (σ : Nat → Nat → Int32) (P : Int32 → (Nat → Nat → Int32) → Prop) : Prop := XA scr 6 mX10_type 172 4705 36 [some (.ref 0), none] [] (hs σ) (pI P)
def K_X10_type_40 (scr : ScA)   (σ : Nat → Nat → Int32) (P : Int32 → (Nat → Nat → Int32) → Prop) : Prop := XA scr 6 mX10_type 172 4705 40 [some (.ref 0), none] [] (hs σ) (pI P)
set_option maxRecDepth 20000 in
theorem W_X10_type_0 {scr : ScA}   {x1 : Int32}  {σ : Nat → Nat → Int32} {P : Int32 → (Nat → Nat → Int32) → Prop} (H : (¬ (isW x1 256) = 0 → ((σ 1 1) < 59 → CvA scr 0 mX7_append [.ref 1, .int x1] σ (fun σ' => K_X10_type_36 scr σ' P)) ∧ (¬ (σ 1 1) < 59 → P (-4) σ)) ∧ ((isW x1 256) = 0 → P (-2) σ)) : K_X10_type_0 scr x1 σ P := by
  show XA scr 6 mX10_type 172 4705 0 [some (.ref 0), some (.int x1)] [] (hs σ) (pI P)
  refine XA.blk (e9 := 4) (ok := true) (ls' := [some (.ref 0), some (.int x1)]) (st' := [.int 256, .int x1]) (h' := hs σ) [(.iload_n 1, 1, 1, 0, 0, 0, 0, 0), (.sipush 256, 3, 0, 0, 0, 0, 256, 0)] (by decide +kernel) rfl rfl ?_
  refine XA.callS (as := [.int x1, .int 256]) (rest := []) (mc' := 0) (ms' := 0) (idx := 84) (t := 445) cs_X10_isWithin (by decide +kernel) rfl rfl (Nat.le_of_ble_eq_true rfl) (Nat.le_of_ble_eq_true rfl) (Nat.le_of_ble_eq_true rfl) (Nat.le_of_ble_eq_true rfl) (pu_X10_isWithin scr σ x1 256) (fun rv h' hp => ?_)
  obtain ⟨rfl, rfl⟩ := hp
  refine ⟨rfl, rfl, ?_⟩
  show XA scr 6 mX10_type 172 4705 7 [some (.ref 0), some (.int x1)] [.int (isW x1 256)] (hs σ) (pI P)
  refine XA.if_ne (6) 13 (by decide +kernel) (fun c1 => ?_) (fun c1 => ?_)
  · have H := H.1 c1
    refine XA.blk (e9 := 22) (ok := true) (ls' := [some (.ref 0), some (.int x1)]) (st' := [.int 59, .int (σ 1 1)]) (h' := hs σ) [(.aload_n 0, 1, 0, 0, 0, 0, 0, 0), (.getfield 10, 3, 10, 0, 2, 398, 0, 0), (.getfield 88, 3, 7, 1, 0, 97, 0, 0), (.bipush 59, 2, 0, 0, 0, 0, 59, 0)] (by decide +kernel) rfl rfl ?_
    refine XA.icmp_lt (6) 28 (by decide +kernel) (fun c2 => ?_) (fun c2 => ?_)
    · have H := H.1 c2
      refine XA.blk (e9 := 33) (ok := true) (ls' := [some (.ref 0), some (.int x1)]) (st' := [.int x1, .ref 1]) (h' := hs σ) [(.aload_n 0, 1, 0, 0, 0, 0, 0, 0), (.getfield 10, 3, 10, 0, 2, 398, 0, 0), (.iload_n 1, 1, 1, 0, 0, 0, 0, 0)] (by decide +kernel) rfl rfl ?_
      refine XA.callV (as := [.int x1]) (rest := []) (mc' := 0) (ms' := 0) (idx := 91) (t := 448) cv_X7_append (by decide +kernel) rfl rfl rfl (Nat.le_of_ble_eq_true rfl) (Nat.le_of_ble_eq_true rfl) (Nat.le_of_ble_eq_true rfl) (Nat.le_of_ble_eq_true rfl) (H) (fun rv h' hp => ?_)
      obtain ⟨s9, rfl, rfl, hK⟩ := hp
      exact ⟨rfl, rfl, XA.drop (by simp [leL]) hK⟩
    · have H := H.2 c2
      refine XA.blk (e9 := 27) (ok := true) (ls' := [some (.ref 0), some (.int x1)]) (st' := [.int (-4)]) (h' := hs σ) [(.bipush (-4), 2, 0, 0, 0, 0, (-4), 0)] (by decide +kernel) rfl rfl ?_
      exact XA.ret (some (.int (-4))) rfl (show ckRt mX10_type 27 .ireturn = true by decide +kernel) trivial (Nat.le_of_ble_eq_true rfl) (Nat.le_of_ble_eq_true rfl) ⟨_, _, rfl, rfl, H⟩
  · have H := H.2 c1
    refine XA.blk (e9 := 12) (ok := true) (ls' := [some (.ref 0), some (.int x1)]) (st' := [.int (-2)]) (h' := hs σ) [(.bipush (-2), 2, 0, 0, 0, 0, (-2), 0)] (by decide +kernel) rfl rfl ?_
    exact XA.ret (some (.int (-2))) rfl (show ckRt mX10_type 12 .ireturn = true by decide +kernel) trivial (Nat.le_of_ble_eq_true rfl) (Nat.le_of_ble_eq_true rfl) ⟨_, _, rfl, rfl, H⟩
set_option maxRecDepth 20000 in
theorem W_X10_type_36 {scr : ScA}     {σ : Nat → Nat → Int32} {P : Int32 → (Nat → Nat → Int32) → Prop} (H : CvA scr 5 mX10_castAnew [.ref 0] σ (fun σ' => K_X10_type_40 scr σ' P)) : K_X10_type_36 scr σ P := by
  show XA scr 6 mX10_type 172 4705 36 [some (.ref 0), none] [] (hs σ) (pI P)
  refine XA.blk (e9 := 37) (ok := true) (ls' := [some (.ref 0), none]) (st' := [.ref 0]) (h' := hs σ) [(.aload_n 0, 1, 0, 0, 0, 0, 0, 0)] (by decide +kernel) rfl rfl ?_
  refine XA.callV (as := []) (rest := []) (mc' := 0) (ms' := 0) (idx := 95) (t := 452) cv_X10_castAnew (by decide +kernel) rfl rfl rfl (Nat.le_of_ble_eq_true rfl) (Nat.le_of_ble_eq_true rfl) (Nat.le_of_ble_eq_true rfl) (Nat.le_of_ble_eq_true rfl) (H) (fun rv h' hp => ?_)
  obtain ⟨s9, rfl, rfl, hK⟩ := hp
  exact ⟨rfl, rfl, hK⟩
set_option maxRecDepth 20000 in
theorem W_X10_type_40 {scr : ScA}     {σ : Nat → Nat → Int32} {P : Int32 → (Nat → Nat → Int32) → Prop} (H : P (σ 1 1) σ) : K_X10_type_40 scr σ P := by
  show XA scr 6 mX10_type 172 4705 40 [some (.ref 0), none] [] (hs σ) (pI P)
  refine XA.blk (e9 := 47) (ok := true) (ls' := [some (.ref 0), none]) (st' := [.int (σ 1 1)]) (h' := hs σ) [(.aload_n 0, 1, 0, 0, 0, 0, 0, 0), (.getfield 10, 3, 10, 0, 2, 398, 0, 0), (.getfield 88, 3, 7, 1, 0, 97, 0, 0)] (by decide +kernel) rfl rfl ?_
  exact XA.ret (some (.int (σ 1 1))) rfl (show ckRt mX10_type 47 .ireturn = true by decide +kernel) trivial (Nat.le_of_ble_eq_true rfl) (Nat.le_of_ble_eq_true rfl) ⟨_, _, rfl, rfl, H⟩
theorem E_X10_type {scr : ScA}  {x1 : Int32} {σ : Nat → Nat → Int32} {P : Int32 → (Nat → Nat → Int32) → Prop} (h : K_X10_type_0 scr x1 σ P) : CiA scr 6 mX10_type [.ref 0, .int x1] σ P := CtA.of (by decide) (Nat.le_of_ble_eq_true rfl) (XA.drop (by simp [leL, enL]) h)
def K_X10_wipe_0 (scr : ScA)   (σ : Nat → Nat → Int32) (P : Int32 → (Nat → Nat → Int32) → Prop) : Prop := XA scr 6 mX10_wipe 172 4705 0 [some (.ref 0), none] [] (hs σ) (pI P)
def K_X10_wipe_20 (scr : ScA)  (x1 : Int32) (σ : Nat → Nat → Int32) (P : Int32 → (Nat → Nat → Int32) → Prop) : Prop := XA scr 6 mX10_wipe 172 4705 20 [none, some (.int x1)] [] (hs σ) (pI P)
set_option maxRecDepth 20000 in
theorem W_X10_wipe_0 {scr : ScA}     {σ : Nat → Nat → Int32} {P : Int32 → (Nat → Nat → Int32) → Prop} (H : ∀ σ1, σ1 = (su σ 1 1 0) → CvA scr 5 mX10_castAnew [.ref 0] σ1 (fun σ' => K_X10_wipe_20 scr (σ 1 1) σ' P)) : K_X10_wipe_0 scr σ P := by
  show XA scr 6 mX10_wipe 172 4705 0 [some (.ref 0), none] [] (hs σ) (pI P)
  refine XA.blk (e9 := 16) (ok := true) (ls' := [some (.ref 0), some (.int (σ 1 1))]) (st' := []) (h' := hs (su σ 1 1 0)) [(.aload_n 0, 1, 0, 0, 0, 0, 0, 0), (.getfield 10, 3, 10, 0, 2, 398, 0, 0), (.getfield 88, 3, 7, 1, 0, 97, 0, 0), (.istore_n 1, 1, 1, 0, 0, 0, 0, 0), (.aload_n 0, 1, 0, 0, 0, 0, 0, 0), (.getfield 10, 3, 10, 0, 2, 398, 0, 0), (.iconst 0, 1, 0, 0, 0, 0, 0, 0), (.putfield 88, 3, 7, 1, 0, 97, 0, 0)] (by decide +kernel) rfl rfl ?_
  obtain ⟨σ1, hσ1⟩ : ∃ s9, s9 = (su σ 1 1 0) := ⟨_, rfl⟩
  rw [← hσ1]
  have H := H σ1 hσ1
  refine XA.blk (e9 := 17) (ok := true) (ls' := [some (.ref 0), some (.int (σ 1 1))]) (st' := [.ref 0]) (h' := hs σ1) [(.aload_n 0, 1, 0, 0, 0, 0, 0, 0)] (by decide +kernel) rfl rfl ?_
  refine XA.callV (as := []) (rest := []) (mc' := 0) (ms' := 0) (idx := 95) (t := 452) cv_X10_castAnew (by decide +kernel) rfl rfl rfl (Nat.le_of_ble_eq_true rfl) (Nat.le_of_ble_eq_true rfl) (Nat.le_of_ble_eq_true rfl) (Nat.le_of_ble_eq_true rfl) (H) (fun rv h' hp => ?_)
  obtain ⟨s9, rfl, rfl, hK⟩ := hp
  exact ⟨rfl, rfl, XA.drop (by simp [leL]) hK⟩
set_option maxRecDepth 20000 in
theorem W_X10_wipe_20 {scr : ScA}   {x1 : Int32}  {σ : Nat → Nat → Int32} {P : Int32 → (Nat → Nat → Int32) → Prop} (H : P x1 σ) : K_X10_wipe_20 scr x1 σ P := by
  show XA scr 6 mX10_wipe 172 4705 20 [none, some (.int x1)] [] (hs σ) (pI P)
  refine XA.blk (e9 := 21) (ok := true) (ls' := [none, some (.int x1)]) (st' := [.int x1]) (h' := hs σ) [(.iload_n 1, 1, 1, 0, 0, 0, 0, 0)] (by decide +kernel) rfl rfl ?_
  exact XA.ret (some (.int x1)) rfl (show ckRt mX10_wipe 21 .ireturn = true by decide +kernel) trivial (Nat.le_of_ble_eq_true rfl) (Nat.le_of_ble_eq_true rfl) ⟨_, _, rfl, rfl, H⟩
theorem E_X10_wipe {scr : ScA}   {σ : Nat → Nat → Int32} {P : Int32 → (Nat → Nat → Int32) → Prop} (h : K_X10_wipe_0 scr σ P) : CiA scr 6 mX10_wipe [.ref 0] σ P := CtA.of (by decide) (Nat.le_of_ble_eq_true rfl) (XA.drop (by simp [leL, enL]) h)
def K_X10_undo_0 (scr : ScA)   (σ : Nat → Nat → Int32) (P : Int32 → (Nat → Nat → Int32) → Prop) : Prop := XA scr 6 mX10_undo 172 4705 0 [some (.ref 0)] [] (hs σ) (pI P)
def K_X10_undo_30 (scr : ScA)   (σ : Nat → Nat → Int32) (P : Int32 → (Nat → Nat → Int32) → Prop) : Prop := XA scr 6 mX10_undo 172 4705 30 [some (.ref 0)] [] (hs σ) (pI P)
set_option maxRecDepth 20000 in
theorem W_X10_undo_0 {scr : ScA}     {σ : Nat → Nat → Int32} {P : Int32 → (Nat → Nat → Int32) → Prop} (H : (¬ (σ 1 1) = 0 → ∀ σ1, σ1 = (su σ 1 1 ((σ 1 1) - 1)) → CvA scr 5 mX10_castAnew [.ref 0] σ1 (fun σ' => K_X10_undo_30 scr σ' P)) ∧ ((σ 1 1) = 0 → P (-3) σ)) : K_X10_undo_0 scr σ P := by
  show XA scr 6 mX10_undo 172 4705 0 [some (.ref 0)] [] (hs σ) (pI P)
  refine XA.blk (e9 := 7) (ok := true) (ls' := [some (.ref 0)]) (st' := [.int (σ 1 1)]) (h' := hs σ) [(.aload_n 0, 1, 0, 0, 0, 0, 0, 0), (.getfield 10, 3, 10, 0, 2, 398, 0, 0), (.getfield 88, 3, 7, 1, 0, 97, 0, 0)] (by decide +kernel) rfl rfl ?_
  refine XA.if_ne (6) 13 (by decide +kernel) (fun c1 => ?_) (fun c1 => ?_)
  · have H := H.1 c1
    refine XA.blk (e9 := 26) (ok := true) (ls' := [some (.ref 0)]) (st' := []) (h' := hs (su σ 1 1 ((σ 1 1) - 1))) [(.aload_n 0, 1, 0, 0, 0, 0, 0, 0), (.getfield 10, 3, 10, 0, 2, 398, 0, 0), (.dup, 1, 0, 0, 0, 0, 0, 0), (.getfield 88, 3, 7, 1, 0, 97, 0, 0), (.iconst 1, 1, 0, 0, 0, 0, 1, 0), (.isub, 1, 0, 0, 0, 0, 0, 0), (.putfield 88, 3, 7, 1, 0, 97, 0, 0)] (by decide +kernel) rfl rfl ?_
    obtain ⟨σ1, hσ1⟩ : ∃ s9, s9 = (su σ 1 1 ((σ 1 1) - 1)) := ⟨_, rfl⟩
    rw [← hσ1]
    have H := H σ1 hσ1
    refine XA.blk (e9 := 27) (ok := true) (ls' := [some (.ref 0)]) (st' := [.ref 0]) (h' := hs σ1) [(.aload_n 0, 1, 0, 0, 0, 0, 0, 0)] (by decide +kernel) rfl rfl ?_
    refine XA.callV (as := []) (rest := []) (mc' := 0) (ms' := 0) (idx := 95) (t := 452) cv_X10_castAnew (by decide +kernel) rfl rfl rfl (Nat.le_of_ble_eq_true rfl) (Nat.le_of_ble_eq_true rfl) (Nat.le_of_ble_eq_true rfl) (Nat.le_of_ble_eq_true rfl) (H) (fun rv h' hp => ?_)
    obtain ⟨s9, rfl, rfl, hK⟩ := hp
    exact ⟨rfl, rfl, hK⟩
  · have H := H.2 c1
    refine XA.blk (e9 := 12) (ok := true) (ls' := [some (.ref 0)]) (st' := [.int (-3)]) (h' := hs σ) [(.bipush (-3), 2, 0, 0, 0, 0, (-3), 0)] (by decide +kernel) rfl rfl ?_
    exact XA.ret (some (.int (-3))) rfl (show ckRt mX10_undo 12 .ireturn = true by decide +kernel) trivial (Nat.le_of_ble_eq_true rfl) (Nat.le_of_ble_eq_true rfl) ⟨_, _, rfl, rfl, H⟩
set_option maxRecDepth 20000 in
theorem W_X10_undo_30 {scr : ScA}     {σ : Nat → Nat → Int32} {P : Int32 → (Nat → Nat → Int32) → Prop} (H : P (σ 1 1) σ) : K_X10_undo_30 scr σ P := by
  show XA scr 6 mX10_undo 172 4705 30 [some (.ref 0)] [] (hs σ) (pI P)
  refine XA.blk (e9 := 37) (ok := true) (ls' := [some (.ref 0)]) (st' := [.int (σ 1 1)]) (h' := hs σ) [(.aload_n 0, 1, 0, 0, 0, 0, 0, 0), (.getfield 10, 3, 10, 0, 2, 398, 0, 0), (.getfield 88, 3, 7, 1, 0, 97, 0, 0)] (by decide +kernel) rfl rfl ?_
  exact XA.ret (some (.int (σ 1 1))) rfl (show ckRt mX10_undo 37 .ireturn = true by decide +kernel) trivial (Nat.le_of_ble_eq_true rfl) (Nat.le_of_ble_eq_true rfl) ⟨_, _, rfl, rfl, H⟩
theorem E_X10_undo {scr : ScA}   {σ : Nat → Nat → Int32} {P : Int32 → (Nat → Nat → Int32) → Prop} (h : K_X10_undo_0 scr σ P) : CiA scr 6 mX10_undo [.ref 0] σ P := CtA.of (by decide) (Nat.le_of_ble_eq_true rfl) (XA.drop (by simp [leL, enL]) h)
def K_X10_acrobat_0 (scr : ScA)  (x1 : Int32) (x2 : Int32) (σ : Nat → Nat → Int32) (P : Int32 → (Nat → Nat → Int32) → Prop) : Prop := XA scr 1 mX10_acrobat 172 4705 0 [some (.ref 0), some (.int x1), some (.int x2)] [] (hs σ) (pI P)
set_option maxRecDepth 20000 in
theorem W_X10_acrobat_0 {scr : ScA}   {x1 : Int32} {x2 : Int32}  {σ : Nat → Nat → Int32} {P : Int32 → (Nat → Nat → Int32) → Prop} (H : (¬ (isW x1 (σ 3 6)) = 0 → (x2 = 0 → (inB x1 10 = true) ∧ (P (σ 4 (Int32.toNatClampNeg x1)) σ)) ∧ (x2 = 1 → (inB x1 10 = true) ∧ (P (σ 5 (Int32.toNatClampNeg x1)) σ)) ∧ (x2 = 2 → (inB x1 10 = true) ∧ (P (σ 6 (Int32.toNatClampNeg x1)) σ)) ∧ (x2 = 3 → (inB x1 10 = true) ∧ (P (σ 7 (Int32.toNatClampNeg x1)) σ)) ∧ (x2 = 4 → (inB x1 10 = true) ∧ (P (σ 8 (Int32.toNatClampNeg x1)) σ)) ∧ (¬ x2 = 0 → ¬ x2 = 1 → ¬ x2 = 2 → ¬ x2 = 3 → ¬ x2 = 4 → P (-2) σ)) ∧ ((isW x1 (σ 3 6)) = 0 → P (-2) σ)) : K_X10_acrobat_0 scr x1 x2 σ P := by
  show XA scr 1 mX10_acrobat 172 4705 0 [some (.ref 0), some (.int x1), some (.int x2)] [] (hs σ) (pI P)
  refine XA.blk (e9 := 8) (ok := true) (ls' := [some (.ref 0), some (.int x1), some (.int x2)]) (st' := [.int (σ 3 6), .int x1]) (h' := hs σ) [(.iload_n 1, 1, 1, 0, 0, 0, 0, 0), (.aload_n 0, 1, 0, 0, 0, 0, 0, 0), (.getfield 19, 3, 10, 1, 4, 399, 0, 0), (.getfield 98, 3, 8, 6, 0, 143, 0, 0)] (by decide +kernel) rfl rfl ?_
  refine XA.callS (as := [.int x1, .int (σ 3 6)]) (rest := []) (mc' := 0) (ms' := 0) (idx := 84) (t := 445) cs_X10_isWithin (by decide +kernel) rfl rfl (Nat.le_of_ble_eq_true rfl) (Nat.le_of_ble_eq_true rfl) (Nat.le_of_ble_eq_true rfl) (Nat.le_of_ble_eq_true rfl) (pu_X10_isWithin scr σ x1 (σ 3 6)) (fun rv h' hp => ?_)
  obtain ⟨rfl, rfl⟩ := hp
  refine ⟨rfl, rfl, ?_⟩
  show XA scr 1 mX10_acrobat 172 4705 11 [some (.ref 0), some (.int x1), some (.int x2)] [.int (isW x1 (σ 3 6))] (hs σ) (pI P)
  refine XA.if_ne (6) 17 (by decide +kernel) (fun c1 => ?_) (fun c1 => ?_)
  · have H := H.1 c1
    refine XA.blk (e9 := 18) (ok := true) (ls' := [some (.ref 0), some (.int x1), some (.int x2)]) (st' := [.int x2]) (h' := hs σ) [(.iload_n 2, 1, 2, 0, 0, 0, 0, 0)] (by decide +kernel) rfl rfl ?_
    refine XA.tsw (84) (0) (4) [34, 44, 54, 64, 74] 34 [(0, 52), (1, 62), (2, 72), (3, 82), (4, 92)] 102 (by decide +kernel) (fun q9 hq9 e9 => ?_) (fun e9 => ?_)
    · simp only [List.mem_cons, List.not_mem_nil, or_false] at hq9
      rcases hq9 with rfl | rfl | rfl | rfl | rfl
      · have H := H.1 e9
        obtain ⟨o1, H⟩ := H
        refine XA.blk (e9 := 61) (ok := inB x1 10 && (true)) (ls' := [some (.ref 0), some (.int x1), some (.int x2)]) (st' := [.int (σ 4 (Int32.toNatClampNeg x1))]) (h' := hs σ) [(.aload_n 0, 1, 0, 0, 0, 0, 0, 0), (.getfield 19, 3, 10, 1, 4, 399, 0, 0), (.getfield 101, 3, 8, 0, 2, 115, 0, 0), (.iload_n 1, 1, 1, 0, 0, 0, 0, 0), (.iaload, 1, 0, 0, 0, 0, 0, 0)] (by decide +kernel) rfl (by simp only [o1, Bool.and_true, Bool.true_and]) ?_
        exact XA.ret (some (.int (σ 4 (Int32.toNatClampNeg x1)))) rfl (show ckRt mX10_acrobat 61 .ireturn = true by decide +kernel) trivial (Nat.le_of_ble_eq_true rfl) (Nat.le_of_ble_eq_true rfl) ⟨_, _, rfl, rfl, H⟩
      · have H := H.2.1 e9
        obtain ⟨o1, H⟩ := H
        refine XA.blk (e9 := 71) (ok := inB x1 10 && (true)) (ls' := [some (.ref 0), some (.int x1), some (.int x2)]) (st' := [.int (σ 5 (Int32.toNatClampNeg x1))]) (h' := hs σ) [(.aload_n 0, 1, 0, 0, 0, 0, 0, 0), (.getfield 19, 3, 10, 1, 4, 399, 0, 0), (.getfield 105, 3, 8, 1, 3, 120, 0, 0), (.iload_n 1, 1, 1, 0, 0, 0, 0, 0), (.iaload, 1, 0, 0, 0, 0, 0, 0)] (by decide +kernel) rfl (by simp only [o1, Bool.and_true, Bool.true_and]) ?_
        exact XA.ret (some (.int (σ 5 (Int32.toNatClampNeg x1)))) rfl (show ckRt mX10_acrobat 71 .ireturn = true by decide +kernel) trivial (Nat.le_of_ble_eq_true rfl) (Nat.le_of_ble_eq_true rfl) ⟨_, _, rfl, rfl, H⟩
      · have H := H.2.2.1 e9
        obtain ⟨o1, H⟩ := H
        refine XA.blk (e9 := 81) (ok := inB x1 10 && (true)) (ls' := [some (.ref 0), some (.int x1), some (.int x2)]) (st' := [.int (σ 6 (Int32.toNatClampNeg x1))]) (h' := hs σ) [(.aload_n 0, 1, 0, 0, 0, 0, 0, 0), (.getfield 19, 3, 10, 1, 4, 399, 0, 0), (.getfield 108, 3, 8, 2, 4, 126, 0, 0), (.iload_n 1, 1, 1, 0, 0, 0, 0, 0), (.iaload, 1, 0, 0, 0, 0, 0, 0)] (by decide +kernel) rfl (by simp only [o1, Bool.and_true, Bool.true_and]) ?_
        exact XA.ret (some (.int (σ 6 (Int32.toNatClampNeg x1)))) rfl (show ckRt mX10_acrobat 81 .ireturn = true by decide +kernel) trivial (Nat.le_of_ble_eq_true rfl) (Nat.le_of_ble_eq_true rfl) ⟨_, _, rfl, rfl, H⟩
      · have H := H.2.2.2.1 e9
        obtain ⟨o1, H⟩ := H
        refine XA.blk (e9 := 91) (ok := inB x1 10 && (true)) (ls' := [some (.ref 0), some (.int x1), some (.int x2)]) (st' := [.int (σ 7 (Int32.toNatClampNeg x1))]) (h' := hs σ) [(.aload_n 0, 1, 0, 0, 0, 0, 0, 0), (.getfield 19, 3, 10, 1, 4, 399, 0, 0), (.getfield 111, 3, 8, 3, 5, 131, 0, 0), (.iload_n 1, 1, 1, 0, 0, 0, 0, 0), (.iaload, 1, 0, 0, 0, 0, 0, 0)] (by decide +kernel) rfl (by simp only [o1, Bool.and_true, Bool.true_and]) ?_
        exact XA.ret (some (.int (σ 7 (Int32.toNatClampNeg x1)))) rfl (show ckRt mX10_acrobat 91 .ireturn = true by decide +kernel) trivial (Nat.le_of_ble_eq_true rfl) (Nat.le_of_ble_eq_true rfl) ⟨_, _, rfl, rfl, H⟩
      · have H := H.2.2.2.2.1 e9
        obtain ⟨o1, H⟩ := H
        refine XA.blk (e9 := 101) (ok := inB x1 10 && (true)) (ls' := [some (.ref 0), some (.int x1), some (.int x2)]) (st' := [.int (σ 8 (Int32.toNatClampNeg x1))]) (h' := hs σ) [(.aload_n 0, 1, 0, 0, 0, 0, 0, 0), (.getfield 19, 3, 10, 1, 4, 399, 0, 0), (.getfield 114, 3, 8, 4, 6, 135, 0, 0), (.iload_n 1, 1, 1, 0, 0, 0, 0, 0), (.iaload, 1, 0, 0, 0, 0, 0, 0)] (by decide +kernel) rfl (by simp only [o1, Bool.and_true, Bool.true_and]) ?_
        exact XA.ret (some (.int (σ 8 (Int32.toNatClampNeg x1)))) rfl (show ckRt mX10_acrobat 101 .ireturn = true by decide +kernel) trivial (Nat.le_of_ble_eq_true rfl) (Nat.le_of_ble_eq_true rfl) ⟨_, _, rfl, rfl, H⟩
    · have H := H.2.2.2.2.2 (e9 (0, 52) (by simp)) (e9 (1, 62) (by simp)) (e9 (2, 72) (by simp)) (e9 (3, 82) (by simp)) (e9 (4, 92) (by simp))
      refine XA.blk (e9 := 104) (ok := true) (ls' := [some (.ref 0), some (.int x1), some (.int x2)]) (st' := [.int (-2)]) (h' := hs σ) [(.bipush (-2), 2, 0, 0, 0, 0, (-2), 0)] (by decide +kernel) rfl rfl ?_
      exact XA.ret (some (.int (-2))) rfl (show ckRt mX10_acrobat 104 .ireturn = true by decide +kernel) trivial (Nat.le_of_ble_eq_true rfl) (Nat.le_of_ble_eq_true rfl) ⟨_, _, rfl, rfl, H⟩
  · have H := H.2 c1
    refine XA.blk (e9 := 16) (ok := true) (ls' := [some (.ref 0), some (.int x1), some (.int x2)]) (st' := [.int (-2)]) (h' := hs σ) [(.bipush (-2), 2, 0, 0, 0, 0, (-2), 0)] (by decide +kernel) rfl rfl ?_
    exact XA.ret (some (.int (-2))) rfl (show ckRt mX10_acrobat 16 .ireturn = true by decide +kernel) trivial (Nat.le_of_ble_eq_true rfl) (Nat.le_of_ble_eq_true rfl) ⟨_, _, rfl, rfl, H⟩
theorem E_X10_acrobat {scr : ScA}  {x1 : Int32} {x2 : Int32} {σ : Nat → Nat → Int32} {P : Int32 → (Nat → Nat → Int32) → Prop} (h : K_X10_acrobat_0 scr x1 x2 σ P) : CiA scr 1 mX10_acrobat [.ref 0, .int x1, .int x2] σ P := CtA.of (by decide) (Nat.le_of_ble_eq_true rfl) (XA.drop (by simp [leL, enL]) h)
def K_X10_event_0 (scr : ScA)  (x1 : Int32) (x2 : Int32) (x3 : Int32) (σ : Nat → Nat → Int32) (P : Int32 → (Nat → Nat → Int32) → Prop) : Prop := XA scr 3 mX10_event 172 4705 0 [some (.ref 0), some (.int x1), some (.int x2), some (.int x3)] [] (hs σ) (pI P)
def K_X10_event_54 (scr : ScA)   (σ : Nat → Nat → Int32) (P : Int32 → (Nat → Nat → Int32) → Prop) : Prop := XA scr 3 mX10_event 172 4705 54 [some (.ref 0), none, none, none] [] (hs σ) (pI P)
def K_X10_event_58 (scr : ScA)   (σ : Nat → Nat → Int32) (P : Int32 → (Nat → Nat → Int32) → Prop) : Prop := XA scr 3 mX10_event 172 4705 58 [some (.ref 0), none, none, none] [] (hs σ) (pI P)
set_option maxRecDepth 20000 in
theorem W_X10_event_0 {scr : ScA}   {x1 : Int32} {x2 : Int32} {x3 : Int32}  {σ : Nat → Nat → Int32} {P : Int32 → (Nat → Nat → Int32) → Prop} (H : ((isW x1 3) = 0 → P (-2) σ) ∧ (¬ (isW x1 3) = 0 → ((isW x2 24) = 0 → P (-2) σ) ∧ (¬ (isW x2 24) = 0 → (¬ (isW x3 10) = 0 → ((σ 10 3) < 8 → CvA scr 0 mX1_add [.ref 10, .int x1, .int x2, .int x3] σ (fun σ' => K_X10_event_54 scr σ' P)) ∧ (¬ (σ 10 3) < 8 → P (-4) σ)) ∧ ((isW x3 10) = 0 → P (-2) σ)))) : K_X10_event_0 scr x1 x2 x3 σ P := by
  show XA scr 3 mX10_event 172 4705 0 [some (.ref 0), some (.int x1), some (.int x2), some (.int x3)] [] (hs σ) (pI P)
  refine XA.blk (e9 := 2) (ok := true) (ls' := [some (.ref 0), some (.int x1), some (.int x2), some (.int x3)]) (st' := [.int 3, .int x1]) (h' := hs σ) [(.iload_n 1, 1, 1, 0, 0, 0, 0, 0), (.iconst 3, 1, 0, 0, 0, 0, 3, 0)] (by decide +kernel) rfl rfl ?_
  refine XA.callS (as := [.int x1, .int 3]) (rest := []) (mc' := 0) (ms' := 0) (idx := 84) (t := 445) cs_X10_isWithin (by decide +kernel) rfl rfl (Nat.le_of_ble_eq_true rfl) (Nat.le_of_ble_eq_true rfl) (Nat.le_of_ble_eq_true rfl) (Nat.le_of_ble_eq_true rfl) (pu_X10_isWithin scr σ x1 3) (fun rv h' hp => ?_)
  obtain ⟨rfl, rfl⟩ := hp
  refine ⟨rfl, rfl, ?_⟩
  show XA scr 3 mX10_event 172 4705 5 [some (.ref 0), some (.int x1), some (.int x2), some (.int x3)] [.int (isW x1 3)] (hs σ) (pI P)
  refine XA.if_eq (21) 26 (by decide +kernel) (fun c1 => ?_) (fun c1 => ?_)
  · have H := H.1 c1
    refine XA.blk (e9 := 28) (ok := true) (ls' := [some (.ref 0), some (.int x1), some (.int x2), some (.int x3)]) (st' := [.int (-2)]) (h' := hs σ) [(.bipush (-2), 2, 0, 0, 0, 0, (-2), 0)] (by decide +kernel) rfl rfl ?_
    exact XA.ret (some (.int (-2))) rfl (show ckRt mX10_event 28 .ireturn = true by decide +kernel) trivial (Nat.le_of_ble_eq_true rfl) (Nat.le_of_ble_eq_true rfl) ⟨_, _, rfl, rfl, H⟩
  · have H := H.2 c1
    refine XA.blk (e9 := 11) (ok := true) (ls' := [some (.ref 0), some (.int x1), some (.int x2), some (.int x3)]) (st' := [.int 24, .int x2]) (h' := hs σ) [(.iload_n 2, 1, 2, 0, 0, 0, 0, 0), (.bipush 24, 2, 0, 0, 0, 0, 24, 0)] (by decide +kernel) rfl rfl ?_
    refine XA.callS (as := [.int x2, .int 24]) (rest := []) (mc' := 0) (ms' := 0) (idx := 84) (t := 445) cs_X10_isWithin (by decide +kernel) rfl rfl (Nat.le_of_ble_eq_true rfl) (Nat.le_of_ble_eq_true rfl) (Nat.le_of_ble_eq_true rfl) (Nat.le_of_ble_eq_true rfl) (pu_X10_isWithin scr σ x2 24) (fun rv h' hp => ?_)
    obtain ⟨rfl, rfl⟩ := hp
    refine ⟨rfl, rfl, ?_⟩
    show XA scr 3 mX10_event 172 4705 14 [some (.ref 0), some (.int x1), some (.int x2), some (.int x3)] [.int (isW x2 24)] (hs σ) (pI P)
    refine XA.if_eq (12) 26 (by decide +kernel) (fun c2 => ?_) (fun c2 => ?_)
    · have H := H.1 c2
      refine XA.blk (e9 := 28) (ok := true) (ls' := [some (.ref 0), some (.int x1), some (.int x2), some (.int x3)]) (st' := [.int (-2)]) (h' := hs σ) [(.bipush (-2), 2, 0, 0, 0, 0, (-2), 0)] (by decide +kernel) rfl rfl ?_
      exact XA.ret (some (.int (-2))) rfl (show ckRt mX10_event 28 .ireturn = true by decide +kernel) trivial (Nat.le_of_ble_eq_true rfl) (Nat.le_of_ble_eq_true rfl) ⟨_, _, rfl, rfl, H⟩
    · have H := H.2 c2
      refine XA.blk (e9 := 20) (ok := true) (ls' := [some (.ref 0), some (.int x1), some (.int x2), some (.int x3)]) (st' := [.int 10, .int x3]) (h' := hs σ) [(.iload_n 3, 1, 3, 0, 0, 0, 0, 0), (.bipush 10, 2, 0, 0, 0, 0, 10, 0)] (by decide +kernel) rfl rfl ?_
      refine XA.callS (as := [.int x3, .int 10]) (rest := []) (mc' := 0) (ms' := 0) (idx := 84) (t := 445) cs_X10_isWithin (by decide +kernel) rfl rfl (Nat.le_of_ble_eq_true rfl) (Nat.le_of_ble_eq_true rfl) (Nat.le_of_ble_eq_true rfl) (Nat.le_of_ble_eq_true rfl) (pu_X10_isWithin scr σ x3 10) (fun rv h' hp => ?_)
      obtain ⟨rfl, rfl⟩ := hp
      refine ⟨rfl, rfl, ?_⟩
      show XA scr 3 mX10_event 172 4705 23 [some (.ref 0), some (.int x1), some (.int x2), some (.int x3)] [.int (isW x3 10)] (hs σ) (pI P)
      refine XA.if_ne (6) 29 (by decide +kernel) (fun c3 => ?_) (fun c3 => ?_)
      · have H := H.1 c3
        refine XA.blk (e9 := 38) (ok := true) (ls' := [some (.ref 0), some (.int x1), some (.int x2), some (.int x3)]) (st' := [.int 8, .int (σ 10 3)]) (h' := hs σ) [(.aload_n 0, 1, 0, 0, 0, 0, 0, 0), (.getfield 26, 3, 10, 2, 11, 400, 0, 0), (.getfield 117, 3, 1, 3, 0, 175, 0, 0), (.bipush 8, 2, 0, 0, 0, 0, 8, 0)] (by decide +kernel) rfl rfl ?_
        refine XA.icmp_lt (6) 44 (by decide +kernel) (fun c4 => ?_) (fun c4 => ?_)
        · have H := H.1 c4
          refine XA.blk (e9 := 51) (ok := true) (ls' := [some (.ref 0), some (.int x1), some (.int x2), some (.int x3)]) (st' := [.int x3, .int x2, .int x1, .ref 10]) (h' := hs σ) [(.aload_n 0, 1, 0, 0, 0, 0, 0, 0), (.getfield 26, 3, 10, 2, 11, 400, 0, 0), (.iload_n 1, 1, 1, 0, 0, 0, 0, 0), (.iload_n 2, 1, 2, 0, 0, 0, 0, 0), (.iload_n 3, 1, 3, 0, 0, 0, 0, 0)] (by decide +kernel) rfl rfl ?_
          refine XA.callV (as := [.int x1, .int x2, .int x3]) (rest := []) (mc' := 0) (ms' := 0) (idx := 118) (t := 512) cv_X1_add (by decide +kernel) rfl rfl rfl (Nat.le_of_ble_eq_true rfl) (Nat.le_of_ble_eq_true rfl) (Nat.le_of_ble_eq_true rfl) (Nat.le_of_ble_eq_true rfl) (H) (fun rv h' hp => ?_)
          obtain ⟨s9, rfl, rfl, hK⟩ := hp
          exact ⟨rfl, rfl, XA.drop (by simp [leL]) hK⟩
        · have H := H.2 c4
          refine XA.blk (e9 := 43) (ok := true) (ls' := [some (.ref 0), some (.int x1), some (.int x2), some (.int x3)]) (st' := [.int (-4)]) (h' := hs σ) [(.bipush (-4), 2, 0, 0, 0, 0, (-4), 0)] (by decide +kernel) rfl rfl ?_
          exact XA.ret (some (.int (-4))) rfl (show ckRt mX10_event 43 .ireturn = true by decide +kernel) trivial (Nat.le_of_ble_eq_true rfl) (Nat.le_of_ble_eq_true rfl) ⟨_, _, rfl, rfl, H⟩
      · have H := H.2 c3
        refine XA.blk (e9 := 28) (ok := true) (ls' := [some (.ref 0), some (.int x1), some (.int x2), some (.int x3)]) (st' := [.int (-2)]) (h' := hs σ) [(.bipush (-2), 2, 0, 0, 0, 0, (-2), 0)] (by decide +kernel) rfl rfl ?_
        exact XA.ret (some (.int (-2))) rfl (show ckRt mX10_event 28 .ireturn = true by decide +kernel) trivial (Nat.le_of_ble_eq_true rfl) (Nat.le_of_ble_eq_true rfl) ⟨_, _, rfl, rfl, H⟩
set_option maxRecDepth 20000 in
theorem W_X10_event_54 {scr : ScA}     {σ : Nat → Nat → Int32} {P : Int32 → (Nat → Nat → Int32) → Prop} (H : CvA scr 2 mX10_forgetAnswers [.ref 0] σ (fun σ' => K_X10_event_58 scr σ' P)) : K_X10_event_54 scr σ P := by
  show XA scr 3 mX10_event 172 4705 54 [some (.ref 0), none, none, none] [] (hs σ) (pI P)
  refine XA.blk (e9 := 55) (ok := true) (ls' := [some (.ref 0), none, none, none]) (st' := [.ref 0]) (h' := hs σ) [(.aload_n 0, 1, 0, 0, 0, 0, 0, 0)] (by decide +kernel) rfl rfl ?_
  refine XA.callV (as := []) (rest := []) (mc' := 0) (ms' := 0) (idx := 122) (t := 479) cv_X10_forgetAnswers (by decide +kernel) rfl rfl rfl (Nat.le_of_ble_eq_true rfl) (Nat.le_of_ble_eq_true rfl) (Nat.le_of_ble_eq_true rfl) (Nat.le_of_ble_eq_true rfl) (H) (fun rv h' hp => ?_)
  obtain ⟨s9, rfl, rfl, hK⟩ := hp
  exact ⟨rfl, rfl, hK⟩
set_option maxRecDepth 20000 in
theorem W_X10_event_58 {scr : ScA}     {σ : Nat → Nat → Int32} {P : Int32 → (Nat → Nat → Int32) → Prop} (H : P (σ 10 3) σ) : K_X10_event_58 scr σ P := by
  show XA scr 3 mX10_event 172 4705 58 [some (.ref 0), none, none, none] [] (hs σ) (pI P)
  refine XA.blk (e9 := 65) (ok := true) (ls' := [some (.ref 0), none, none, none]) (st' := [.int (σ 10 3)]) (h' := hs σ) [(.aload_n 0, 1, 0, 0, 0, 0, 0, 0), (.getfield 26, 3, 10, 2, 11, 400, 0, 0), (.getfield 117, 3, 1, 3, 0, 175, 0, 0)] (by decide +kernel) rfl rfl ?_
  exact XA.ret (some (.int (σ 10 3))) rfl (show ckRt mX10_event 65 .ireturn = true by decide +kernel) trivial (Nat.le_of_ble_eq_true rfl) (Nat.le_of_ble_eq_true rfl) ⟨_, _, rfl, rfl, H⟩
theorem E_X10_event {scr : ScA}  {x1 : Int32} {x2 : Int32} {x3 : Int32} {σ : Nat → Nat → Int32} {P : Int32 → (Nat → Nat → Int32) → Prop} (h : K_X10_event_0 scr x1 x2 x3 σ P) : CiA scr 3 mX10_event [.ref 0, .int x1, .int x2, .int x3] σ P := CtA.of (by decide) (Nat.le_of_ble_eq_true rfl) (XA.drop (by simp [leL, enL]) h)
def K_X10_back_0 (scr : ScA)   (σ : Nat → Nat → Int32) (P : Int32 → (Nat → Nat → Int32) → Prop) : Prop := XA scr 3 mX10_back 172 4705 0 [some (.ref 0)] [] (hs σ) (pI P)
def K_X10_back_30 (scr : ScA)   (σ : Nat → Nat → Int32) (P : Int32 → (Nat → Nat → Int32) → Prop) : Prop := XA scr 3 mX10_back 172 4705 30 [some (.ref 0)] [] (hs σ) (pI P)
set_option maxRecDepth 20000 in
theorem W_X10_back_0 {scr : ScA}     {σ : Nat → Nat → Int32} {P : Int32 → (Nat → Nat → Int32) → Prop} (H : (¬ (σ 10 3) = 0 → ∀ σ1, σ1 = (su σ 10 3 ((σ 10 3) - 1)) → CvA scr 2 mX10_forgetAnswers [.ref 0] σ1 (fun σ' => K_X10_back_30 scr σ' P)) ∧ ((σ 10 3) = 0 → P (-3) σ)) : K_X10_back_0 scr σ P := by
  show XA scr 3 mX10_back 172 4705 0 [some (.ref 0)] [] (hs σ) (pI P)
  refine XA.blk (e9 := 7) (ok := true) (ls' := [some (.ref 0)]) (st' := [.int (σ 10 3)]) (h' := hs σ) [(.aload_n 0, 1, 0, 0, 0, 0, 0, 0), (.getfield 26, 3, 10, 2, 11, 400, 0, 0), (.getfield 117, 3, 1, 3, 0, 175, 0, 0)] (by decide +kernel) rfl rfl ?_
  refine XA.if_ne (6) 13 (by decide +kernel) (fun c1 => ?_) (fun c1 => ?_)
  · have H := H.1 c1
    refine XA.blk (e9 := 26) (ok := true) (ls' := [some (.ref 0)]) (st' := []) (h' := hs (su σ 10 3 ((σ 10 3) - 1))) [(.aload_n 0, 1, 0, 0, 0, 0, 0, 0), (.getfield 26, 3, 10, 2, 11, 400, 0, 0), (.dup, 1, 0, 0, 0, 0, 0, 0), (.getfield 117, 3, 1, 3, 0, 175, 0, 0), (.iconst 1, 1, 0, 0, 0, 0, 1, 0), (.isub, 1, 0, 0, 0, 0, 0, 0), (.putfield 117, 3, 1, 3, 0, 175, 0, 0)] (by decide +kernel) rfl rfl ?_
    obtain ⟨σ1, hσ1⟩ : ∃ s9, s9 = (su σ 10 3 ((σ 10 3) - 1)) := ⟨_, rfl⟩
    rw [← hσ1]
    have H := H σ1 hσ1
    refine XA.blk (e9 := 27) (ok := true) (ls' := [some (.ref 0)]) (st' := [.ref 0]) (h' := hs σ1) [(.aload_n 0, 1, 0, 0, 0, 0, 0, 0)] (by decide +kernel) rfl rfl ?_
    refine XA.callV (as := []) (rest := []) (mc' := 0) (ms' := 0) (idx := 122) (t := 479) cv_X10_forgetAnswers (by decide +kernel) rfl rfl rfl (Nat.le_of_ble_eq_true rfl) (Nat.le_of_ble_eq_true rfl) (Nat.le_of_ble_eq_true rfl) (Nat.le_of_ble_eq_true rfl) (H) (fun rv h' hp => ?_)
    obtain ⟨s9, rfl, rfl, hK⟩ := hp
    exact ⟨rfl, rfl, hK⟩
  · have H := H.2 c1
    refine XA.blk (e9 := 12) (ok := true) (ls' := [some (.ref 0)]) (st' := [.int (-3)]) (h' := hs σ) [(.bipush (-3), 2, 0, 0, 0, 0, (-3), 0)] (by decide +kernel) rfl rfl ?_
    exact XA.ret (some (.int (-3))) rfl (show ckRt mX10_back 12 .ireturn = true by decide +kernel) trivial (Nat.le_of_ble_eq_true rfl) (Nat.le_of_ble_eq_true rfl) ⟨_, _, rfl, rfl, H⟩
set_option maxRecDepth 20000 in
theorem W_X10_back_30 {scr : ScA}     {σ : Nat → Nat → Int32} {P : Int32 → (Nat → Nat → Int32) → Prop} (H : P (σ 10 3) σ) : K_X10_back_30 scr σ P := by
  show XA scr 3 mX10_back 172 4705 30 [some (.ref 0)] [] (hs σ) (pI P)
  refine XA.blk (e9 := 37) (ok := true) (ls' := [some (.ref 0)]) (st' := [.int (σ 10 3)]) (h' := hs σ) [(.aload_n 0, 1, 0, 0, 0, 0, 0, 0), (.getfield 26, 3, 10, 2, 11, 400, 0, 0), (.getfield 117, 3, 1, 3, 0, 175, 0, 0)] (by decide +kernel) rfl rfl ?_
  exact XA.ret (some (.int (σ 10 3))) rfl (show ckRt mX10_back 37 .ireturn = true by decide +kernel) trivial (Nat.le_of_ble_eq_true rfl) (Nat.le_of_ble_eq_true rfl) ⟨_, _, rfl, rfl, H⟩
theorem E_X10_back {scr : ScA}   {σ : Nat → Nat → Int32} {P : Int32 → (Nat → Nat → Int32) → Prop} (h : K_X10_back_0 scr σ P) : CiA scr 3 mX10_back [.ref 0] σ P := CtA.of (by decide) (Nat.le_of_ble_eq_true rfl) (XA.drop (by simp [leL, enL]) h)
def K_X10_read_0 (scr : ScA)  (x1 : Int32) (σ : Nat → Nat → Int32) (P : Int32 → (Nat → Nat → Int32) → Prop) : Prop := XA scr 4 mX10_read 172 4705 0 [some (.ref 0), some (.int x1), none, none, none] [] (hs σ) (pI P)
def K_X10_read_30 (scr : ScA)  (y0 : Int32) (σ : Nat → Nat → Int32) (P : Int32 → (Nat → Nat → Int32) → Prop) : Prop := XA scr 4 mX10_read 172 4705 30 [none, none, none, none, none] [.int y0] (hs σ) (pI P)
def K_X10_read_36 (scr : ScA)  (u2 : Nat) (x3 : Int32) (x4 : Int32) (σ : Nat → Nat → Int32) (P : Int32 → (Nat → Nat → Int32) → Prop) : Prop := XA scr 4 mX10_read 172 4705 36 [some (.ref 0), none, some (.ref u2), some (.int x3), some (.int x4)] [] (hs σ) (pI P)
def K_X10_read_73 (scr : ScA)  (u2 : Nat) (x3 : Int32) (x4 : Int32) (y0 : Int32) (σ : Nat → Nat → Int32) (P : Int32 → (Nat → Nat → Int32) → Prop) : Prop := XA scr 4 mX10_read 172 4705 73 [some (.ref 0), none, some (.ref u2), some (.int x3), some (.int x4)] [.int y0] (hs σ) (pI P)
set_option maxRecDepth 20000 in
theorem W_X10_read_0 {scr : ScA}   {x1 : Int32}  {σ : Nat → Nat → Int32} {P : Int32 → (Nat → Nat → Int32) → Prop} (H : (¬ (isW x1 4) = 0 → (inB x1 4 = true) ∧ (((σ (127 + 1 + 2 * Int32.toNatClampNeg x1) 3) = 0 → K_X10_read_36 scr (127 + 1 + 2 * Int32.toNatClampNeg x1) 0 0 σ P) ∧ (¬ (σ (127 + 1 + 2 * Int32.toNatClampNeg x1) 3) = 0 → CiA scr 0 mX10_finding [.ref 0, .int 1] σ (fun r9 σ' => K_X10_read_30 scr r9 σ' P)))) ∧ ((isW x1 4) = 0 → P (-2) σ)) : K_X10_read_0 scr x1 σ P := by
  show XA scr 4 mX10_read 172 4705 0 [some (.ref 0), some (.int x1), none, none, none] [] (hs σ) (pI P)
  refine XA.blk (e9 := 2) (ok := true) (ls' := [some (.ref 0), some (.int x1), none, none, none]) (st' := [.int 4, .int x1]) (h' := hs σ) [(.iload_n 1, 1, 1, 0, 0, 0, 0, 0), (.iconst 4, 1, 0, 0, 0, 0, 4, 0)] (by decide +kernel) rfl rfl ?_
  refine XA.callS (as := [.int x1, .int 4]) (rest := []) (mc' := 0) (ms' := 0) (idx := 84) (t := 445) cs_X10_isWithin (by decide +kernel) rfl rfl (Nat.le_of_ble_eq_true rfl) (Nat.le_of_ble_eq_true rfl) (Nat.le_of_ble_eq_true rfl) (Nat.le_of_ble_eq_true rfl) (pu_X10_isWithin scr σ x1 4) (fun rv h' hp => ?_)
  obtain ⟨rfl, rfl⟩ := hp
  refine ⟨rfl, rfl, ?_⟩
  show XA scr 4 mX10_read 172 4705 5 [some (.ref 0), some (.int x1), none, none, none] [.int (isW x1 4)] (hs σ) (pI P)
  refine XA.if_ne (6) 11 (by decide +kernel) (fun c1 => ?_) (fun c1 => ?_)
  · have H := H.1 c1
    obtain ⟨o1, H⟩ := H
    refine XA.blk (e9 := 22) (ok := (inB x1 4 && (true && kR R0 127 (Int32.toNatClampNeg x1) (127 + 1 + 2 * Int32.toNatClampNeg x1))) && (kO 172 S0 (127 + 1 + 2 * Int32.toNatClampNeg x1) 4 && (true))) (ls' := [some (.ref 0), some (.int x1), some (.ref (127 + 1 + 2 * Int32.toNatClampNeg x1)), none, none]) (st' := [.int (σ (127 + 1 + 2 * Int32.toNatClampNeg x1) 3)]) (h' := hs σ) [(.aload_n 0, 1, 0, 0, 0, 0, 0, 0), (.getfield 75, 3, 10, 10, 128, 408, 0, 0), (.iload_n 1, 1, 1, 0, 0, 0, 0, 0), (.aaload, 1, 1, 2, 1, 0, 0, 0), (.astore_n 2, 1, 2, 0, 0, 0, 0, 0), (.aload_n 2, 1, 2, 0, 0, 0, 0, 0), (.getfield 125, 3, 4, 3, 0, 388, 0, 0)] (by decide +kernel) rfl (by simp only [seK o1, seO (seH o1), o1, Bool.and_true, Bool.true_and]) ?_
    refine XA.if_eq (9) 31 (by decide +kernel) (fun c2 => ?_) (fun c2 => ?_)
    · have H := H.1 c2
      refine XA.blk (e9 := 36) (ok := true) (ls' := [some (.ref 0), some (.int x1), some (.ref (127 + 1 + 2 * Int32.toNatClampNeg x1)), some (.int 0), some (.int 0)]) (st' := []) (h' := hs σ) [(.iconst 0, 1, 0, 0, 0, 0, 0, 0), (.istore_n 3, 1, 3, 0, 0, 0, 0, 0), (.iconst 0, 1, 0, 0, 0, 0, 0, 0), (.istore 4, 2, 4, 0, 0, 0, 0, 0)] (by decide +kernel) rfl rfl ?_
      exact XA.drop (by simp [leL]) H
    · have H := H.2 c2
      refine XA.blk (e9 := 27) (ok := true) (ls' := [some (.ref 0), some (.int x1), some (.ref (127 + 1 + 2 * Int32.toNatClampNeg x1)), none, none]) (st' := [.int 1, .ref 0]) (h' := hs σ) [(.aload_n 0, 1, 0, 0, 0, 0, 0, 0), (.iconst 1, 1, 0, 0, 0, 0, 1, 0)] (by decide +kernel) rfl rfl ?_
      refine XA.callV (as := [.int 1]) (rest := []) (mc' := 0) (ms' := 0) (idx := 129) (t := 524) cv_X10_finding (by decide +kernel) rfl rfl rfl (Nat.le_of_ble_eq_true rfl) (Nat.le_of_ble_eq_true rfl) (Nat.le_of_ble_eq_true rfl) (Nat.le_of_ble_eq_true rfl) (H) (fun rv h' hp => ?_)
      obtain ⟨r9, s9, rfl, rfl, hK⟩ := hp
      exact ⟨rfl, rfl, XA.drop (by simp [leL]) hK⟩
  · have H := H.2 c1
    refine XA.blk (e9 := 10) (ok := true) (ls' := [some (.ref 0), some (.int x1), none, none, none]) (st' := [.int (-2)]) (h' := hs σ) [(.bipush (-2), 2, 0, 0, 0, 0, (-2), 0)] (by decide +kernel) rfl rfl ?_
    exact XA.ret (some (.int (-2))) rfl (show ckRt mX10_read 10 .ireturn = true by decide +kernel) trivial (Nat.le_of_ble_eq_true rfl) (Nat.le_of_ble_eq_true rfl) ⟨_, _, rfl, rfl, H⟩
set_option maxRecDepth 20000 in
theorem W_X10_read_30 {scr : ScA}   {y0 : Int32}  {σ : Nat → Nat → Int32} {P : Int32 → (Nat → Nat → Int32) → Prop} (H : P y0 σ) : K_X10_read_30 scr y0 σ P := by
  show XA scr 4 mX10_read 172 4705 30 [none, none, none, none, none] [.int y0] (hs σ) (pI P)
  exact XA.ret (some (.int y0)) rfl (show ckRt mX10_read 30 .ireturn = true by decide +kernel) trivial (Nat.le_of_ble_eq_true rfl) (Nat.le_of_ble_eq_true rfl) ⟨_, _, rfl, rfl, H⟩
set_option maxRecDepth 20000 in
theorem W_X10_read_36 {scr : ScA}   {u2 : Nat} {x3 : Int32} {x4 : Int32} (hu2 : isSe u2) {σ : Nat → Nat → Int32} {P : Int32 → (Nat → Nat → Int32) → Prop} (H : ((σ u2 2) ≤ (x4 + 2) → P x3 σ) ∧ (¬ (σ u2 2) ≤ (x4 + 2) → CiA scr 3 mX10_event [.ref 0, .int (itV σ u2 x4), .int (itV σ u2 (x4 + 1)), .int (itV σ u2 (x4 + 2))] σ (fun r9 σ' => K_X10_read_73 scr u2 x3 x4 r9 σ' P))) : K_X10_read_36 scr u2 x3 x4 σ P := by
  show XA scr 4 mX10_read 172 4705 36 [some (.ref 0), none, some (.ref u2), some (.int x3), some (.int x4)] [] (hs σ) (pI P)
  refine XA.blk (e9 := 44) (ok := kO 172 S0 u2 4 && (true)) (ls' := [some (.ref 0), none, some (.ref u2), some (.int x3), some (.int x4)]) (st' := [.int (σ u2 2), .int (x4 + 2)]) (h' := hs σ) [(.iload 4, 2, 4, 0, 0, 0, 0, 0), (.iconst 2, 1, 0, 0, 0, 0, 2, 0), (.iadd, 1, 0, 0, 0, 0, 0, 0), (.aload_n 2, 1, 2, 0, 0, 0, 0, 0), (.getfield 133, 3, 4, 2, 0, 386, 0, 0)] (by decide +kernel) rfl (by simp only [seO hu2, Bool.and_true, Bool.true_and]) ?_
  refine XA.icmp_ge (44) 88 (by decide +kernel) (fun c1 => ?_) (fun c1 => ?_)
  · have H := H.1 c1
    refine XA.blk (e9 := 89) (ok := true) (ls' := [some (.ref 0), none, some (.ref u2), some (.int x3), some (.int x4)]) (st' := [.int x3]) (h' := hs σ) [(.iload_n 3, 1, 3, 0, 0, 0, 0, 0)] (by decide +kernel) rfl rfl ?_
    exact XA.ret (some (.int x3)) rfl (show ckRt mX10_read 89 .ireturn = true by decide +kernel) trivial (Nat.le_of_ble_eq_true rfl) (Nat.le_of_ble_eq_true rfl) ⟨_, _, rfl, rfl, H⟩
  · have H := H.2 c1
    refine XA.blk (e9 := 51) (ok := true) (ls' := [some (.ref 0), none, some (.ref u2), some (.int x3), some (.int x4)]) (st' := [.int x4, .ref u2, .ref 0]) (h' := hs σ) [(.aload_n 0, 1, 0, 0, 0, 0, 0, 0), (.aload_n 2, 1, 2, 0, 0, 0, 0, 0), (.iload 4, 2, 4, 0, 0, 0, 0, 0)] (by decide +kernel) rfl rfl ?_
    refine XA.callV (as := [.int x4]) (rest := [.ref 0]) (mc' := 0) (ms' := 0) (idx := 134) (t := 528) cv_X4_item (by decide +kernel) (seO hu2) rfl rfl (Nat.le_of_ble_eq_true rfl) (Nat.le_of_ble_eq_true rfl) (Nat.le_of_ble_eq_true rfl) (Nat.le_of_ble_eq_true rfl) (pu_X4_item scr σ hu2 x4) (fun rv h' hp => ?_)
    obtain ⟨rfl, rfl⟩ := hp
    refine ⟨rfl, rfl, ?_⟩
    show XA scr 4 mX10_read 172 4705 54 [some (.ref 0), none, some (.ref u2), some (.int x3), some (.int x4)] [.int (itV σ u2 x4), .ref 0] (hs σ) (pI P)
    refine XA.blk (e9 := 59) (ok := true) (ls' := [some (.ref 0), none, some (.ref u2), some (.int x3), some (.int x4)]) (st' := [.int (x4 + 1), .ref u2, .int (itV σ u2 x4), .ref 0]) (h' := hs σ) [(.aload_n 2, 1, 2, 0, 0, 0, 0, 0), (.iload 4, 2, 4, 0, 0, 0, 0, 0), (.iconst 1, 1, 0, 0, 0, 0, 1, 0), (.iadd, 1, 0, 0, 0, 0, 0, 0)] (by decide +kernel) rfl rfl ?_
    refine XA.callV (as := [.int (x4 + 1)]) (rest := [.int (itV σ u2 x4), .ref 0]) (mc' := 0) (ms' := 0) (idx := 134) (t := 528) cv_X4_item (by decide +kernel) (seO hu2) rfl rfl (Nat.le_of_ble_eq_true rfl) (Nat.le_of_ble_eq_true rfl) (Nat.le_of_ble_eq_true rfl) (Nat.le_of_ble_eq_true rfl) (pu_X4_item scr σ hu2 (x4 + 1)) (fun rv h' hp => ?_)
    obtain ⟨rfl, rfl⟩ := hp
    refine ⟨rfl, rfl, ?_⟩
    show XA scr 4 mX10_read 172 4705 62 [some (.ref 0), none, some (.ref u2), some (.int x3), some (.int x4)] [.int (itV σ u2 (x4 + 1)), .int (itV σ u2 x4), .ref 0] (hs σ) (pI P)
    refine XA.blk (e9 := 67) (ok := true) (ls' := [some (.ref 0), none, some (.ref u2), some (.int x3), some (.int x4)]) (st' := [.int (x4 + 2), .ref u2, .int (itV σ u2 (x4 + 1)), .int (itV σ u2 x4), .ref 0]) (h' := hs σ) [(.aload_n 2, 1, 2, 0, 0, 0, 0, 0), (.iload 4, 2, 4, 0, 0, 0, 0, 0), (.iconst 2, 1, 0, 0, 0, 0, 2, 0), (.iadd, 1, 0, 0, 0, 0, 0, 0)] (by decide +kernel) rfl rfl ?_
    refine XA.callV (as := [.int (x4 + 2)]) (rest := [.int (itV σ u2 (x4 + 1)), .int (itV σ u2 x4), .ref 0]) (mc' := 0) (ms' := 0) (idx := 134) (t := 528) cv_X4_item (by decide +kernel) (seO hu2) rfl rfl (Nat.le_of_ble_eq_true rfl) (Nat.le_of_ble_eq_true rfl) (Nat.le_of_ble_eq_true rfl) (Nat.le_of_ble_eq_true rfl) (pu_X4_item scr σ hu2 (x4 + 2)) (fun rv h' hp => ?_)
    obtain ⟨rfl, rfl⟩ := hp
    refine ⟨rfl, rfl, ?_⟩
    show XA scr 4 mX10_read 172 4705 70 [some (.ref 0), none, some (.ref u2), some (.int x3), some (.int x4)] [.int (itV σ u2 (x4 + 2)), .int (itV σ u2 (x4 + 1)), .int (itV σ u2 x4), .ref 0] (hs σ) (pI P)
    refine XA.callV (as := [.int (itV σ u2 x4), .int (itV σ u2 (x4 + 1)), .int (itV σ u2 (x4 + 2))]) (rest := []) (mc' := 0) (ms' := 0) (idx := 137) (t := 533) cv_X10_event (by decide +kernel) rfl rfl rfl (Nat.le_of_ble_eq_true rfl) (Nat.le_of_ble_eq_true rfl) (Nat.le_of_ble_eq_true rfl) (Nat.le_of_ble_eq_true rfl) (H) (fun rv h' hp => ?_)
    obtain ⟨r9, s9, rfl, rfl, hK⟩ := hp
    exact ⟨rfl, rfl, hK⟩
set_option maxRecDepth 20000 in
theorem W_X10_read_73 {scr : ScA}   {u2 : Nat} {x3 : Int32} {x4 : Int32} {y0 : Int32} (hu2 : isSe u2) {σ : Nat → Nat → Int32} {P : Int32 → (Nat → Nat → Int32) → Prop} (H : (0 ≤ y0 → K_X10_read_36 scr u2 (x3 + 1) (x4 + 3) σ P) ∧ (¬ 0 ≤ y0 → P x3 σ)) : K_X10_read_73 scr u2 x3 x4 y0 σ P := by
  show XA scr 4 mX10_read 172 4705 73 [some (.ref 0), none, some (.ref u2), some (.int x3), some (.int x4)] [.int y0] (hs σ) (pI P)
  refine XA.if_ge (6) 79 (by decide +kernel) (fun c1 => ?_) (fun c1 => ?_)
  · have H := H.1 c1
    refine XA.blk (e9 := 36) (ok := true) (ls' := [some (.ref 0), none, some (.ref u2), some (.int (x3 + 1)), some (.int (x4 + 3))]) (st' := []) (h' := hs σ) [(.iinc 3 1, 3, 3, 0, 0, 0, 1, 0), (.iinc 4 3, 3, 4, 0, 0, 0, 3, 0), (.goto (-49), 3, 36, 0, 0, 0, 0, 0)] (by decide +kernel) rfl rfl ?_
    exact H
  · have H := H.2 c1
    refine XA.blk (e9 := 89) (ok := true) (ls' := [some (.ref 0), none, some (.ref u2), some (.int x3), some (.int x4)]) (st' := [.int x3]) (h' := hs σ) [(.goto 12, 3, 88, 0, 0, 0, 0, 0), (.iload_n 3, 1, 3, 0, 0, 0, 0, 0)] (by decide +kernel) rfl rfl ?_
    exact XA.ret (some (.int x3)) rfl (show ckRt mX10_read 89 .ireturn = true by decide +kernel) trivial (Nat.le_of_ble_eq_true rfl) (Nat.le_of_ble_eq_true rfl) ⟨_, _, rfl, rfl, H⟩
theorem E_X10_read {scr : ScA}  {x1 : Int32} {σ : Nat → Nat → Int32} {P : Int32 → (Nat → Nat → Int32) → Prop} (h : K_X10_read_0 scr x1 σ P) : CiA scr 4 mX10_read [.ref 0, .int x1] σ P := CtA.of (by decide) (Nat.le_of_ble_eq_true rfl) (XA.drop (by simp [leL, enL]) h)
def K_X10_at_0 (scr : ScA)  (x1 : Int32) (x2 : Int32) (x3 : Int32) (σ : Nat → Nat → Int32) (P : Int32 → (Nat → Nat → Int32) → Prop) : Prop := XA scr 5 mX10_at 172 4705 0 [some (.ref 0), some (.int x1), some (.int x2), some (.int x3)] [] (hs σ) (pI P)
def K_X10_at_38 (scr : ScA)  (x1 : Int32) (x2 : Int32) (x3 : Int32) (σ : Nat → Nat → Int32) (P : Int32 → (Nat → Nat → Int32) → Prop) : Prop := XA scr 5 mX10_at 172 4705 38 [none, some (.int x1), some (.int x2), some (.int x3)] [.ref 18] (hs σ) (pI P)
set_option maxRecDepth 20000 in
theorem W_X10_at_0 {scr : ScA}   {x1 : Int32} {x2 : Int32} {x3 : Int32}  {σ : Nat → Nat → Int32} {P : Int32 → (Nat → Nat → Int32) → Prop} (H : ((isW x1 24) = 0 → P (-2) σ) ∧ (¬ (isW x1 24) = 0 → ((isW x2 (σ 3 6)) = 0 → P (-2) σ) ∧ (¬ (isW x2 (σ 3 6)) = 0 → (¬ (isW x3 4) = 0 → CrA scr 4 mX10_played [.ref 0] σ (fun a9 σ' => a9 = 18 ∧ K_X10_at_38 scr x1 x2 x3 σ' P)) ∧ ((isW x3 4) = 0 → P (-2) σ)))) : K_X10_at_0 scr x1 x2 x3 σ P := by
  show XA scr 5 mX10_at 172 4705 0 [some (.ref 0), some (.int x1), some (.int x2), some (.int x3)] [] (hs σ) (pI P)
  refine XA.blk (e9 := 3) (ok := true) (ls' := [some (.ref 0), some (.int x1), some (.int x2), some (.int x3)]) (st' := [.int 24, .int x1]) (h' := hs σ) [(.iload_n 1, 1, 1, 0, 0, 0, 0, 0), (.bipush 24, 2, 0, 0, 0, 0, 24, 0)] (by decide +kernel) rfl rfl ?_
  refine XA.callS (as := [.int x1, .int 24]) (rest := []) (mc' := 0) (ms' := 0) (idx := 84) (t := 445) cs_X10_isWithin (by decide +kernel) rfl rfl (Nat.le_of_ble_eq_true rfl) (Nat.le_of_ble_eq_true rfl) (Nat.le_of_ble_eq_true rfl) (Nat.le_of_ble_eq_true rfl) (pu_X10_isWithin scr σ x1 24) (fun rv h' hp => ?_)
  obtain ⟨rfl, rfl⟩ := hp
  refine ⟨rfl, rfl, ?_⟩
  show XA scr 5 mX10_at 172 4705 6 [some (.ref 0), some (.int x1), some (.int x2), some (.int x3)] [.int (isW x1 24)] (hs σ) (pI P)
  refine XA.if_eq (25) 31 (by decide +kernel) (fun c1 => ?_) (fun c1 => ?_)
  · have H := H.1 c1
    refine XA.blk (e9 := 33) (ok := true) (ls' := [some (.ref 0), some (.int x1), some (.int x2), some (.int x3)]) (st' := [.int (-2)]) (h' := hs σ) [(.bipush (-2), 2, 0, 0, 0, 0, (-2), 0)] (by decide +kernel) rfl rfl ?_
    exact XA.ret (some (.int (-2))) rfl (show ckRt mX10_at 33 .ireturn = true by decide +kernel) trivial (Nat.le_of_ble_eq_true rfl) (Nat.le_of_ble_eq_true rfl) ⟨_, _, rfl, rfl, H⟩
  · have H := H.2 c1
    refine XA.blk (e9 := 17) (ok := true) (ls' := [some (.ref 0), some (.int x1), some (.int x2), some (.int x3)]) (st' := [.int (σ 3 6), .int x2]) (h' := hs σ) [(.iload_n 2, 1, 2, 0, 0, 0, 0, 0), (.aload_n 0, 1, 0, 0, 0, 0, 0, 0), (.getfield 19, 3, 10, 1, 4, 399, 0, 0), (.getfield 98, 3, 8, 6, 0, 143, 0, 0)] (by decide +kernel) rfl rfl ?_
    refine XA.callS (as := [.int x2, .int (σ 3 6)]) (rest := []) (mc' := 0) (ms' := 0) (idx := 84) (t := 445) cs_X10_isWithin (by decide +kernel) rfl rfl (Nat.le_of_ble_eq_true rfl) (Nat.le_of_ble_eq_true rfl) (Nat.le_of_ble_eq_true rfl) (Nat.le_of_ble_eq_true rfl) (pu_X10_isWithin scr σ x2 (σ 3 6)) (fun rv h' hp => ?_)
    obtain ⟨rfl, rfl⟩ := hp
    refine ⟨rfl, rfl, ?_⟩
    show XA scr 5 mX10_at 172 4705 20 [some (.ref 0), some (.int x1), some (.int x2), some (.int x3)] [.int (isW x2 (σ 3 6))] (hs σ) (pI P)
    refine XA.if_eq (11) 31 (by decide +kernel) (fun c2 => ?_) (fun c2 => ?_)
    · have H := H.1 c2
      refine XA.blk (e9 := 33) (ok := true) (ls' := [some (.ref 0), some (.int x1), some (.int x2), some (.int x3)]) (st' := [.int (-2)]) (h' := hs σ) [(.bipush (-2), 2, 0, 0, 0, 0, (-2), 0)] (by decide +kernel) rfl rfl ?_
      exact XA.ret (some (.int (-2))) rfl (show ckRt mX10_at 33 .ireturn = true by decide +kernel) trivial (Nat.le_of_ble_eq_true rfl) (Nat.le_of_ble_eq_true rfl) ⟨_, _, rfl, rfl, H⟩
    · have H := H.2 c2
      refine XA.blk (e9 := 25) (ok := true) (ls' := [some (.ref 0), some (.int x1), some (.int x2), some (.int x3)]) (st' := [.int 4, .int x3]) (h' := hs σ) [(.iload_n 3, 1, 3, 0, 0, 0, 0, 0), (.iconst 4, 1, 0, 0, 0, 0, 4, 0)] (by decide +kernel) rfl rfl ?_
      refine XA.callS (as := [.int x3, .int 4]) (rest := []) (mc' := 0) (ms' := 0) (idx := 84) (t := 445) cs_X10_isWithin (by decide +kernel) rfl rfl (Nat.le_of_ble_eq_true rfl) (Nat.le_of_ble_eq_true rfl) (Nat.le_of_ble_eq_true rfl) (Nat.le_of_ble_eq_true rfl) (pu_X10_isWithin scr σ x3 4) (fun rv h' hp => ?_)
      obtain ⟨rfl, rfl⟩ := hp
      refine ⟨rfl, rfl, ?_⟩
      show XA scr 5 mX10_at 172 4705 28 [some (.ref 0), some (.int x1), some (.int x2), some (.int x3)] [.int (isW x3 4)] (hs σ) (pI P)
      refine XA.if_ne (6) 34 (by decide +kernel) (fun c3 => ?_) (fun c3 => ?_)
      · have H := H.1 c3
        refine XA.blk (e9 := 35) (ok := true) (ls' := [some (.ref 0), some (.int x1), some (.int x2), some (.int x3)]) (st' := [.ref 0]) (h' := hs σ) [(.aload_n 0, 1, 0, 0, 0, 0, 0, 0)] (by decide +kernel) rfl rfl ?_
        refine XA.callV (as := []) (rest := []) (mc' := 0) (ms' := 0) (idx := 141) (t := 538) cv_X10_played (by decide +kernel) rfl rfl rfl (Nat.le_of_ble_eq_true rfl) (Nat.le_of_ble_eq_true rfl) (Nat.le_of_ble_eq_true rfl) (Nat.le_of_ble_eq_true rfl) (H) (fun rv h' hp => ?_)
        obtain ⟨a9, s9, rfl, rfl, rfl, hK⟩ := hp
        exact ⟨rfl, rfl, XA.drop (by simp [leL]) hK⟩
      · have H := H.2 c3
        refine XA.blk (e9 := 33) (ok := true) (ls' := [some (.ref 0), some (.int x1), some (.int x2), some (.int x3)]) (st' := [.int (-2)]) (h' := hs σ) [(.bipush (-2), 2, 0, 0, 0, 0, (-2), 0)] (by decide +kernel) rfl rfl ?_
        exact XA.ret (some (.int (-2))) rfl (show ckRt mX10_at 33 .ireturn = true by decide +kernel) trivial (Nat.le_of_ble_eq_true rfl) (Nat.le_of_ble_eq_true rfl) ⟨_, _, rfl, rfl, H⟩
set_option maxRecDepth 20000 in
theorem W_X10_at_38 {scr : ScA}   {x1 : Int32} {x2 : Int32} {x3 : Int32}  {σ : Nat → Nat → Int32} {P : Int32 → (Nat → Nat → Int32) → Prop} (H : (inB x1 24 = true) ∧ (inB ((x2 * 4) + x3) 40 = true) ∧ (P (σ (24 + 1 + 1 * Int32.toNatClampNeg x1) (Int32.toNatClampNeg ((x2 * 4) + x3))) σ)) : K_X10_at_38 scr x1 x2 x3 σ P := by
  show XA scr 5 mX10_at 172 4705 38 [none, some (.int x1), some (.int x2), some (.int x3)] [.ref 18] (hs σ) (pI P)
  obtain ⟨o1, o2, H⟩ := H
  refine XA.blk (e9 := 49) (ok := (inB x1 24 && (true && kR R0 24 (Int32.toNatClampNeg x1) (24 + 1 + 1 * Int32.toNatClampNeg x1))) && (kA 172 S0 (24 + 1 + 1 * Int32.toNatClampNeg x1) 1 ((x2 * 4) + x3) && (true))) (ls' := [none, some (.int x1), some (.int x2), some (.int x3)]) (st' := [.int (σ (24 + 1 + 1 * Int32.toNatClampNeg x1) (Int32.toNatClampNeg ((x2 * 4) + x3)))]) (h' := hs σ) [(.getfield 145, 3, 5, 1, 7, 217, 0, 0), (.iload_n 1, 1, 1, 0, 0, 0, 0, 0), (.aaload, 1, 1, 1, 2, 0, 0, 0), (.iload_n 2, 1, 2, 0, 0, 0, 0, 0), (.iconst 4, 1, 0, 0, 0, 0, 4, 0), (.imul, 1, 0, 0, 0, 0, 0, 0), (.iload_n 3, 1, 3, 0, 0, 0, 0, 0), (.iadd, 1, 0, 0, 0, 0, 0, 0), (.iaload, 1, 0, 0, 0, 0, 0, 0)] (by decide +kernel) rfl (by simp only [dyK o1, dyA (dyH o1) ((x2 * 4) + x3), o1, o2, Bool.and_true, Bool.true_and]) ?_
  exact XA.ret (some (.int (σ (24 + 1 + 1 * Int32.toNatClampNeg x1) (Int32.toNatClampNeg ((x2 * 4) + x3))))) rfl (show ckRt mX10_at 49 .ireturn = true by decide +kernel) trivial (Nat.le_of_ble_eq_true rfl) (Nat.le_of_ble_eq_true rfl) ⟨_, _, rfl, rfl, H⟩
theorem E_X10_at {scr : ScA}  {x1 : Int32} {x2 : Int32} {x3 : Int32} {σ : Nat → Nat → Int32} {P : Int32 → (Nat → Nat → Int32) → Prop} (h : K_X10_at_0 scr x1 x2 x3 σ P) : CiA scr 5 mX10_at [.ref 0, .int x1, .int x2, .int x3] σ P := CtA.of (by decide) (Nat.le_of_ble_eq_true rfl) (XA.drop (by simp [leL, enL]) h)
def K_X10_stands_0 (scr : ScA)  (x1 : Int32) (x2 : Int32) (σ : Nat → Nat → Int32) (P : Int32 → (Nat → Nat → Int32) → Prop) : Prop := XA scr 5 mX10_stands 172 4705 0 [some (.ref 0), some (.int x1), some (.int x2)] [] (hs σ) (pI P)
def K_X10_stands_25 (scr : ScA)  (x1 : Int32) (x2 : Int32) (σ : Nat → Nat → Int32) (P : Int32 → (Nat → Nat → Int32) → Prop) : Prop := XA scr 5 mX10_stands 172 4705 25 [some (.ref 0), some (.int x1), some (.int x2)] [.ref 18] (hs σ) (pI P)
set_option maxRecDepth 20000 in
theorem W_X10_stands_0 {scr : ScA}   {x1 : Int32} {x2 : Int32}  {σ : Nat → Nat → Int32} {P : Int32 → (Nat → Nat → Int32) → Prop} (H : ((isW x1 24) = 0 → P (-2) σ) ∧ (¬ (isW x1 24) = 0 → (¬ (isW x2 10) = 0 → CrA scr 4 mX10_played [.ref 0] σ (fun a9 σ' => a9 = 18 ∧ K_X10_stands_25 scr x1 x2 σ' P)) ∧ ((isW x2 10) = 0 → P (-2) σ))) : K_X10_stands_0 scr x1 x2 σ P := by
  show XA scr 5 mX10_stands 172 4705 0 [some (.ref 0), some (.int x1), some (.int x2)] [] (hs σ) (pI P)
  refine XA.blk (e9 := 3) (ok := true) (ls' := [some (.ref 0), some (.int x1), some (.int x2)]) (st' := [.int 24, .int x1]) (h' := hs σ) [(.iload_n 1, 1, 1, 0, 0, 0, 0, 0), (.bipush 24, 2, 0, 0, 0, 0, 24, 0)] (by decide +kernel) rfl rfl ?_
  refine XA.callS (as := [.int x1, .int 24]) (rest := []) (mc' := 0) (ms' := 0) (idx := 84) (t := 445) cs_X10_isWithin (by decide +kernel) rfl rfl (Nat.le_of_ble_eq_true rfl) (Nat.le_of_ble_eq_true rfl) (Nat.le_of_ble_eq_true rfl) (Nat.le_of_ble_eq_true rfl) (pu_X10_isWithin scr σ x1 24) (fun rv h' hp => ?_)
  obtain ⟨rfl, rfl⟩ := hp
  refine ⟨rfl, rfl, ?_⟩
  show XA scr 5 mX10_stands 172 4705 6 [some (.ref 0), some (.int x1), some (.int x2)] [.int (isW x1 24)] (hs σ) (pI P)
  refine XA.if_eq (12) 18 (by decide +kernel) (fun c1 => ?_) (fun c1 => ?_)
  · have H := H.1 c1
    refine XA.blk (e9 := 20) (ok := true) (ls' := [some (.ref 0), some (.int x1), some (.int x2)]) (st' := [.int (-2)]) (h' := hs σ) [(.bipush (-2), 2, 0, 0, 0, 0, (-2), 0)] (by decide +kernel) rfl rfl ?_
    exact XA.ret (some (.int (-2))) rfl (show ckRt mX10_stands 20 .ireturn = true by decide +kernel) trivial (Nat.le_of_ble_eq_true rfl) (Nat.le_of_ble_eq_true rfl) ⟨_, _, rfl, rfl, H⟩
  · have H := H.2 c1
    refine XA.blk (e9 := 12) (ok := true) (ls' := [some (.ref 0), some (.int x1), some (.int x2)]) (st' := [.int 10, .int x2]) (h' := hs σ) [(.iload_n 2, 1, 2, 0, 0, 0, 0, 0), (.bipush 10, 2, 0, 0, 0, 0, 10, 0)] (by decide +kernel) rfl rfl ?_
    refine XA.callS (as := [.int x2, .int 10]) (rest := []) (mc' := 0) (ms' := 0) (idx := 84) (t := 445) cs_X10_isWithin (by decide +kernel) rfl rfl (Nat.le_of_ble_eq_true rfl) (Nat.le_of_ble_eq_true rfl) (Nat.le_of_ble_eq_true rfl) (Nat.le_of_ble_eq_true rfl) (pu_X10_isWithin scr σ x2 10) (fun rv h' hp => ?_)
    obtain ⟨rfl, rfl⟩ := hp
    refine ⟨rfl, rfl, ?_⟩
    show XA scr 5 mX10_stands 172 4705 15 [some (.ref 0), some (.int x1), some (.int x2)] [.int (isW x2 10)] (hs σ) (pI P)
    refine XA.if_ne (6) 21 (by decide +kernel) (fun c2 => ?_) (fun c2 => ?_)
    · have H := H.1 c2
      refine XA.blk (e9 := 22) (ok := true) (ls' := [some (.ref 0), some (.int x1), some (.int x2)]) (st' := [.ref 0]) (h' := hs σ) [(.aload_n 0, 1, 0, 0, 0, 0, 0, 0)] (by decide +kernel) rfl rfl ?_
      refine XA.callV (as := []) (rest := []) (mc' := 0) (ms' := 0) (idx := 141) (t := 538) cv_X10_played (by decide +kernel) rfl rfl rfl (Nat.le_of_ble_eq_true rfl) (Nat.le_of_ble_eq_true rfl) (Nat.le_of_ble_eq_true rfl) (Nat.le_of_ble_eq_true rfl) (H) (fun rv h' hp => ?_)
      obtain ⟨a9, s9, rfl, rfl, rfl, hK⟩ := hp
      exact ⟨rfl, rfl, hK⟩
    · have H := H.2 c2
      refine XA.blk (e9 := 20) (ok := true) (ls' := [some (.ref 0), some (.int x1), some (.int x2)]) (st' := [.int (-2)]) (h' := hs σ) [(.bipush (-2), 2, 0, 0, 0, 0, (-2), 0)] (by decide +kernel) rfl rfl ?_
      exact XA.ret (some (.int (-2))) rfl (show ckRt mX10_stands 20 .ireturn = true by decide +kernel) trivial (Nat.le_of_ble_eq_true rfl) (Nat.le_of_ble_eq_true rfl) ⟨_, _, rfl, rfl, H⟩
set_option maxRecDepth 20000 in
theorem W_X10_stands_25 {scr : ScA}   {x1 : Int32} {x2 : Int32}  {σ : Nat → Nat → Int32} {P : Int32 → (Nat → Nat → Int32) → Prop} (H : P (whV σ 18 3 x1 x2) σ) : K_X10_stands_25 scr x1 x2 σ P := by
  show XA scr 5 mX10_stands 172 4705 25 [some (.ref 0), some (.int x1), some (.int x2)] [.ref 18] (hs σ) (pI P)
  refine XA.blk (e9 := 31) (ok := true) (ls' := [some (.ref 0), some (.int x1), some (.int x2)]) (st' := [.int x2, .int x1, .ref 3, .ref 18]) (h' := hs σ) [(.aload_n 0, 1, 0, 0, 0, 0, 0, 0), (.getfield 19, 3, 10, 1, 4, 399, 0, 0), (.iload_n 1, 1, 1, 0, 0, 0, 0, 0), (.iload_n 2, 1, 2, 0, 0, 0, 0, 0)] (by decide +kernel) rfl rfl ?_
  refine XA.callV (as := [.ref 3, .int x1, .int x2]) (rest := []) (mc' := 0) (ms' := 0) (idx := 149) (t := 616) cv_X5_whoIsAt (by decide +kernel) rfl rfl rfl (Nat.le_of_ble_eq_true rfl) (Nat.le_of_ble_eq_true rfl) (Nat.le_of_ble_eq_true rfl) (Nat.le_of_ble_eq_true rfl) (pu_X5_whoIsAt scr σ (by unfold isSw; omega) (by unfold isTr; omega) x1 x2 ) (fun rv h' hp => ?_)
  obtain ⟨rfl, rfl⟩ := hp
  refine ⟨rfl, rfl, ?_⟩
  show XA scr 5 mX10_stands 172 4705 34 [some (.ref 0), some (.int x1), some (.int x2)] [.int (whV σ 18 3 x1 x2)] (hs σ) (pI P)
  exact XA.ret (some (.int (whV σ 18 3 x1 x2))) rfl (show ckRt mX10_stands 34 .ireturn = true by decide +kernel) trivial (Nat.le_of_ble_eq_true rfl) (Nat.le_of_ble_eq_true rfl) ⟨_, _, rfl, rfl, H⟩
theorem E_X10_stands {scr : ScA}  {x1 : Int32} {x2 : Int32} {σ : Nat → Nat → Int32} {P : Int32 → (Nat → Nat → Int32) → Prop} (h : K_X10_stands_0 scr x1 x2 σ P) : CiA scr 5 mX10_stands [.ref 0, .int x1, .int x2] σ P := CtA.of (by decide) (Nat.le_of_ble_eq_true rfl) (XA.drop (by simp [leL, enL]) h)
def K_X10_tower_0 (scr : ScA)  (x1 : Int32) (x2 : Int32) (σ : Nat → Nat → Int32) (P : Int32 → (Nat → Nat → Int32) → Prop) : Prop := XA scr 5 mX10_tower 172 4705 0 [some (.ref 0), some (.int x1), some (.int x2), none] [] (hs σ) (pI P)
def K_X10_tower_24 (scr : ScA)  (x1 : Int32) (x2 : Int32) (σ : Nat → Nat → Int32) (P : Int32 → (Nat → Nat → Int32) → Prop) : Prop := XA scr 5 mX10_tower 172 4705 24 [none, some (.int x1), some (.int x2), none] [.ref 18] (hs σ) (pI P)
set_option maxRecDepth 20000 in
theorem W_X10_tower_0 {scr : ScA}   {x1 : Int32} {x2 : Int32}  {σ : Nat → Nat → Int32} {P : Int32 → (Nat → Nat → Int32) → Prop} (H : ((isW x1 24) = 0 → P (-2) σ) ∧ (¬ (isW x1 24) = 0 → (¬ (isW x2 2) = 0 → CrA scr 4 mX10_played [.ref 0] σ (fun a9 σ' => a9 = 18 ∧ K_X10_tower_24 scr x1 x2 σ' P)) ∧ ((isW x2 2) = 0 → P (-2) σ))) : K_X10_tower_0 scr x1 x2 σ P := by
  show XA scr 5 mX10_tower 172 4705 0 [some (.ref 0), some (.int x1), some (.int x2), none] [] (hs σ) (pI P)
  refine XA.blk (e9 := 3) (ok := true) (ls' := [some (.ref 0), some (.int x1), some (.int x2), none]) (st' := [.int 24, .int x1]) (h' := hs σ) [(.iload_n 1, 1, 1, 0, 0, 0, 0, 0), (.bipush 24, 2, 0, 0, 0, 0, 24, 0)] (by decide +kernel) rfl rfl ?_
  refine XA.callS (as := [.int x1, .int 24]) (rest := []) (mc' := 0) (ms' := 0) (idx := 84) (t := 445) cs_X10_isWithin (by decide +kernel) rfl rfl (Nat.le_of_ble_eq_true rfl) (Nat.le_of_ble_eq_true rfl) (Nat.le_of_ble_eq_true rfl) (Nat.le_of_ble_eq_true rfl) (pu_X10_isWithin scr σ x1 24) (fun rv h' hp => ?_)
  obtain ⟨rfl, rfl⟩ := hp
  refine ⟨rfl, rfl, ?_⟩
  show XA scr 5 mX10_tower 172 4705 6 [some (.ref 0), some (.int x1), some (.int x2), none] [.int (isW x1 24)] (hs σ) (pI P)
  refine XA.if_eq (11) 17 (by decide +kernel) (fun c1 => ?_) (fun c1 => ?_)
  · have H := H.1 c1
    refine XA.blk (e9 := 19) (ok := true) (ls' := [some (.ref 0), some (.int x1), some (.int x2), none]) (st' := [.int (-2)]) (h' := hs σ) [(.bipush (-2), 2, 0, 0, 0, 0, (-2), 0)] (by decide +kernel) rfl rfl ?_
    exact XA.ret (some (.int (-2))) rfl (show ckRt mX10_tower 19 .ireturn = true by decide +kernel) trivial (Nat.le_of_ble_eq_true rfl) (Nat.le_of_ble_eq_true rfl) ⟨_, _, rfl, rfl, H⟩
  · have H := H.2 c1
    refine XA.blk (e9 := 11) (ok := true) (ls' := [some (.ref 0), some (.int x1), some (.int x2), none]) (st' := [.int 2, .int x2]) (h' := hs σ) [(.iload_n 2, 1, 2, 0, 0, 0, 0, 0), (.iconst 2, 1, 0, 0, 0, 0, 2, 0)] (by decide +kernel) rfl rfl ?_
    refine XA.callS (as := [.int x2, .int 2]) (rest := []) (mc' := 0) (ms' := 0) (idx := 84) (t := 445) cs_X10_isWithin (by decide +kernel) rfl rfl (Nat.le_of_ble_eq_true rfl) (Nat.le_of_ble_eq_true rfl) (Nat.le_of_ble_eq_true rfl) (Nat.le_of_ble_eq_true rfl) (pu_X10_isWithin scr σ x2 2) (fun rv h' hp => ?_)
    obtain ⟨rfl, rfl⟩ := hp
    refine ⟨rfl, rfl, ?_⟩
    show XA scr 5 mX10_tower 172 4705 14 [some (.ref 0), some (.int x1), some (.int x2), none] [.int (isW x2 2)] (hs σ) (pI P)
    refine XA.if_ne (6) 20 (by decide +kernel) (fun c2 => ?_) (fun c2 => ?_)
    · have H := H.1 c2
      refine XA.blk (e9 := 21) (ok := true) (ls' := [some (.ref 0), some (.int x1), some (.int x2), none]) (st' := [.ref 0]) (h' := hs σ) [(.aload_n 0, 1, 0, 0, 0, 0, 0, 0)] (by decide +kernel) rfl rfl ?_
      refine XA.callV (as := []) (rest := []) (mc' := 0) (ms' := 0) (idx := 141) (t := 538) cv_X10_played (by decide +kernel) rfl rfl rfl (Nat.le_of_ble_eq_true rfl) (Nat.le_of_ble_eq_true rfl) (Nat.le_of_ble_eq_true rfl) (Nat.le_of_ble_eq_true rfl) (H) (fun rv h' hp => ?_)
      obtain ⟨a9, s9, rfl, rfl, rfl, hK⟩ := hp
      exact ⟨rfl, rfl, XA.drop (by simp [leL]) hK⟩
    · have H := H.2 c2
      refine XA.blk (e9 := 19) (ok := true) (ls' := [some (.ref 0), some (.int x1), some (.int x2), none]) (st' := [.int (-2)]) (h' := hs σ) [(.bipush (-2), 2, 0, 0, 0, 0, (-2), 0)] (by decide +kernel) rfl rfl ?_
      exact XA.ret (some (.int (-2))) rfl (show ckRt mX10_tower 19 .ireturn = true by decide +kernel) trivial (Nat.le_of_ble_eq_true rfl) (Nat.le_of_ble_eq_true rfl) ⟨_, _, rfl, rfl, H⟩
set_option maxRecDepth 20000 in
theorem W_X10_tower_24 {scr : ScA}   {x1 : Int32} {x2 : Int32}  {σ : Nat → Nat → Int32} {P : Int32 → (Nat → Nat → Int32) → Prop} (H : (inB x1 24 = true) ∧ (P (if ¬ x2 = 0 then htV (σ 19 (Int32.toNatClampNeg x1)) else bcV (σ 19 (Int32.toNatClampNeg x1)) : Int32) σ)) : K_X10_tower_24 scr x1 x2 σ P := by
  show XA scr 5 mX10_tower 172 4705 24 [none, some (.int x1), some (.int x2), none] [.ref 18] (hs σ) (pI P)
  obtain ⟨o1, H⟩ := H
  refine XA.blk (e9 := 31) (ok := inB x1 24 && (true)) (ls' := [none, some (.int x1), some (.int x2), some (.int (σ 19 (Int32.toNatClampNeg x1)))]) (st' := [.int x2]) (h' := hs σ) [(.getfield 153, 3, 5, 0, 2, 215, 0, 0), (.iload_n 1, 1, 1, 0, 0, 0, 0, 0), (.iaload, 1, 0, 0, 0, 0, 0, 0), (.istore_n 3, 1, 3, 0, 0, 0, 0, 0), (.iload_n 2, 1, 2, 0, 0, 0, 0, 0)] (by decide +kernel) rfl (by simp only [o1, Bool.and_true, Bool.true_and]) ?_
  have hJ31 : XA scr 5 mX10_tower 172 4705 45 [none, none, none, none] [.int (if ¬ x2 = 0 then htV (σ 19 (Int32.toNatClampNeg x1)) else bcV (σ 19 (Int32.toNatClampNeg x1)) : Int32)] (hs σ) (pI P) := by
    exact XA.ret (some (.int (if ¬ x2 = 0 then htV (σ 19 (Int32.toNatClampNeg x1)) else bcV (σ 19 (Int32.toNatClampNeg x1)) : Int32))) rfl (show ckRt mX10_tower 45 .ireturn = true by decide +kernel) trivial (Nat.le_of_ble_eq_true rfl) (Nat.le_of_ble_eq_true rfl) ⟨_, _, rfl, rfl, H⟩
  refine XA.if_ne (10) 41 (by decide +kernel) (fun c1 => ?_) (fun c1 => ?_)
  · refine XA.blk (e9 := 42) (ok := true) (ls' := [none, some (.int x1), some (.int x2), some (.int (σ 19 (Int32.toNatClampNeg x1)))]) (st' := [.int (σ 19 (Int32.toNatClampNeg x1))]) (h' := hs σ) [(.iload_n 3, 1, 3, 0, 0, 0, 0, 0)] (by decide +kernel) rfl rfl ?_
    refine XA.callS (as := [.int (σ 19 (Int32.toNatClampNeg x1))]) (rest := []) (mc' := 0) (ms' := 0) (idx := 161) (t := 625) cs_X10_height (by decide +kernel) rfl rfl (Nat.le_of_ble_eq_true rfl) (Nat.le_of_ble_eq_true rfl) (Nat.le_of_ble_eq_true rfl) (Nat.le_of_ble_eq_true rfl) (pu_X10_height scr σ (σ 19 (Int32.toNatClampNeg x1))) (fun rv h' hp => ?_)
    obtain ⟨rfl, rfl⟩ := hp
    refine ⟨rfl, rfl, ?_⟩
    show XA scr 5 mX10_tower 172 4705 45 [none, some (.int x1), some (.int x2), some (.int (σ 19 (Int32.toNatClampNeg x1)))] [.int (htV (σ 19 (Int32.toNatClampNeg x1)))] (hs σ) (pI P)
    refine XA.drop (ls := [none, none, none, none]) (by simp [leL]) ?_
    simpa only [if_pos c1] using hJ31
  · refine XA.blk (e9 := 35) (ok := true) (ls' := [none, some (.int x1), some (.int x2), some (.int (σ 19 (Int32.toNatClampNeg x1)))]) (st' := [.int (σ 19 (Int32.toNatClampNeg x1))]) (h' := hs σ) [(.iload_n 3, 1, 3, 0, 0, 0, 0, 0)] (by decide +kernel) rfl rfl ?_
    refine XA.callS (as := [.int (σ 19 (Int32.toNatClampNeg x1))]) (rest := []) (mc' := 0) (ms' := 0) (idx := 156) (t := 624) cs_J6_bitCount_0f7a4 (by decide +kernel) rfl rfl (Nat.le_of_ble_eq_true rfl) (Nat.le_of_ble_eq_true rfl) (Nat.le_of_ble_eq_true rfl) (Nat.le_of_ble_eq_true rfl) (pu_J6_bitCount_0f7a4 scr σ (σ 19 (Int32.toNatClampNeg x1))) (fun rv h' hp => ?_)
    obtain ⟨rfl, rfl⟩ := hp
    refine ⟨rfl, rfl, ?_⟩
    show XA scr 5 mX10_tower 172 4705 38 [none, some (.int x1), some (.int x2), some (.int (σ 19 (Int32.toNatClampNeg x1)))] [.int (bcV (σ 19 (Int32.toNatClampNeg x1)))] (hs σ) (pI P)
    refine XA.blk (e9 := 45) (ok := true) (ls' := [none, some (.int x1), some (.int x2), some (.int (σ 19 (Int32.toNatClampNeg x1)))]) (st' := [.int (bcV (σ 19 (Int32.toNatClampNeg x1)))]) (h' := hs σ) [(.goto 7, 3, 45, 0, 0, 0, 0, 0)] (by decide +kernel) rfl rfl ?_
    refine XA.drop (ls := [none, none, none, none]) (by simp [leL]) ?_
    simpa only [if_neg (not_not_intro c1)] using hJ31
theorem E_X10_tower {scr : ScA}  {x1 : Int32} {x2 : Int32} {σ : Nat → Nat → Int32} {P : Int32 → (Nat → Nat → Int32) → Prop} (h : K_X10_tower_0 scr x1 x2 σ P) : CiA scr 5 mX10_tower [.ref 0, .int x1, .int x2] σ P := CtA.of (by decide) (Nat.le_of_ble_eq_true rfl) (XA.drop (by simp [leL, enL]) h)
def K_X10_sum_0 (scr : ScA)  (x1 : Int32) (σ : Nat → Nat → Int32) (P : Int32 → (Nat → Nat → Int32) → Prop) : Prop := XA scr 5 mX10_sum 172 4705 0 [some (.ref 0), some (.int x1)] [] (hs σ) (pI P)
def K_X10_sum_19 (scr : ScA)   (σ : Nat → Nat → Int32) (P : Int32 → (Nat → Nat → Int32) → Prop) : Prop := XA scr 5 mX10_sum 172 4705 19 [none, none] [.ref 18] (hs σ) (pI P)
def K_X10_sum_29 (scr : ScA)   (σ : Nat → Nat → Int32) (P : Int32 → (Nat → Nat → Int32) → Prop) : Prop := XA scr 5 mX10_sum 172 4705 29 [none, none] [.ref 18] (hs σ) (pI P)
set_option maxRecDepth 20000 in
theorem W_X10_sum_0 {scr : ScA}   {x1 : Int32}  {σ : Nat → Nat → Int32} {P : Int32 → (Nat → Nat → Int32) → Prop} (H : (¬ (isW x1 2) = 0 → (¬ x1 = 0 → CrA scr 4 mX10_played [.ref 0] σ (fun a9 σ' => a9 = 18 ∧ K_X10_sum_29 scr σ' P)) ∧ (x1 = 0 → CrA scr 4 mX10_played [.ref 0] σ (fun a9 σ' => a9 = 18 ∧ K_X10_sum_19 scr σ' P))) ∧ ((isW x1 2) = 0 → P (-2) σ)) : K_X10_sum_0 scr x1 σ P := by
  show XA scr 5 mX10_sum 172 4705 0 [some (.ref 0), some (.int x1)] [] (hs σ) (pI P)
  refine XA.blk (e9 := 2) (ok := true) (ls' := [some (.ref 0), some (.int x1)]) (st' := [.int 2, .int x1]) (h' := hs σ) [(.iload_n 1, 1, 1, 0, 0, 0, 0, 0), (.iconst 2, 1, 0, 0, 0, 0, 2, 0)] (by decide +kernel) rfl rfl ?_
  refine XA.callS (as := [.int x1, .int 2]) (rest := []) (mc' := 0) (ms' := 0) (idx := 84) (t := 445) cs_X10_isWithin (by decide +kernel) rfl rfl (Nat.le_of_ble_eq_true rfl) (Nat.le_of_ble_eq_true rfl) (Nat.le_of_ble_eq_true rfl) (Nat.le_of_ble_eq_true rfl) (pu_X10_isWithin scr σ x1 2) (fun rv h' hp => ?_)
  obtain ⟨rfl, rfl⟩ := hp
  refine ⟨rfl, rfl, ?_⟩
  show XA scr 5 mX10_sum 172 4705 5 [some (.ref 0), some (.int x1)] [.int (isW x1 2)] (hs σ) (pI P)
  refine XA.if_ne (6) 11 (by decide +kernel) (fun c1 => ?_) (fun c1 => ?_)
  · have H := H.1 c1
    refine XA.blk (e9 := 12) (ok := true) (ls' := [some (.ref 0), some (.int x1)]) (st' := [.int x1]) (h' := hs σ) [(.iload_n 1, 1, 1, 0, 0, 0, 0, 0)] (by decide +kernel) rfl rfl ?_
    refine XA.if_ne (13) 25 (by decide +kernel) (fun c2 => ?_) (fun c2 => ?_)
    · have H := H.1 c2
      refine XA.blk (e9 := 26) (ok := true) (ls' := [some (.ref 0), some (.int x1)]) (st' := [.ref 0]) (h' := hs σ) [(.aload_n 0, 1, 0, 0, 0, 0, 0, 0)] (by decide +kernel) rfl rfl ?_
      refine XA.callV (as := []) (rest := []) (mc' := 0) (ms' := 0) (idx := 141) (t := 538) cv_X10_played (by decide +kernel) rfl rfl rfl (Nat.le_of_ble_eq_true rfl) (Nat.le_of_ble_eq_true rfl) (Nat.le_of_ble_eq_true rfl) (Nat.le_of_ble_eq_true rfl) (H) (fun rv h' hp => ?_)
      obtain ⟨a9, s9, rfl, rfl, rfl, hK⟩ := hp
      exact ⟨rfl, rfl, XA.drop (by simp [leL]) hK⟩
    · have H := H.2 c2
      refine XA.blk (e9 := 16) (ok := true) (ls' := [some (.ref 0), some (.int x1)]) (st' := [.ref 0]) (h' := hs σ) [(.aload_n 0, 1, 0, 0, 0, 0, 0, 0)] (by decide +kernel) rfl rfl ?_
      refine XA.callV (as := []) (rest := []) (mc' := 0) (ms' := 0) (idx := 141) (t := 538) cv_X10_played (by decide +kernel) rfl rfl rfl (Nat.le_of_ble_eq_true rfl) (Nat.le_of_ble_eq_true rfl) (Nat.le_of_ble_eq_true rfl) (Nat.le_of_ble_eq_true rfl) (H) (fun rv h' hp => ?_)
      obtain ⟨a9, s9, rfl, rfl, rfl, hK⟩ := hp
      exact ⟨rfl, rfl, XA.drop (by simp [leL]) hK⟩
  · have H := H.2 c1
    refine XA.blk (e9 := 10) (ok := true) (ls' := [some (.ref 0), some (.int x1)]) (st' := [.int (-2)]) (h' := hs σ) [(.bipush (-2), 2, 0, 0, 0, 0, (-2), 0)] (by decide +kernel) rfl rfl ?_
    exact XA.ret (some (.int (-2))) rfl (show ckRt mX10_sum 10 .ireturn = true by decide +kernel) trivial (Nat.le_of_ble_eq_true rfl) (Nat.le_of_ble_eq_true rfl) ⟨_, _, rfl, rfl, H⟩
set_option maxRecDepth 20000 in
theorem W_X10_sum_19 {scr : ScA}     {σ : Nat → Nat → Int32} {P : Int32 → (Nat → Nat → Int32) → Prop} (H : P (σ 18 10) σ) : K_X10_sum_19 scr σ P := by
  show XA scr 5 mX10_sum 172 4705 19 [none, none] [.ref 18] (hs σ) (pI P)
  refine XA.blk (e9 := 32) (ok := true) (ls' := [none, none]) (st' := [.int (σ 18 10)]) (h' := hs σ) [(.getfield 164, 3, 5, 10, 0, 229, 0, 0), (.goto 10, 3, 32, 0, 0, 0, 0, 0)] (by decide +kernel) rfl rfl ?_
  exact XA.ret (some (.int (σ 18 10))) rfl (show ckRt mX10_sum 32 .ireturn = true by decide +kernel) trivial (Nat.le_of_ble_eq_true rfl) (Nat.le_of_ble_eq_true rfl) ⟨_, _, rfl, rfl, H⟩
set_option maxRecDepth 20000 in
theorem W_X10_sum_29 {scr : ScA}     {σ : Nat → Nat → Int32} {P : Int32 → (Nat → Nat → Int32) → Prop} (H : P (σ 18 11) σ) : K_X10_sum_29 scr σ P := by
  show XA scr 5 mX10_sum 172 4705 29 [none, none] [.ref 18] (hs σ) (pI P)
  refine XA.blk (e9 := 32) (ok := true) (ls' := [none, none]) (st' := [.int (σ 18 11)]) (h' := hs σ) [(.getfield 167, 3, 5, 11, 0, 231, 0, 0)] (by decide +kernel) rfl rfl ?_
  exact XA.ret (some (.int (σ 18 11))) rfl (show ckRt mX10_sum 32 .ireturn = true by decide +kernel) trivial (Nat.le_of_ble_eq_true rfl) (Nat.le_of_ble_eq_true rfl) ⟨_, _, rfl, rfl, H⟩
theorem E_X10_sum {scr : ScA}  {x1 : Int32} {σ : Nat → Nat → Int32} {P : Int32 → (Nat → Nat → Int32) → Prop} (h : K_X10_sum_0 scr x1 σ P) : CiA scr 5 mX10_sum [.ref 0, .int x1] σ P := CtA.of (by decide) (Nat.le_of_ble_eq_true rfl) (XA.drop (by simp [leL, enL]) h)
def K_X10_top_0 (scr : ScA)  (x1 : Int32) (σ : Nat → Nat → Int32) (P : Int32 → (Nat → Nat → Int32) → Prop) : Prop := XA scr 5 mX10_top 172 4705 0 [some (.ref 0), some (.int x1), none, none, none, none] [] (hs σ) (pI P)
def K_X10_top_15 (scr : ScA)  (x1 : Int32) (σ : Nat → Nat → Int32) (P : Int32 → (Nat → Nat → Int32) → Prop) : Prop := XA scr 5 mX10_top 172 4705 15 [none, some (.int x1), none, none, none, none] [.ref 18] (hs σ) (pI P)
def K_X10_top_27 (scr : ScA)  (x1 : Int32) (x3 : Int32) (x4 : Int32) (x5 : Int32) (σ : Nat → Nat → Int32) (P : Int32 → (Nat → Nat → Int32) → Prop) : Prop := XA scr 5 mX10_top 172 4705 27 [none, some (.int x1), some (.ref 19), some (.int x3), some (.int x4), some (.int x5)] [] (hs σ) (pI P)
set_option maxRecDepth 20000 in
theorem W_X10_top_0 {scr : ScA}   {x1 : Int32}  {σ : Nat → Nat → Int32} {P : Int32 → (Nat → Nat → Int32) → Prop} (H : (¬ (isW x1 2) = 0 → CrA scr 4 mX10_played [.ref 0] σ (fun a9 σ' => a9 = 18 ∧ K_X10_top_15 scr x1 σ' P)) ∧ ((isW x1 2) = 0 → P (-2) σ)) : K_X10_top_0 scr x1 σ P := by
  show XA scr 5 mX10_top 172 4705 0 [some (.ref 0), some (.int x1), none, none, none, none] [] (hs σ) (pI P)
  refine XA.blk (e9 := 2) (ok := true) (ls' := [some (.ref 0), some (.int x1), none, none, none, none]) (st' := [.int 2, .int x1]) (h' := hs σ) [(.iload_n 1, 1, 1, 0, 0, 0, 0, 0), (.iconst 2, 1, 0, 0, 0, 0, 2, 0)] (by decide +kernel) rfl rfl ?_
  refine XA.callS (as := [.int x1, .int 2]) (rest := []) (mc' := 0) (ms' := 0) (idx := 84) (t := 445) cs_X10_isWithin (by decide +kernel) rfl rfl (Nat.le_of_ble_eq_true rfl) (Nat.le_of_ble_eq_true rfl) (Nat.le_of_ble_eq_true rfl) (Nat.le_of_ble_eq_true rfl) (pu_X10_isWithin scr σ x1 2) (fun rv h' hp => ?_)
  obtain ⟨rfl, rfl⟩ := hp
  refine ⟨rfl, rfl, ?_⟩
  show XA scr 5 mX10_top 172 4705 5 [some (.ref 0), some (.int x1), none, none, none, none] [.int (isW x1 2)] (hs σ) (pI P)
  refine XA.if_ne (6) 11 (by decide +kernel) (fun c1 => ?_) (fun c1 => ?_)
  · have H := H.1 c1
    refine XA.blk (e9 := 12) (ok := true) (ls' := [some (.ref 0), some (.int x1), none, none, none, none]) (st' := [.ref 0]) (h' := hs σ) [(.aload_n 0, 1, 0, 0, 0, 0, 0, 0)] (by decide +kernel) rfl rfl ?_
    refine XA.callV (as := []) (rest := []) (mc' := 0) (ms' := 0) (idx := 141) (t := 538) cv_X10_played (by decide +kernel) rfl rfl rfl (Nat.le_of_ble_eq_true rfl) (Nat.le_of_ble_eq_true rfl) (Nat.le_of_ble_eq_true rfl) (Nat.le_of_ble_eq_true rfl) (H) (fun rv h' hp => ?_)
    obtain ⟨a9, s9, rfl, rfl, rfl, hK⟩ := hp
    exact ⟨rfl, rfl, XA.drop (by simp [leL]) hK⟩
  · have H := H.2 c1
    refine XA.blk (e9 := 10) (ok := true) (ls' := [some (.ref 0), some (.int x1), none, none, none, none]) (st' := [.int (-2)]) (h' := hs σ) [(.bipush (-2), 2, 0, 0, 0, 0, (-2), 0)] (by decide +kernel) rfl rfl ?_
    exact XA.ret (some (.int (-2))) rfl (show ckRt mX10_top 10 .ireturn = true by decide +kernel) trivial (Nat.le_of_ble_eq_true rfl) (Nat.le_of_ble_eq_true rfl) ⟨_, _, rfl, rfl, H⟩
set_option maxRecDepth 20000 in
theorem W_X10_top_15 {scr : ScA}   {x1 : Int32}  {σ : Nat → Nat → Int32} {P : Int32 → (Nat → Nat → Int32) → Prop} (H : K_X10_top_27 scr x1 (-1) 0 0 σ P) : K_X10_top_15 scr x1 σ P := by
  show XA scr 5 mX10_top 172 4705 15 [none, some (.int x1), none, none, none, none] [.ref 18] (hs σ) (pI P)
  refine XA.blk (e9 := 27) (ok := true) (ls' := [none, some (.int x1), some (.ref 19), some (.int (-1)), some (.int 0), some (.int 0)]) (st' := []) (h' := hs σ) [(.getfield 153, 3, 5, 0, 2, 215, 0, 0), (.astore_n 2, 1, 2, 0, 0, 0, 0, 0), (.iconst (-1), 1, 0, 0, 0, 0, (-1), 0), (.istore_n 3, 1, 3, 0, 0, 0, 0, 0), (.iconst 0, 1, 0, 0, 0, 0, 0, 0), (.istore 4, 2, 4, 0, 0, 0, 0, 0), (.iconst 0, 1, 0, 0, 0, 0, 0, 0), (.istore 5, 2, 5, 0, 0, 0, 0, 0)] (by decide +kernel) rfl rfl ?_
  exact H
set_option maxRecDepth 20000 in
theorem W_X10_top_27 {scr : ScA}   {x1 : Int32} {x3 : Int32} {x4 : Int32} {x5 : Int32}  {σ : Nat → Nat → Int32} {P : Int32 → (Nat → Nat → Int32) → Prop} (H : (24 ≤ x5 → P (if ¬ x1 = 0 then x4 else x3 : Int32) σ) ∧ (¬ 24 ≤ x5 → (inB x5 24 = true) ∧ (K_X10_top_27 scr x1 (if (hbV (σ 19 (Int32.toNatClampNeg x5)) 9) = 0 then x3 else (if ¬ x3 = (-1) then x3 else x5 : Int32) : Int32) (if (hbV (σ 19 (Int32.toNatClampNeg x5)) 9) = 0 then x4 else x4 + 1 : Int32) (x5 + 1) σ P))) : K_X10_top_27 scr x1 x3 x4 x5 σ P := by
  show XA scr 5 mX10_top 172 4705 27 [none, some (.int x1), some (.ref 19), some (.int x3), some (.int x4), some (.int x5)] [] (hs σ) (pI P)
  refine XA.blk (e9 := 31) (ok := true) (ls' := [none, some (.int x1), some (.ref 19), some (.int x3), some (.int x4), some (.int x5)]) (st' := [.int 24, .int x5]) (h' := hs σ) [(.iload 5, 2, 5, 0, 0, 0, 0, 0), (.bipush 24, 2, 0, 0, 0, 0, 24, 0)] (by decide +kernel) rfl rfl ?_
  refine XA.icmp_ge (36) 67 (by decide +kernel) (fun c1 => ?_) (fun c1 => ?_)
  · have H := H.1 c1
    refine XA.blk (e9 := 68) (ok := true) (ls' := [none, some (.int x1), some (.ref 19), some (.int x3), some (.int x4), some (.int x5)]) (st' := [.int x1]) (h' := hs σ) [(.iload_n 1, 1, 1, 0, 0, 0, 0, 0)] (by decide +kernel) rfl rfl ?_
    have hJ68 : XA scr 5 mX10_top 172 4705 77 [none, none, none, none, none, none] [.int (if ¬ x1 = 0 then x4 else x3 : Int32)] (hs σ) (pI P) := by
      exact XA.ret (some (.int (if ¬ x1 = 0 then x4 else x3 : Int32))) rfl (show ckRt mX10_top 77 .ireturn = true by decide +kernel) trivial (Nat.le_of_ble_eq_true rfl) (Nat.le_of_ble_eq_true rfl) ⟨_, _, rfl, rfl, H⟩
    refine XA.if_ne (7) 75 (by decide +kernel) (fun c2 => ?_) (fun c2 => ?_)
    · refine XA.blk (e9 := 77) (ok := true) (ls' := [none, some (.int x1), some (.ref 19), some (.int x3), some (.int x4), some (.int x5)]) (st' := [.int x4]) (h' := hs σ) [(.iload 4, 2, 4, 0, 0, 0, 0, 0)] (by decide +kernel) rfl rfl ?_
      refine XA.drop (ls := [none, none, none, none, none, none]) (by simp [leL]) ?_
      simpa only [if_pos c2] using hJ68
    · refine XA.blk (e9 := 77) (ok := true) (ls' := [none, some (.int x1), some (.ref 19), some (.int x3), some (.int x4), some (.int x5)]) (st' := [.int x3]) (h' := hs σ) [(.iload_n 3, 1, 3, 0, 0, 0, 0, 0), (.goto 5, 3, 77, 0, 0, 0, 0, 0)] (by decide +kernel) rfl rfl ?_
      refine XA.drop (ls := [none, none, none, none, none, none]) (by simp [leL]) ?_
      simpa only [if_neg (not_not_intro c2)] using hJ68
  · have H := H.2 c1
    obtain ⟨o1, H⟩ := H
    refine XA.blk (e9 := 40) (ok := inB x5 24 && (true)) (ls' := [none, some (.int x1), some (.ref 19), some (.int x3), some (.int x4), some (.int x5)]) (st' := [.int 9, .int (σ 19 (Int32.toNatClampNeg x5))]) (h' := hs σ) [(.aload_n 2, 1, 2, 0, 0, 0, 0, 0), (.iload 5, 2, 5, 0, 0, 0, 0, 0), (.iaload, 1, 0, 0, 0, 0, 0, 0), (.bipush 9, 2, 0, 0, 0, 0, 9, 0)] (by decide +kernel) rfl (by simp only [o1, Bool.and_true, Bool.true_and]) ?_
    refine XA.callS (as := [.int (σ 19 (Int32.toNatClampNeg x5)), .int 9]) (rest := []) (mc' := 0) (ms' := 0) (idx := 170) (t := 638) cs_X10_hasBit (by decide +kernel) rfl rfl (Nat.le_of_ble_eq_true rfl) (Nat.le_of_ble_eq_true rfl) (Nat.le_of_ble_eq_true rfl) (Nat.le_of_ble_eq_true rfl) (pu_X10_hasBit scr σ (σ 19 (Int32.toNatClampNeg x5)) 9) (fun rv h' hp => ?_)
    obtain ⟨rfl, rfl⟩ := hp
    refine ⟨rfl, rfl, ?_⟩
    show XA scr 5 mX10_top 172 4705 43 [none, some (.int x1), some (.ref 19), some (.int x3), some (.int x4), some (.int x5)] [.int (hbV (σ 19 (Int32.toNatClampNeg x5)) 9)] (hs σ) (pI P)
    have hJ43 : XA scr 5 mX10_top 172 4705 61 [none, some (.int x1), some (.ref 19), some (.int (if (hbV (σ 19 (Int32.toNatClampNeg x5)) 9) = 0 then x3 else (if ¬ x3 = (-1) then x3 else x5 : Int32) : Int32)), some (.int (if (hbV (σ 19 (Int32.toNatClampNeg x5)) 9) = 0 then x4 else x4 + 1 : Int32)), some (.int x5)] [] (hs σ) (pI P) := by
      refine XA.blk (e9 := 27) (ok := true) (ls' := [none, some (.int x1), some (.ref 19), some (.int (if (hbV (σ 19 (Int32.toNatClampNeg x5)) 9) = 0 then x3 else (if ¬ x3 = (-1) then x3 else x5 : Int32) : Int32)), some (.int (if (hbV (σ 19 (Int32.toNatClampNeg x5)) 9) = 0 then x4 else x4 + 1 : Int32)), some (.int (x5 + 1))]) (st' := []) (h' := hs σ) [(.iinc 5 1, 3, 5, 0, 0, 0, 1, 0), (.goto (-37), 3, 27, 0, 0, 0, 0, 0)] (by decide +kernel) rfl rfl ?_
      exact H
    refine XA.if_eq (18) 61 (by decide +kernel) (fun c2 => ?_) (fun c2 => ?_)
    · simpa only [if_pos c2] using hJ43
    · refine XA.blk (e9 := 48) (ok := true) (ls' := [none, some (.int x1), some (.ref 19), some (.int x3), some (.int x4), some (.int x5)]) (st' := [.int (-1), .int x3]) (h' := hs σ) [(.iload_n 3, 1, 3, 0, 0, 0, 0, 0), (.iconst (-1), 1, 0, 0, 0, 0, (-1), 0)] (by decide +kernel) rfl rfl ?_
      have hJ48 : XA scr 5 mX10_top 172 4705 57 [none, some (.int x1), some (.ref 19), none, some (.int x4), some (.int x5)] [.int (if ¬ x3 = (-1) then x3 else x5 : Int32)] (hs σ) (pI P) := by
        refine XA.blk (e9 := 61) (ok := true) (ls' := [none, some (.int x1), some (.ref 19), some (.int (if ¬ x3 = (-1) then x3 else x5 : Int32)), some (.int (x4 + 1)), some (.int x5)]) (st' := []) (h' := hs σ) [(.istore_n 3, 1, 3, 0, 0, 0, 0, 0), (.iinc 4 1, 3, 4, 0, 0, 0, 1, 0)] (by decide +kernel) rfl rfl ?_
        simpa only [if_neg c2] using hJ43
      refine XA.icmp_ne (8) 56 (by decide +kernel) (fun c3 => ?_) (fun c3 => ?_)
      · refine XA.blk (e9 := 57) (ok := true) (ls' := [none, some (.int x1), some (.ref 19), some (.int x3), some (.int x4), some (.int x5)]) (st' := [.int x3]) (h' := hs σ) [(.iload_n 3, 1, 3, 0, 0, 0, 0, 0)] (by decide +kernel) rfl rfl ?_
        refine XA.drop (ls := [none, some (.int x1), some (.ref 19), none, some (.int x4), some (.int x5)]) (by simp [leL]) ?_
        simpa only [if_pos c3] using hJ48
      · refine XA.blk (e9 := 57) (ok := true) (ls' := [none, some (.int x1), some (.ref 19), some (.int x3), some (.int x4), some (.int x5)]) (st' := [.int x5]) (h' := hs σ) [(.iload 5, 2, 5, 0, 0, 0, 0, 0), (.goto 4, 3, 57, 0, 0, 0, 0, 0)] (by decide +kernel) rfl rfl ?_
        refine XA.drop (ls := [none, some (.int x1), some (.ref 19), none, some (.int x4), some (.int x5)]) (by simp [leL]) ?_
        simpa only [if_neg (not_not_intro c3)] using hJ48
theorem E_X10_top {scr : ScA}  {x1 : Int32} {σ : Nat → Nat → Int32} {P : Int32 → (Nat → Nat → Int32) → Prop} (h : K_X10_top_0 scr x1 σ P) : CiA scr 5 mX10_top [.ref 0, .int x1] σ P := CtA.of (by decide) (Nat.le_of_ble_eq_true rfl) (XA.drop (by simp [leL, enL]) h)
