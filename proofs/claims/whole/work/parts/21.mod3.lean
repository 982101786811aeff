def K_X11_spareBy_0 (scr : ScA)   (σ : Nat → Nat → Int32) (P : Int32 → (Nat → Nat → Int32) → Prop) : Prop := XA scr 6 mX11_spareBy 172 4705 0 [some (.ref 136), none, none] [] (hs σ) (pI P)
def K_X11_spareBy_4 (scr : ScA)   (σ : Nat → Nat → Int32) (P : Int32 → (Nat → Nat → Int32) → Prop) : Prop := XA scr 6 mX11_spareBy 172 4705 4 [some (.ref 136), none, none] [] (hs σ) (pI P)
def K_X11_spareBy_9 (scr : ScA)  (y0 : Int32) (σ : Nat → Nat → Int32) (P : Int32 → (Nat → Nat → Int32) → Prop) : Prop := XA scr 6 mX11_spareBy 172 4705 9 [some (.ref 136), none, none] [.int y0] (hs σ) (pI P)
def K_X11_spareBy_16 (scr : ScA)  (x1 : Int32) (σ : Nat → Nat → Int32) (P : Int32 → (Nat → Nat → Int32) → Prop) : Prop := XA scr 6 mX11_spareBy 172 4705 16 [some (.ref 136), some (.int x1), none] [] (hs σ) (pI P)
def K_X11_spareBy_38 (scr : ScA)  (x1 : Int32) (y0 : Int32) (σ : Nat → Nat → Int32) (P : Int32 → (Nat → Nat → Int32) → Prop) : Prop := XA scr 6 mX11_spareBy 172 4705 38 [some (.ref 136), some (.int x1), none] [.int y0] (hs σ) (pI P)
def K_X11_spareBy_51 (scr : ScA)  (x1 : Int32) (σ : Nat → Nat → Int32) (P : Int32 → (Nat → Nat → Int32) → Prop) : Prop := XA scr 6 mX11_spareBy 172 4705 51 [some (.ref 136), some (.int x1), none] [] (hs σ) (pI P)
def K_X11_spareBy_63 (scr : ScA)  (x1 : Int32) (x2 : Int32) (σ : Nat → Nat → Int32) (P : Int32 → (Nat → Nat → Int32) → Prop) : Prop := XA scr 6 mX11_spareBy 172 4705 63 [some (.ref 136), some (.int x1), some (.int x2)] [] (hs σ) (pI P)
def K_X11_spareBy_96 (scr : ScA)  (x1 : Int32) (x2 : Int32) (y0 : Int32) (σ : Nat → Nat → Int32) (P : Int32 → (Nat → Nat → Int32) → Prop) : Prop := XA scr 6 mX11_spareBy 172 4705 96 [some (.ref 136), some (.int x1), some (.int x2)] [.int y0] (hs σ) (pI P)
set_option maxRecDepth 20000 in
theorem W_X11_spareBy_0 {scr : ScA}     {σ : Nat → Nat → Int32} {P : Int32 → (Nat → Nat → Int32) → Prop} (H : CvA scr 5 mX11_asTold [.ref 136] σ (fun σ' => K_X11_spareBy_4 scr σ' P)) : K_X11_spareBy_0 scr σ P := by
  show XA scr 6 mX11_spareBy 172 4705 0 [some (.ref 136), none, none] [] (hs σ) (pI P)
  refine XA.blk (e9 := 1) (ok := true) (ls' := [some (.ref 136), none, none]) (st' := [.ref 136]) (h' := hs σ) [(.aload_n 0, 1, 0, 0, 0, 0, 0, 0)] (by decide +kernel) rfl rfl ?_
  refine XA.callV (as := []) (rest := []) (mc' := 0) (ms' := 0) (idx := 241) (t := 1149) cv_X11_asTold (by decide +kernel) rfl rfl rfl (Nat.le_of_ble_eq_true rfl) (Nat.le_of_ble_eq_true rfl) (Nat.le_of_ble_eq_true rfl) (Nat.le_of_ble_eq_true rfl) (H) (fun rv h' hp => ?_)
  obtain ⟨s9, rfl, rfl, hK⟩ := hp
  exact ⟨rfl, rfl, hK⟩
set_option maxRecDepth 20000 in
theorem W_X11_spareBy_4 {scr : ScA}     {σ : Nat → Nat → Int32} {P : Int32 → (Nat → Nat → Int32) → Prop} (H : CiA scr 4 mX11_isSpared [.ref 136, .int 0] σ (fun r9 σ' => K_X11_spareBy_9 scr r9 σ' P)) : K_X11_spareBy_4 scr σ P := by
  show XA scr 6 mX11_spareBy 172 4705 4 [some (.ref 136), none, none] [] (hs σ) (pI P)
  refine XA.blk (e9 := 6) (ok := true) (ls' := [some (.ref 136), none, none]) (st' := [.int 0, .ref 136]) (h' := hs σ) [(.aload_n 0, 1, 0, 0, 0, 0, 0, 0), (.iconst 0, 1, 0, 0, 0, 0, 0, 0)] (by decide +kernel) rfl rfl ?_
  refine XA.callV (as := [.int 0]) (rest := []) (mc' := 0) (ms' := 0) (idx := 298) (t := 1290) cv_X11_isSpared (by decide +kernel) rfl rfl rfl (Nat.le_of_ble_eq_true rfl) (Nat.le_of_ble_eq_true rfl) (Nat.le_of_ble_eq_true rfl) (Nat.le_of_ble_eq_true rfl) (H) (fun rv h' hp => ?_)
  obtain ⟨r9, s9, rfl, rfl, hK⟩ := hp
  exact ⟨rfl, rfl, hK⟩
set_option maxRecDepth 20000 in
theorem W_X11_spareBy_9 {scr : ScA}   {y0 : Int32}  {σ : Nat → Nat → Int32} {P : Int32 → (Nat → Nat → Int32) → Prop} (H : (y0 = 0 → K_X11_spareBy_16 scr 0 σ P) ∧ (¬ y0 = 0 → P 0 σ)) : K_X11_spareBy_9 scr y0 σ P := by
  show XA scr 6 mX11_spareBy 172 4705 9 [some (.ref 136), none, none] [.int y0] (hs σ) (pI P)
  refine XA.if_eq (5) 14 (by decide +kernel) (fun c1 => ?_) (fun c1 => ?_)
  · have H := H.1 c1
    refine XA.blk (e9 := 16) (ok := true) (ls' := [some (.ref 136), some (.int 0), none]) (st' := []) (h' := hs σ) [(.iconst 0, 1, 0, 0, 0, 0, 0, 0), (.istore_n 1, 1, 1, 0, 0, 0, 0, 0)] (by decide +kernel) rfl rfl ?_
    exact H
  · have H := H.2 c1
    refine XA.blk (e9 := 13) (ok := true) (ls' := [some (.ref 136), none, none]) (st' := [.int 0]) (h' := hs σ) [(.iconst 0, 1, 0, 0, 0, 0, 0, 0)] (by decide +kernel) rfl rfl ?_
    exact XA.ret (some (.int 0)) rfl (show ckRt mX11_spareBy 13 .ireturn = true by decide +kernel) trivial (Nat.le_of_ble_eq_true rfl) (Nat.le_of_ble_eq_true rfl) ⟨_, _, rfl, rfl, H⟩
set_option maxRecDepth 20000 in
theorem W_X11_spareBy_16 {scr : ScA}   {x1 : Int32}  {σ : Nat → Nat → Int32} {P : Int32 → (Nat → Nat → Int32) → Prop} (H : ((σ 136 8) ≤ x1 → K_X11_spareBy_51 scr 0 σ P) ∧ (¬ (σ 136 8) ≤ x1 → (inB 0 2 = true) ∧ (∀ σ1, σ1 = (su σ 162 (Int32.toNatClampNeg 0) x1) → CiA scr 4 mX11_isSpared [.ref 136, .int ((1 : Int32) <<< (x1 &&& 31))] σ1 (fun r9 σ' => K_X11_spareBy_38 scr x1 r9 σ' P)))) : K_X11_spareBy_16 scr x1 σ P := by
  show XA scr 6 mX11_spareBy 172 4705 16 [some (.ref 136), some (.int x1), none] [] (hs σ) (pI P)
  refine XA.blk (e9 := 21) (ok := true) (ls' := [some (.ref 136), some (.int x1), none]) (st' := [.int (σ 136 8), .int x1]) (h' := hs σ) [(.iload_n 1, 1, 1, 0, 0, 0, 0, 0), (.aload_n 0, 1, 0, 0, 0, 0, 0, 0), (.getfield 164, 3, 11, 8, 0, 901, 0, 0)] (by decide +kernel) rfl rfl ?_
  refine XA.icmp_ge (28) 49 (by decide +kernel) (fun c1 => ?_) (fun c1 => ?_)
  · have H := H.1 c1
    refine XA.blk (e9 := 51) (ok := true) (ls' := [some (.ref 136), some (.int 0), none]) (st' := []) (h' := hs σ) [(.iconst 0, 1, 0, 0, 0, 0, 0, 0), (.istore_n 1, 1, 1, 0, 0, 0, 0, 0)] (by decide +kernel) rfl rfl ?_
    exact H
  · have H := H.2 c1
    obtain ⟨o1, H⟩ := H
    refine XA.blk (e9 := 31) (ok := inB 0 2 && (true)) (ls' := [some (.ref 136), some (.int x1), none]) (st' := []) (h' := hs (su σ 162 (Int32.toNatClampNeg 0) x1)) [(.aload_n 0, 1, 0, 0, 0, 0, 0, 0), (.getfield 85, 3, 11, 42, 27, 935, 0, 0), (.iconst 0, 1, 0, 0, 0, 0, 0, 0), (.iload_n 1, 1, 1, 0, 0, 0, 0, 0), (.iastore, 1, 0, 0, 0, 0, 0, 0)] (by decide +kernel) rfl (by simp only [o1, Bool.and_true, Bool.true_and]) ?_
    obtain ⟨σ1, hσ1⟩ : ∃ s9, s9 = (su σ 162 (Int32.toNatClampNeg 0) x1) := ⟨_, rfl⟩
    rw [← hσ1]
    have H := H σ1 hσ1
    refine XA.blk (e9 := 35) (ok := true) (ls' := [some (.ref 136), some (.int x1), none]) (st' := [.int ((1 : Int32) <<< (x1 &&& 31)), .ref 136]) (h' := hs σ1) [(.aload_n 0, 1, 0, 0, 0, 0, 0, 0), (.iconst 1, 1, 0, 0, 0, 0, 1, 0), (.iload_n 1, 1, 1, 0, 0, 0, 0, 0), (.ishl, 1, 0, 0, 0, 0, 0, 0)] (by decide +kernel) rfl rfl ?_
    refine XA.callV (as := [.int ((1 : Int32) <<< (x1 &&& 31))]) (rest := []) (mc' := 0) (ms' := 0) (idx := 298) (t := 1290) cv_X11_isSpared (by decide +kernel) rfl rfl rfl (Nat.le_of_ble_eq_true rfl) (Nat.le_of_ble_eq_true rfl) (Nat.le_of_ble_eq_true rfl) (Nat.le_of_ble_eq_true rfl) (H) (fun rv h' hp => ?_)
    obtain ⟨r9, s9, rfl, rfl, hK⟩ := hp
    exact ⟨rfl, rfl, hK⟩
set_option maxRecDepth 20000 in
theorem W_X11_spareBy_38 {scr : ScA}   {x1 : Int32} {y0 : Int32}  {σ : Nat → Nat → Int32} {P : Int32 → (Nat → Nat → Int32) → Prop} (H : (y0 = 0 → K_X11_spareBy_16 scr (x1 + 1) σ P) ∧ (¬ y0 = 0 → P 1 σ)) : K_X11_spareBy_38 scr x1 y0 σ P := by
  show XA scr 6 mX11_spareBy 172 4705 38 [some (.ref 136), some (.int x1), none] [.int y0] (hs σ) (pI P)
  refine XA.if_eq (5) 43 (by decide +kernel) (fun c1 => ?_) (fun c1 => ?_)
  · have H := H.1 c1
    refine XA.blk (e9 := 16) (ok := true) (ls' := [some (.ref 136), some (.int (x1 + 1)), none]) (st' := []) (h' := hs σ) [(.iinc 1 1, 3, 1, 0, 0, 0, 1, 0), (.goto (-30), 3, 16, 0, 0, 0, 0, 0)] (by decide +kernel) rfl rfl ?_
    exact H
  · have H := H.2 c1
    refine XA.blk (e9 := 42) (ok := true) (ls' := [some (.ref 136), some (.int x1), none]) (st' := [.int 1]) (h' := hs σ) [(.iconst 1, 1, 0, 0, 0, 0, 1, 0)] (by decide +kernel) rfl rfl ?_
    exact XA.ret (some (.int 1)) rfl (show ckRt mX11_spareBy 42 .ireturn = true by decide +kernel) trivial (Nat.le_of_ble_eq_true rfl) (Nat.le_of_ble_eq_true rfl) ⟨_, _, rfl, rfl, H⟩
set_option maxRecDepth 20000 in
theorem W_X11_spareBy_51 {scr : ScA}   {x1 : Int32}  {σ : Nat → Nat → Int32} {P : Int32 → (Nat → Nat → Int32) → Prop} (H : ((σ 136 8) ≤ x1 → P (-1) σ) ∧ (¬ (σ 136 8) ≤ x1 → K_X11_spareBy_63 scr x1 (x1 + 1) σ P)) : K_X11_spareBy_51 scr x1 σ P := by
  show XA scr 6 mX11_spareBy 172 4705 51 [some (.ref 136), some (.int x1), none] [] (hs σ) (pI P)
  refine XA.blk (e9 := 56) (ok := true) (ls' := [some (.ref 136), some (.int x1), none]) (st' := [.int (σ 136 8), .int x1]) (h' := hs σ) [(.iload_n 1, 1, 1, 0, 0, 0, 0, 0), (.aload_n 0, 1, 0, 0, 0, 0, 0, 0), (.getfield 164, 3, 11, 8, 0, 901, 0, 0)] (by decide +kernel) rfl rfl ?_
  refine XA.icmp_ge (57) 113 (by decide +kernel) (fun c1 => ?_) (fun c1 => ?_)
  · have H := H.1 c1
    refine XA.blk (e9 := 114) (ok := true) (ls' := [some (.ref 136), some (.int x1), none]) (st' := [.int (-1)]) (h' := hs σ) [(.iconst (-1), 1, 0, 0, 0, 0, (-1), 0)] (by decide +kernel) rfl rfl ?_
    exact XA.ret (some (.int (-1))) rfl (show ckRt mX11_spareBy 114 .ireturn = true by decide +kernel) trivial (Nat.le_of_ble_eq_true rfl) (Nat.le_of_ble_eq_true rfl) ⟨_, _, rfl, rfl, H⟩
  · have H := H.2 c1
    refine XA.blk (e9 := 63) (ok := true) (ls' := [some (.ref 136), some (.int x1), some (.int (x1 + 1))]) (st' := []) (h' := hs σ) [(.iload_n 1, 1, 1, 0, 0, 0, 0, 0), (.iconst 1, 1, 0, 0, 0, 0, 1, 0), (.iadd, 1, 0, 0, 0, 0, 0, 0), (.istore_n 2, 1, 2, 0, 0, 0, 0, 0)] (by decide +kernel) rfl rfl ?_
    exact H
set_option maxRecDepth 20000 in
theorem W_X11_spareBy_63 {scr : ScA}   {x1 : Int32} {x2 : Int32}  {σ : Nat → Nat → Int32} {P : Int32 → (Nat → Nat → Int32) → Prop} (H : ((σ 136 8) ≤ x2 → K_X11_spareBy_51 scr (x1 + 1) σ P) ∧ (¬ (σ 136 8) ≤ x2 → (inB 0 2 = true) ∧ (∀ σ1, σ1 = (su σ 162 (Int32.toNatClampNeg 0) x1) → (inB 1 2 = true) ∧ (∀ σ2, σ2 = (su σ1 162 (Int32.toNatClampNeg 1) x2) → CiA scr 4 mX11_isSpared [.ref 136, .int (((1 : Int32) <<< (x1 &&& 31)) ||| ((1 : Int32) <<< (x2 &&& 31)))] σ2 (fun r9 σ' => K_X11_spareBy_96 scr x1 x2 r9 σ' P))))) : K_X11_spareBy_63 scr x1 x2 σ P := by
  show XA scr 6 mX11_spareBy 172 4705 63 [some (.ref 136), some (.int x1), some (.int x2)] [] (hs σ) (pI P)
  refine XA.blk (e9 := 68) (ok := true) (ls' := [some (.ref 136), some (.int x1), some (.int x2)]) (st' := [.int (σ 136 8), .int x2]) (h' := hs σ) [(.iload_n 2, 1, 2, 0, 0, 0, 0, 0), (.aload_n 0, 1, 0, 0, 0, 0, 0, 0), (.getfield 164, 3, 11, 8, 0, 901, 0, 0)] (by decide +kernel) rfl rfl ?_
  refine XA.icmp_ge (39) 107 (by decide +kernel) (fun c1 => ?_) (fun c1 => ?_)
  · have H := H.1 c1
    refine XA.blk (e9 := 51) (ok := true) (ls' := [some (.ref 136), some (.int (x1 + 1)), some (.int x2)]) (st' := []) (h' := hs σ) [(.iinc 1 1, 3, 1, 0, 0, 0, 1, 0), (.goto (-59), 3, 51, 0, 0, 0, 0, 0)] (by decide +kernel) rfl rfl ?_
    exact XA.drop (by simp [leL]) H
  · have H := H.2 c1
    obtain ⟨o1, H⟩ := H
    refine XA.blk (e9 := 78) (ok := inB 0 2 && (true)) (ls' := [some (.ref 136), some (.int x1), some (.int x2)]) (st' := []) (h' := hs (su σ 162 (Int32.toNatClampNeg 0) x1)) [(.aload_n 0, 1, 0, 0, 0, 0, 0, 0), (.getfield 85, 3, 11, 42, 27, 935, 0, 0), (.iconst 0, 1, 0, 0, 0, 0, 0, 0), (.iload_n 1, 1, 1, 0, 0, 0, 0, 0), (.iastore, 1, 0, 0, 0, 0, 0, 0)] (by decide +kernel) rfl (by simp only [o1, Bool.and_true, Bool.true_and]) ?_
    obtain ⟨σ1, hσ1⟩ : ∃ s9, s9 = (su σ 162 (Int32.toNatClampNeg 0) x1) := ⟨_, rfl⟩
    rw [← hσ1]
    have H := H σ1 hσ1
    obtain ⟨o2, H⟩ := H
    refine XA.blk (e9 := 85) (ok := inB 1 2 && (true)) (ls' := [some (.ref 136), some (.int x1), some (.int x2)]) (st' := []) (h' := hs (su σ1 162 (Int32.toNatClampNeg 1) x2)) [(.aload_n 0, 1, 0, 0, 0, 0, 0, 0), (.getfield 85, 3, 11, 42, 27, 935, 0, 0), (.iconst 1, 1, 0, 0, 0, 0, 1, 0), (.iload_n 2, 1, 2, 0, 0, 0, 0, 0), (.iastore, 1, 0, 0, 0, 0, 0, 0)] (by decide +kernel) rfl (by simp only [o2, Bool.and_true, Bool.true_and]) ?_
    obtain ⟨σ2, hσ2⟩ : ∃ s9, s9 = (su σ1 162 (Int32.toNatClampNeg 1) x2) := ⟨_, rfl⟩
    rw [← hσ2]
    have H := H σ2 hσ2
    refine XA.blk (e9 := 93) (ok := true) (ls' := [some (.ref 136), some (.int x1), some (.int x2)]) (st' := [.int (((1 : Int32) <<< (x1 &&& 31)) ||| ((1 : Int32) <<< (x2 &&& 31))), .ref 136]) (h' := hs σ2) [(.aload_n 0, 1, 0, 0, 0, 0, 0, 0), (.iconst 1, 1, 0, 0, 0, 0, 1, 0), (.iload_n 1, 1, 1, 0, 0, 0, 0, 0), (.ishl, 1, 0, 0, 0, 0, 0, 0), (.iconst 1, 1, 0, 0, 0, 0, 1, 0), (.iload_n 2, 1, 2, 0, 0, 0, 0, 0), (.ishl, 1, 0, 0, 0, 0, 0, 0), (.ior, 1, 0, 0, 0, 0, 0, 0)] (by decide +kernel) rfl rfl ?_
    refine XA.callV (as := [.int (((1 : Int32) <<< (x1 &&& 31)) ||| ((1 : Int32) <<< (x2 &&& 31)))]) (rest := []) (mc' := 0) (ms' := 0) (idx := 298) (t := 1290) cv_X11_isSpared (by decide +kernel) rfl rfl rfl (Nat.le_of_ble_eq_true rfl) (Nat.le_of_ble_eq_true rfl) (Nat.le_of_ble_eq_true rfl) (Nat.le_of_ble_eq_true rfl) (H) (fun rv h' hp => ?_)
    obtain ⟨r9, s9, rfl, rfl, hK⟩ := hp
    exact ⟨rfl, rfl, hK⟩
set_option maxRecDepth 20000 in
theorem W_X11_spareBy_96 {scr : ScA}   {x1 : Int32} {x2 : Int32} {y0 : Int32}  {σ : Nat → Nat → Int32} {P : Int32 → (Nat → Nat → Int32) → Prop} (H : (y0 = 0 → K_X11_spareBy_63 scr x1 (x2 + 1) σ P) ∧ (¬ y0 = 0 → P 2 σ)) : K_X11_spareBy_96 scr x1 x2 y0 σ P := by
  show XA scr 6 mX11_spareBy 172 4705 96 [some (.ref 136), some (.int x1), some (.int x2)] [.int y0] (hs σ) (pI P)
  refine XA.if_eq (5) 101 (by decide +kernel) (fun c1 => ?_) (fun c1 => ?_)
  · have H := H.1 c1
    refine XA.blk (e9 := 63) (ok := true) (ls' := [some (.ref 136), some (.int x1), some (.int (x2 + 1))]) (st' := []) (h' := hs σ) [(.iinc 2 1, 3, 2, 0, 0, 0, 1, 0), (.goto (-41), 3, 63, 0, 0, 0, 0, 0)] (by decide +kernel) rfl rfl ?_
    exact H
  · have H := H.2 c1
    refine XA.blk (e9 := 100) (ok := true) (ls' := [some (.ref 136), some (.int x1), some (.int x2)]) (st' := [.int 2]) (h' := hs σ) [(.iconst 2, 1, 0, 0, 0, 0, 2, 0)] (by decide +kernel) rfl rfl ?_
    exact XA.ret (some (.int 2)) rfl (show ckRt mX11_spareBy 100 .ireturn = true by decide +kernel) trivial (Nat.le_of_ble_eq_true rfl) (Nat.le_of_ble_eq_true rfl) ⟨_, _, rfl, rfl, H⟩
theorem E_X11_spareBy {scr : ScA}   {σ : Nat → Nat → Int32} {P : Int32 → (Nat → Nat → Int32) → Prop} (h : K_X11_spareBy_0 scr σ P) : CiA scr 6 mX11_spareBy [.ref 136] σ P := CtA.of (by decide) (Nat.le_of_ble_eq_true rfl) (XA.drop (by simp [leL, enL]) h)
def K_X11_spare_0 (scr : ScA)  (x1 : Int32) (σ : Nat → Nat → Int32) (P : Int32 → (Nat → Nat → Int32) → Prop) : Prop := XA scr 7 mX11_spare 172 4705 0 [some (.ref 136), some (.int x1)] [] (hs σ) (pI P)
def K_X11_spare_14 (scr : ScA)  (x1 : Int32) (y1 : Int32) (σ : Nat → Nat → Int32) (P : Int32 → (Nat → Nat → Int32) → Prop) : Prop := XA scr 7 mX11_spare 172 4705 14 [none, some (.int x1)] [.int y1, .ref 136] (hs σ) (pI P)
set_option maxRecDepth 20000 in
theorem W_X11_spare_0 {scr : ScA}   {x1 : Int32}  {σ : Nat → Nat → Int32} {P : Int32 → (Nat → Nat → Int32) → Prop} (H : ((inV x1 (-1) 1) = 0 → P (-2) σ) ∧ (¬ (inV x1 (-1) 1) = 0 → CiA scr 6 mX11_spareBy [.ref 136] σ (fun r9 σ' => K_X11_spare_14 scr x1 r9 σ' P))) : K_X11_spare_0 scr x1 σ P := by
  show XA scr 7 mX11_spare 172 4705 0 [some (.ref 136), some (.int x1)] [] (hs σ) (pI P)
  refine XA.blk (e9 := 3) (ok := true) (ls' := [some (.ref 136), some (.int x1)]) (st' := [.int 1, .int (-1), .int x1]) (h' := hs σ) [(.iload_n 1, 1, 1, 0, 0, 0, 0, 0), (.iconst (-1), 1, 0, 0, 0, 0, (-1), 0), (.iconst 1, 1, 0, 0, 0, 0, 1, 0)] (by decide +kernel) rfl rfl ?_
  refine XA.callS (as := [.int x1, .int (-1), .int 1]) (rest := []) (mc' := 0) (ms' := 0) (idx := 118) (t := 1061) cs_X11_in (by decide +kernel) rfl rfl (Nat.le_of_ble_eq_true rfl) (Nat.le_of_ble_eq_true rfl) (Nat.le_of_ble_eq_true rfl) (Nat.le_of_ble_eq_true rfl) (pu_X11_in scr σ x1 (-1) 1) (fun rv h' hp => ?_)
  obtain ⟨rfl, rfl⟩ := hp
  refine ⟨rfl, rfl, ?_⟩
  show XA scr 7 mX11_spare 172 4705 6 [some (.ref 136), some (.int x1)] [.int (inV x1 (-1) 1)] (hs σ) (pI P)
  refine XA.if_eq (15) 21 (by decide +kernel) (fun c1 => ?_) (fun c1 => ?_)
  · have H := H.1 c1
    refine XA.blk (e9 := 23) (ok := true) (ls' := [some (.ref 136), some (.int x1)]) (st' := [.int (-2)]) (h' := hs σ) [(.bipush (-2), 2, 0, 0, 0, 0, (-2), 0)] (by decide +kernel) rfl rfl ?_
    exact XA.ret (some (.int (-2))) rfl (show ckRt mX11_spare 23 .ireturn = true by decide +kernel) trivial (Nat.le_of_ble_eq_true rfl) (Nat.le_of_ble_eq_true rfl) ⟨_, _, rfl, rfl, H⟩
  · have H := H.2 c1
    refine XA.blk (e9 := 11) (ok := true) (ls' := [some (.ref 136), some (.int x1)]) (st' := [.ref 136, .ref 136]) (h' := hs σ) [(.aload_n 0, 1, 0, 0, 0, 0, 0, 0), (.aload_n 0, 1, 0, 0, 0, 0, 0, 0)] (by decide +kernel) rfl rfl ?_
    refine XA.callV (as := []) (rest := [.ref 136]) (mc' := 0) (ms' := 0) (idx := 301) (t := 1286) cv_X11_spareBy (by decide +kernel) rfl rfl rfl (Nat.le_of_ble_eq_true rfl) (Nat.le_of_ble_eq_true rfl) (Nat.le_of_ble_eq_true rfl) (Nat.le_of_ble_eq_true rfl) (H) (fun rv h' hp => ?_)
    obtain ⟨r9, s9, rfl, rfl, hK⟩ := hp
    exact ⟨rfl, rfl, XA.drop (by simp [leL]) hK⟩
set_option maxRecDepth 20000 in
theorem W_X11_spare_14 {scr : ScA}   {x1 : Int32} {y1 : Int32}  {σ : Nat → Nat → Int32} {P : Int32 → (Nat → Nat → Int32) → Prop} (H : (¬ (x1 : Int32) = (-1) → (¬ y1 ≤ x1 → inB x1 2 = true)) ∧ (P (orV σ y1 x1) σ)) : K_X11_spare_14 scr x1 y1 σ P := by
  show XA scr 7 mX11_spare 172 4705 14 [none, some (.int x1)] [.int y1, .ref 136] (hs σ) (pI P)
  refine XA.blk (e9 := 15) (ok := true) (ls' := [none, some (.int x1)]) (st' := [.int x1, .int y1, .ref 136]) (h' := hs σ) [(.iload_n 1, 1, 1, 0, 0, 0, 0, 0)] (by decide +kernel) rfl rfl ?_
  obtain ⟨o1, H⟩ := H
  refine XA.callV (as := [.int y1, .int x1]) (rest := []) (mc' := 0) (ms' := 0) (idx := 304) (t := 1294) cv_X11_ofRow (by decide +kernel) rfl rfl rfl (Nat.le_of_ble_eq_true rfl) (Nat.le_of_ble_eq_true rfl) (Nat.le_of_ble_eq_true rfl) (Nat.le_of_ble_eq_true rfl) (pu_X11_ofRow scr σ y1 x1 o1) (fun rv h' hp => ?_)
  obtain ⟨rfl, rfl⟩ := hp
  refine ⟨rfl, rfl, ?_⟩
  show XA scr 7 mX11_spare 172 4705 18 [none, some (.int x1)] [.int (orV σ y1 x1)] (hs σ) (pI P)
  refine XA.blk (e9 := 23) (ok := true) (ls' := [none, some (.int x1)]) (st' := [.int (orV σ y1 x1)]) (h' := hs σ) [(.goto 5, 3, 23, 0, 0, 0, 0, 0)] (by decide +kernel) rfl rfl ?_
  exact XA.ret (some (.int (orV σ y1 x1))) rfl (show ckRt mX11_spare 23 .ireturn = true by decide +kernel) trivial (Nat.le_of_ble_eq_true rfl) (Nat.le_of_ble_eq_true rfl) ⟨_, _, rfl, rfl, H⟩
theorem E_X11_spare {scr : ScA}  {x1 : Int32} {σ : Nat → Nat → Int32} {P : Int32 → (Nat → Nat → Int32) → Prop} (h : K_X11_spare_0 scr x1 σ P) : CiA scr 7 mX11_spare [.ref 136, .int x1] σ P := CtA.of (by decide) (Nat.le_of_ble_eq_true rfl) (XA.drop (by simp [leL, enL]) h)
def K_X11_seen_0 (scr : ScA)  (x1 : Int32) (x2 : Int32) (x3 : Int32) (σ : Nat → Nat → Int32) (P : Int32 → (Nat → Nat → Int32) → Prop) : Prop := XA scr 2 mX11_seen 172 4705 0 [some (.ref 136), some (.int x1), some (.int x2), some (.int x3)] [] (hs σ) (pI P)
set_option maxRecDepth 20000 in
theorem W_X11_seen_0 {scr : ScA}   {x1 : Int32} {x2 : Int32} {x3 : Int32}  {σ : Nat → Nat → Int32} {P : Int32 → (Nat → Nat → Int32) → Prop} (H : ((inV x1 0 23) = 0 → P (-2) σ) ∧ (¬ (inV x1 0 23) = 0 → ((inV x2 0 9) = 0 → P (-2) σ) ∧ (¬ (inV x2 0 9) = 0 → (¬ (inV x3 0 10) = 0 → (¬ (σ 136 43) = 8 → (inB (σ 136 43) 8 = true) ∧ (∀ σ1, σ1 = (su σ 163 (Int32.toNatClampNeg (σ 136 43)) x1) → (inB (σ1 136 43) 8 = true) ∧ (∀ σ2, σ2 = (su σ1 164 (Int32.toNatClampNeg (σ1 136 43)) x2) → (inB (σ2 136 43) 8 = true) ∧ (∀ σ3, σ3 = (su σ2 165 (Int32.toNatClampNeg (σ2 136 43)) x3) → ∀ σ4, σ4 = (su σ3 136 43 ((σ3 136 43) + 1)) → P (σ4 136 43) σ4)))) ∧ ((σ 136 43) = 8 → P (-4) σ)) ∧ ((inV x3 0 10) = 0 → P (-2) σ)))) : K_X11_seen_0 scr x1 x2 x3 σ P := by
  show XA scr 2 mX11_seen 172 4705 0 [some (.ref 136), some (.int x1), some (.int x2), some (.int x3)] [] (hs σ) (pI P)
  refine XA.blk (e9 := 1) (ok := true) (ls' := [some (.ref 136), some (.int x1), some (.int x2), some (.int x3)]) (st' := [.int x1]) (h' := hs σ) [(.iload_n 1, 1, 1, 0, 0, 0, 0, 0)] (by decide +kernel) rfl rfl ?_
  refine XA.callS (as := [.int x1]) (rest := []) (mc' := 0) (ms' := 0) (idx := 130) (t := 1088) cs_X11_isMoment (by decide +kernel) rfl rfl (Nat.le_of_ble_eq_true rfl) (Nat.le_of_ble_eq_true rfl) (Nat.le_of_ble_eq_true rfl) (Nat.le_of_ble_eq_true rfl) (pu_X11_isMoment scr σ x1) (fun rv h' hp => ?_)
  obtain ⟨rfl, rfl⟩ := hp
  refine ⟨rfl, rfl, ?_⟩
  show XA scr 2 mX11_seen 172 4705 4 [some (.ref 136), some (.int x1), some (.int x2), some (.int x3)] [.int (inV x1 0 23)] (hs σ) (pI P)
  refine XA.if_eq (20) 24 (by decide +kernel) (fun c1 => ?_) (fun c1 => ?_)
  · have H := H.1 c1
    refine XA.blk (e9 := 26) (ok := true) (ls' := [some (.ref 136), some (.int x1), some (.int x2), some (.int x3)]) (st' := [.int (-2)]) (h' := hs σ) [(.bipush (-2), 2, 0, 0, 0, 0, (-2), 0)] (by decide +kernel) rfl rfl ?_
    exact XA.ret (some (.int (-2))) rfl (show ckRt mX11_seen 26 .ireturn = true by decide +kernel) trivial (Nat.le_of_ble_eq_true rfl) (Nat.le_of_ble_eq_true rfl) ⟨_, _, rfl, rfl, H⟩
  · have H := H.2 c1
    refine XA.blk (e9 := 8) (ok := true) (ls' := [some (.ref 136), some (.int x1), some (.int x2), some (.int x3)]) (st' := [.int x2]) (h' := hs σ) [(.iload_n 2, 1, 2, 0, 0, 0, 0, 0)] (by decide +kernel) rfl rfl ?_
    refine XA.callS (as := [.int x2]) (rest := []) (mc' := 0) (ms' := 0) (idx := 134) (t := 1091) cs_X11_isTen (by decide +kernel) rfl rfl (Nat.le_of_ble_eq_true rfl) (Nat.le_of_ble_eq_true rfl) (Nat.le_of_ble_eq_true rfl) (Nat.le_of_ble_eq_true rfl) (pu_X11_isTen scr σ x2) (fun rv h' hp => ?_)
    obtain ⟨rfl, rfl⟩ := hp
    refine ⟨rfl, rfl, ?_⟩
    show XA scr 2 mX11_seen 172 4705 11 [some (.ref 136), some (.int x1), some (.int x2), some (.int x3)] [.int (inV x2 0 9)] (hs σ) (pI P)
    refine XA.if_eq (13) 24 (by decide +kernel) (fun c2 => ?_) (fun c2 => ?_)
    · have H := H.1 c2
      refine XA.blk (e9 := 26) (ok := true) (ls' := [some (.ref 136), some (.int x1), some (.int x2), some (.int x3)]) (st' := [.int (-2)]) (h' := hs σ) [(.bipush (-2), 2, 0, 0, 0, 0, (-2), 0)] (by decide +kernel) rfl rfl ?_
      exact XA.ret (some (.int (-2))) rfl (show ckRt mX11_seen 26 .ireturn = true by decide +kernel) trivial (Nat.le_of_ble_eq_true rfl) (Nat.le_of_ble_eq_true rfl) ⟨_, _, rfl, rfl, H⟩
    · have H := H.2 c2
      refine XA.blk (e9 := 18) (ok := true) (ls' := [some (.ref 136), some (.int x1), some (.int x2), some (.int x3)]) (st' := [.int 10, .int 0, .int x3]) (h' := hs σ) [(.iload_n 3, 1, 3, 0, 0, 0, 0, 0), (.iconst 0, 1, 0, 0, 0, 0, 0, 0), (.bipush 10, 2, 0, 0, 0, 0, 10, 0)] (by decide +kernel) rfl rfl ?_
      refine XA.callS (as := [.int x3, .int 0, .int 10]) (rest := []) (mc' := 0) (ms' := 0) (idx := 118) (t := 1061) cs_X11_in (by decide +kernel) rfl rfl (Nat.le_of_ble_eq_true rfl) (Nat.le_of_ble_eq_true rfl) (Nat.le_of_ble_eq_true rfl) (Nat.le_of_ble_eq_true rfl) (pu_X11_in scr σ x3 0 10) (fun rv h' hp => ?_)
      obtain ⟨rfl, rfl⟩ := hp
      refine ⟨rfl, rfl, ?_⟩
      show XA scr 2 mX11_seen 172 4705 21 [some (.ref 136), some (.int x1), some (.int x2), some (.int x3)] [.int (inV x3 0 10)] (hs σ) (pI P)
      refine XA.if_ne (6) 27 (by decide +kernel) (fun c3 => ?_) (fun c3 => ?_)
      · have H := H.1 c3
        refine XA.blk (e9 := 33) (ok := true) (ls' := [some (.ref 136), some (.int x1), some (.int x2), some (.int x3)]) (st' := [.int 8, .int (σ 136 43)]) (h' := hs σ) [(.aload_n 0, 1, 0, 0, 0, 0, 0, 0), (.getfield 307, 3, 11, 43, 0, 936, 0, 0), (.bipush 8, 2, 0, 0, 0, 0, 8, 0)] (by decide +kernel) rfl rfl ?_
        refine XA.icmp_ne (6) 39 (by decide +kernel) (fun c4 => ?_) (fun c4 => ?_)
        · have H := H.1 c4
          obtain ⟨o1, H⟩ := H
          refine XA.blk (e9 := 49) (ok := inB (σ 136 43) 8 && (true)) (ls' := [some (.ref 136), some (.int x1), some (.int x2), some (.int x3)]) (st' := []) (h' := hs (su σ 163 (Int32.toNatClampNeg (σ 136 43)) x1)) [(.aload_n 0, 1, 0, 0, 0, 0, 0, 0), (.getfield 88, 3, 11, 44, 28, 937, 0, 0), (.aload_n 0, 1, 0, 0, 0, 0, 0, 0), (.getfield 307, 3, 11, 43, 0, 936, 0, 0), (.iload_n 1, 1, 1, 0, 0, 0, 0, 0), (.iastore, 1, 0, 0, 0, 0, 0, 0)] (by decide +kernel) rfl (by simp only [o1, Bool.and_true, Bool.true_and]) ?_
          obtain ⟨σ1, hσ1⟩ : ∃ s9, s9 = (su σ 163 (Int32.toNatClampNeg (σ 136 43)) x1) := ⟨_, rfl⟩
          rw [← hσ1]
          have H := H σ1 hσ1
          obtain ⟨o2, H⟩ := H
          refine XA.blk (e9 := 59) (ok := inB (σ1 136 43) 8 && (true)) (ls' := [some (.ref 136), some (.int x1), some (.int x2), some (.int x3)]) (st' := []) (h' := hs (su σ1 164 (Int32.toNatClampNeg (σ1 136 43)) x2)) [(.aload_n 0, 1, 0, 0, 0, 0, 0, 0), (.getfield 91, 3, 11, 45, 29, 938, 0, 0), (.aload_n 0, 1, 0, 0, 0, 0, 0, 0), (.getfield 307, 3, 11, 43, 0, 936, 0, 0), (.iload_n 2, 1, 2, 0, 0, 0, 0, 0), (.iastore, 1, 0, 0, 0, 0, 0, 0)] (by decide +kernel) rfl (by simp only [o2, Bool.and_true, Bool.true_and]) ?_
          obtain ⟨σ2, hσ2⟩ : ∃ s9, s9 = (su σ1 164 (Int32.toNatClampNeg (σ1 136 43)) x2) := ⟨_, rfl⟩
          rw [← hσ2]
          have H := H σ2 hσ2
          obtain ⟨o3, H⟩ := H
          refine XA.blk (e9 := 69) (ok := inB (σ2 136 43) 8 && (true)) (ls' := [some (.ref 136), some (.int x1), some (.int x2), some (.int x3)]) (st' := []) (h' := hs (su σ2 165 (Int32.toNatClampNeg (σ2 136 43)) x3)) [(.aload_n 0, 1, 0, 0, 0, 0, 0, 0), (.getfield 94, 3, 11, 46, 30, 939, 0, 0), (.aload_n 0, 1, 0, 0, 0, 0, 0, 0), (.getfield 307, 3, 11, 43, 0, 936, 0, 0), (.iload_n 3, 1, 3, 0, 0, 0, 0, 0), (.iastore, 1, 0, 0, 0, 0, 0, 0)] (by decide +kernel) rfl (by simp only [o3, Bool.and_true, Bool.true_and]) ?_
          obtain ⟨σ3, hσ3⟩ : ∃ s9, s9 = (su σ2 165 (Int32.toNatClampNeg (σ2 136 43)) x3) := ⟨_, rfl⟩
          rw [← hσ3]
          have H := H σ3 hσ3
          refine XA.blk (e9 := 79) (ok := true) (ls' := [some (.ref 136), some (.int x1), some (.int x2), some (.int x3)]) (st' := []) (h' := hs (su σ3 136 43 ((σ3 136 43) + 1))) [(.aload_n 0, 1, 0, 0, 0, 0, 0, 0), (.dup, 1, 0, 0, 0, 0, 0, 0), (.getfield 307, 3, 11, 43, 0, 936, 0, 0), (.iconst 1, 1, 0, 0, 0, 0, 1, 0), (.iadd, 1, 0, 0, 0, 0, 0, 0), (.putfield 307, 3, 11, 43, 0, 936, 0, 0)] (by decide +kernel) rfl rfl ?_
          obtain ⟨σ4, hσ4⟩ : ∃ s9, s9 = (su σ3 136 43 ((σ3 136 43) + 1)) := ⟨_, rfl⟩
          rw [← hσ4]
          have H := H σ4 hσ4
          refine XA.blk (e9 := 83) (ok := true) (ls' := [some (.ref 136), some (.int x1), some (.int x2), some (.int x3)]) (st' := [.int (σ4 136 43)]) (h' := hs σ4) [(.aload_n 0, 1, 0, 0, 0, 0, 0, 0), (.getfield 307, 3, 11, 43, 0, 936, 0, 0)] (by decide +kernel) rfl rfl ?_
          exact XA.ret (some (.int (σ4 136 43))) rfl (show ckRt mX11_seen 83 .ireturn = true by decide +kernel) trivial (Nat.le_of_ble_eq_true rfl) (Nat.le_of_ble_eq_true rfl) ⟨_, _, rfl, rfl, H⟩
        · have H := H.2 c4
          refine XA.blk (e9 := 38) (ok := true) (ls' := [some (.ref 136), some (.int x1), some (.int x2), some (.int x3)]) (st' := [.int (-4)]) (h' := hs σ) [(.bipush (-4), 2, 0, 0, 0, 0, (-4), 0)] (by decide +kernel) rfl rfl ?_
          exact XA.ret (some (.int (-4))) rfl (show ckRt mX11_seen 38 .ireturn = true by decide +kernel) trivial (Nat.le_of_ble_eq_true rfl) (Nat.le_of_ble_eq_true rfl) ⟨_, _, rfl, rfl, H⟩
      · have H := H.2 c3
        refine XA.blk (e9 := 26) (ok := true) (ls' := [some (.ref 136), some (.int x1), some (.int x2), some (.int x3)]) (st' := [.int (-2)]) (h' := hs σ) [(.bipush (-2), 2, 0, 0, 0, 0, (-2), 0)] (by decide +kernel) rfl rfl ?_
        exact XA.ret (some (.int (-2))) rfl (show ckRt mX11_seen 26 .ireturn = true by decide +kernel) trivial (Nat.le_of_ble_eq_true rfl) (Nat.le_of_ble_eq_true rfl) ⟨_, _, rfl, rfl, H⟩
theorem E_X11_seen {scr : ScA}  {x1 : Int32} {x2 : Int32} {x3 : Int32} {σ : Nat → Nat → Int32} {P : Int32 → (Nat → Nat → Int32) → Prop} (h : K_X11_seen_0 scr x1 x2 x3 σ P) : CiA scr 2 mX11_seen [.ref 136, .int x1, .int x2, .int x3] σ P := CtA.of (by decide) (Nat.le_of_ble_eq_true rfl) (XA.drop (by simp [leL, enL]) h)
def K_X11_isSeen_0 (scr : ScA)   (σ : Nat → Nat → Int32) (P : Int32 → (Nat → Nat → Int32) → Prop) : Prop := XA scr 4 mX11_isSeen 172 4705 0 [some (.ref 136), none, none, none] [] (hs σ) (pI P)
def K_X11_isSeen_4 (scr : ScA)   (σ : Nat → Nat → Int32) (P : Int32 → (Nat → Nat → Int32) → Prop) : Prop := XA scr 4 mX11_isSeen 172 4705 4 [some (.ref 136), none, none, none] [] (hs σ) (pI P)
def K_X11_isSeen_8 (scr : ScA)  (x1 : Int32) (x2 : Int32) (σ : Nat → Nat → Int32) (P : Int32 → (Nat → Nat → Int32) → Prop) : Prop := XA scr 4 mX11_isSeen 172 4705 8 [some (.ref 136), some (.int x1), some (.int x2), none] [] (hs σ) (pI P)
set_option maxRecDepth 20000 in
theorem W_X11_isSeen_0 {scr : ScA}     {σ : Nat → Nat → Int32} {P : Int32 → (Nat → Nat → Int32) → Prop} (H : CvA scr 3 mX11_runs [.ref 136] σ (fun σ' => K_X11_isSeen_4 scr σ' P)) : K_X11_isSeen_0 scr σ P := by
  show XA scr 4 mX11_isSeen 172 4705 0 [some (.ref 136), none, none, none] [] (hs σ) (pI P)
  refine XA.blk (e9 := 1) (ok := true) (ls' := [some (.ref 136), none, none, none]) (st' := [.ref 136]) (h' := hs σ) [(.aload_n 0, 1, 0, 0, 0, 0, 0, 0)] (by decide +kernel) rfl rfl ?_
  refine XA.callV (as := []) (rest := []) (mc' := 0) (ms' := 0) (idx := 244) (t := 1153) cv_X11_runs (by decide +kernel) rfl rfl rfl (Nat.le_of_ble_eq_true rfl) (Nat.le_of_ble_eq_true rfl) (Nat.le_of_ble_eq_true rfl) (Nat.le_of_ble_eq_true rfl) (H) (fun rv h' hp => ?_)
  obtain ⟨s9, rfl, rfl, hK⟩ := hp
  exact ⟨rfl, rfl, hK⟩
set_option maxRecDepth 20000 in
theorem W_X11_isSeen_4 {scr : ScA}     {σ : Nat → Nat → Int32} {P : Int32 → (Nat → Nat → Int32) → Prop} (H : K_X11_isSeen_8 scr 1 0 σ P) : K_X11_isSeen_4 scr σ P := by
  show XA scr 4 mX11_isSeen 172 4705 4 [some (.ref 136), none, none, none] [] (hs σ) (pI P)
  refine XA.blk (e9 := 8) (ok := true) (ls' := [some (.ref 136), some (.int 1), some (.int 0), none]) (st' := []) (h' := hs σ) [(.iconst 1, 1, 0, 0, 0, 0, 1, 0), (.istore_n 1, 1, 1, 0, 0, 0, 0, 0), (.iconst 0, 1, 0, 0, 0, 0, 0, 0), (.istore_n 2, 1, 2, 0, 0, 0, 0, 0)] (by decide +kernel) rfl rfl ?_
  exact H
set_option maxRecDepth 20000 in
theorem W_X11_isSeen_8 {scr : ScA}   {x1 : Int32} {x2 : Int32}  {σ : Nat → Nat → Int32} {P : Int32 → (Nat → Nat → Int32) → Prop} (H : ((σ 136 43) ≤ x2 → ((x1 : Int32) = 0 ∨ (x1 : Int32) = 1) ∧ P x1 σ) ∧ (¬ (σ 136 43) ≤ x2 → (x1 = 0 → ((x1 : Int32) = 0 ∨ (x1 : Int32) = 1) ∧ P x1 σ) ∧ (¬ x1 = 0 → (inB x2 8 = true) ∧ (inB ((10 * (σ 163 (Int32.toNatClampNeg x2))) + (σ 164 (Int32.toNatClampNeg x2))) 240 = true) ∧ (K_X11_isSeen_8 scr (if ¬ (σ 165 (Int32.toNatClampNeg x2)) = (if ¬ (σ 157 (Int32.toNatClampNeg ((10 * (σ 163 (Int32.toNatClampNeg x2))) + (σ 164 (Int32.toNatClampNeg x2))))) = (-1) then σ 157 (Int32.toNatClampNeg ((10 * (σ 163 (Int32.toNatClampNeg x2))) + (σ 164 (Int32.toNatClampNeg x2)))) else 10 : Int32) then 0 else 1 : Int32) (x2 + 1) σ P)))) : K_X11_isSeen_8 scr x1 x2 σ P := by
  show XA scr 4 mX11_isSeen 172 4705 8 [some (.ref 136), some (.int x1), some (.int x2), none] [] (hs σ) (pI P)
  refine XA.blk (e9 := 13) (ok := true) (ls' := [some (.ref 136), some (.int x1), some (.int x2), none]) (st' := [.int (σ 136 43), .int x2]) (h' := hs σ) [(.iload_n 2, 1, 2, 0, 0, 0, 0, 0), (.aload_n 0, 1, 0, 0, 0, 0, 0, 0), (.getfield 307, 3, 11, 43, 0, 936, 0, 0)] (by decide +kernel) rfl rfl ?_
  refine XA.icmp_ge (61) 74 (by decide +kernel) (fun c1 => ?_) (fun c1 => ?_)
  · have H := H.1 c1
    refine XA.blk (e9 := 75) (ok := true) (ls' := [some (.ref 136), some (.int x1), some (.int x2), none]) (st' := [.int x1]) (h' := hs σ) [(.iload_n 1, 1, 1, 0, 0, 0, 0, 0)] (by decide +kernel) rfl rfl ?_
    exact XA.ret (some (.int x1)) rfl (show ckRt mX11_isSeen 75 .ireturn = true by decide +kernel) H.1 (Nat.le_of_ble_eq_true rfl) (Nat.le_of_ble_eq_true rfl) ⟨_, _, rfl, rfl, H.2⟩
  · have H := H.2 c1
    refine XA.blk (e9 := 17) (ok := true) (ls' := [some (.ref 136), some (.int x1), some (.int x2), none]) (st' := [.int x1]) (h' := hs σ) [(.iload_n 1, 1, 1, 0, 0, 0, 0, 0)] (by decide +kernel) rfl rfl ?_
    refine XA.if_eq (57) 74 (by decide +kernel) (fun c2 => ?_) (fun c2 => ?_)
    · have H := H.1 c2
      refine XA.blk (e9 := 75) (ok := true) (ls' := [some (.ref 136), some (.int x1), some (.int x2), none]) (st' := [.int x1]) (h' := hs σ) [(.iload_n 1, 1, 1, 0, 0, 0, 0, 0)] (by decide +kernel) rfl rfl ?_
      exact XA.ret (some (.int x1)) rfl (show ckRt mX11_isSeen 75 .ireturn = true by decide +kernel) H.1 (Nat.le_of_ble_eq_true rfl) (Nat.le_of_ble_eq_true rfl) ⟨_, _, rfl, rfl, H.2⟩
    · have H := H.2 c2
      obtain ⟨o1, o2, H⟩ := H
      refine XA.blk (e9 := 50) (ok := inB x2 8 && (inB x2 8 && (inB ((10 * (σ 163 (Int32.toNatClampNeg x2))) + (σ 164 (Int32.toNatClampNeg x2))) 240 && (inB x2 8 && (true))))) (ls' := [some (.ref 136), some (.int x1), some (.int x2), some (.int (σ 157 (Int32.toNatClampNeg ((10 * (σ 163 (Int32.toNatClampNeg x2))) + (σ 164 (Int32.toNatClampNeg x2))))))]) (st' := [.int (-1), .int (σ 157 (Int32.toNatClampNeg ((10 * (σ 163 (Int32.toNatClampNeg x2))) + (σ 164 (Int32.toNatClampNeg x2))))), .int (σ 165 (Int32.toNatClampNeg x2))]) (h' := hs σ) [(.aload_n 0, 1, 0, 0, 0, 0, 0, 0), (.getfield 70, 3, 11, 35, 22, 928, 0, 0), (.bipush 10, 2, 0, 0, 0, 0, 10, 0), (.aload_n 0, 1, 0, 0, 0, 0, 0, 0), (.getfield 88, 3, 11, 44, 28, 937, 0, 0), (.iload_n 2, 1, 2, 0, 0, 0, 0, 0), (.iaload, 1, 0, 0, 0, 0, 0, 0), (.imul, 1, 0, 0, 0, 0, 0, 0), (.aload_n 0, 1, 0, 0, 0, 0, 0, 0), (.getfield 91, 3, 11, 45, 29, 938, 0, 0), (.iload_n 2, 1, 2, 0, 0, 0, 0, 0), (.iaload, 1, 0, 0, 0, 0, 0, 0), (.iadd, 1, 0, 0, 0, 0, 0, 0), (.iaload, 1, 0, 0, 0, 0, 0, 0), (.istore_n 3, 1, 3, 0, 0, 0, 0, 0), (.aload_n 0, 1, 0, 0, 0, 0, 0, 0), (.getfield 94, 3, 11, 46, 30, 939, 0, 0), (.iload_n 2, 1, 2, 0, 0, 0, 0, 0), (.iaload, 1, 0, 0, 0, 0, 0, 0), (.iload_n 3, 1, 3, 0, 0, 0, 0, 0), (.iconst (-1), 1, 0, 0, 0, 0, (-1), 0)] (by decide +kernel) rfl (by simp only [o1, o2, Bool.and_true, Bool.true_and]) ?_
      have hJ50 : XA scr 4 mX11_isSeen 172 4705 59 [some (.ref 136), none, some (.int x2), none] [.int (if ¬ (σ 157 (Int32.toNatClampNeg ((10 * (σ 163 (Int32.toNatClampNeg x2))) + (σ 164 (Int32.toNatClampNeg x2))))) = (-1) then σ 157 (Int32.toNatClampNeg ((10 * (σ 163 (Int32.toNatClampNeg x2))) + (σ 164 (Int32.toNatClampNeg x2)))) else 10 : Int32), .int (σ 165 (Int32.toNatClampNeg x2))] (hs σ) (pI P) := by
        have hJ59 : XA scr 4 mX11_isSeen 172 4705 67 [some (.ref 136), none, some (.int x2), none] [.int (if ¬ (σ 165 (Int32.toNatClampNeg x2)) = (if ¬ (σ 157 (Int32.toNatClampNeg ((10 * (σ 163 (Int32.toNatClampNeg x2))) + (σ 164 (Int32.toNatClampNeg x2))))) = (-1) then σ 157 (Int32.toNatClampNeg ((10 * (σ 163 (Int32.toNatClampNeg x2))) + (σ 164 (Int32.toNatClampNeg x2)))) else 10 : Int32) then 0 else 1 : Int32)] (hs σ) (pI P) := by
          refine XA.blk (e9 := 8) (ok := true) (ls' := [some (.ref 136), some (.int (if ¬ (σ 165 (Int32.toNatClampNeg x2)) = (if ¬ (σ 157 (Int32.toNatClampNeg ((10 * (σ 163 (Int32.toNatClampNeg x2))) + (σ 164 (Int32.toNatClampNeg x2))))) = (-1) then σ 157 (Int32.toNatClampNeg ((10 * (σ 163 (Int32.toNatClampNeg x2))) + (σ 164 (Int32.toNatClampNeg x2)))) else 10 : Int32) then 0 else 1 : Int32)), some (.int (x2 + 1)), none]) (st' := []) (h' := hs σ) [(.istore_n 1, 1, 1, 0, 0, 0, 0, 0), (.iinc 2 1, 3, 2, 0, 0, 0, 1, 0), (.goto (-63), 3, 8, 0, 0, 0, 0, 0)] (by decide +kernel) rfl rfl ?_
          exact H
        refine XA.icmp_ne (7) 66 (by decide +kernel) (fun c3 => ?_) (fun c3 => ?_)
        · refine XA.blk (e9 := 67) (ok := true) (ls' := [some (.ref 136), none, some (.int x2), none]) (st' := [.int 0]) (h' := hs σ) [(.iconst 0, 1, 0, 0, 0, 0, 0, 0)] (by decide +kernel) rfl rfl ?_
          simpa only [if_pos c3] using hJ59
        · refine XA.blk (e9 := 67) (ok := true) (ls' := [some (.ref 136), none, some (.int x2), none]) (st' := [.int 1]) (h' := hs σ) [(.iconst 1, 1, 0, 0, 0, 0, 1, 0), (.goto 4, 3, 67, 0, 0, 0, 0, 0)] (by decide +kernel) rfl rfl ?_
          simpa only [if_neg (not_not_intro c3)] using hJ59
      refine XA.icmp_ne (8) 58 (by decide +kernel) (fun c3 => ?_) (fun c3 => ?_)
      · refine XA.blk (e9 := 59) (ok := true) (ls' := [some (.ref 136), some (.int x1), some (.int x2), some (.int (σ 157 (Int32.toNatClampNeg ((10 * (σ 163 (Int32.toNatClampNeg x2))) + (σ 164 (Int32.toNatClampNeg x2))))))]) (st' := [.int (σ 157 (Int32.toNatClampNeg ((10 * (σ 163 (Int32.toNatClampNeg x2))) + (σ 164 (Int32.toNatClampNeg x2))))), .int (σ 165 (Int32.toNatClampNeg x2))]) (h' := hs σ) [(.iload_n 3, 1, 3, 0, 0, 0, 0, 0)] (by decide +kernel) rfl rfl ?_
        refine XA.drop (ls := [some (.ref 136), none, some (.int x2), none]) (by simp [leL]) ?_
        simpa only [if_pos c3] using hJ50
      · refine XA.blk (e9 := 59) (ok := true) (ls' := [some (.ref 136), some (.int x1), some (.int x2), some (.int (σ 157 (Int32.toNatClampNeg ((10 * (σ 163 (Int32.toNatClampNeg x2))) + (σ 164 (Int32.toNatClampNeg x2))))))]) (st' := [.int 10, .int (σ 165 (Int32.toNatClampNeg x2))]) (h' := hs σ) [(.bipush 10, 2, 0, 0, 0, 0, 10, 0), (.goto 4, 3, 59, 0, 0, 0, 0, 0)] (by decide +kernel) rfl rfl ?_
        refine XA.drop (ls := [some (.ref 136), none, some (.int x2), none]) (by simp [leL]) ?_
        simpa only [if_neg (not_not_intro c3)] using hJ50
theorem E_X11_isSeen {scr : ScA}   {σ : Nat → Nat → Int32} {P : Int32 → (Nat → Nat → Int32) → Prop} (h : K_X11_isSeen_0 scr σ P) : CiA scr 4 mX11_isSeen [.ref 136] σ P := CtA.of (by decide) (Nat.le_of_ble_eq_true rfl) (XA.drop (by simp [leL, enL]) h)
def K_X11_neverNow_0 (scr : ScA)   (σ : Nat → Nat → Int32) (P : Int32 → (Nat → Nat → Int32) → Prop) : Prop := XA scr 6 mX11_neverNow 172 4705 0 [some (.ref 136), none, none] [] (hs σ) (pI P)
def K_X11_neverNow_4 (scr : ScA)   (σ : Nat → Nat → Int32) (P : Int32 → (Nat → Nat → Int32) → Prop) : Prop := XA scr 6 mX11_neverNow 172 4705 4 [some (.ref 136), none, none] [] (hs σ) (pI P)
def K_X11_neverNow_8 (scr : ScA)  (x1 : Int32) (x2 : Int32) (σ : Nat → Nat → Int32) (P : Int32 → (Nat → Nat → Int32) → Prop) : Prop := XA scr 6 mX11_neverNow 172 4705 8 [some (.ref 136), some (.int x1), some (.int x2)] [] (hs σ) (pI P)
def K_X11_neverNow_28 (scr : ScA)  (x2 : Int32) (y0 : Int32) (y1 : Int32) (σ : Nat → Nat → Int32) (P : Int32 → (Nat → Nat → Int32) → Prop) : Prop := XA scr 6 mX11_neverNow 172 4705 28 [some (.ref 136), none, some (.int x2)] [.int y1, .int y0] (hs σ) (pI P)
set_option maxRecDepth 20000 in
theorem W_X11_neverNow_0 {scr : ScA}     {σ : Nat → Nat → Int32} {P : Int32 → (Nat → Nat → Int32) → Prop} (H : CvA scr 5 mX11_asTold [.ref 136] σ (fun σ' => K_X11_neverNow_4 scr σ' P)) : K_X11_neverNow_0 scr σ P := by
  show XA scr 6 mX11_neverNow 172 4705 0 [some (.ref 136), none, none] [] (hs σ) (pI P)
  refine XA.blk (e9 := 1) (ok := true) (ls' := [some (.ref 136), none, none]) (st' := [.ref 136]) (h' := hs σ) [(.aload_n 0, 1, 0, 0, 0, 0, 0, 0)] (by decide +kernel) rfl rfl ?_
  refine XA.callV (as := []) (rest := []) (mc' := 0) (ms' := 0) (idx := 241) (t := 1149) cv_X11_asTold (by decide +kernel) rfl rfl rfl (Nat.le_of_ble_eq_true rfl) (Nat.le_of_ble_eq_true rfl) (Nat.le_of_ble_eq_true rfl) (Nat.le_of_ble_eq_true rfl) (H) (fun rv h' hp => ?_)
  obtain ⟨s9, rfl, rfl, hK⟩ := hp
  exact ⟨rfl, rfl, hK⟩
set_option maxRecDepth 20000 in
theorem W_X11_neverNow_4 {scr : ScA}     {σ : Nat → Nat → Int32} {P : Int32 → (Nat → Nat → Int32) → Prop} (H : K_X11_neverNow_8 scr 0 0 σ P) : K_X11_neverNow_4 scr σ P := by
  show XA scr 6 mX11_neverNow 172 4705 4 [some (.ref 136), none, none] [] (hs σ) (pI P)
  refine XA.blk (e9 := 8) (ok := true) (ls' := [some (.ref 136), some (.int 0), some (.int 0)]) (st' := []) (h' := hs σ) [(.iconst 0, 1, 0, 0, 0, 0, 0, 0), (.istore_n 1, 1, 1, 0, 0, 0, 0, 0), (.iconst 0, 1, 0, 0, 0, 0, 0, 0), (.istore_n 2, 1, 2, 0, 0, 0, 0, 0)] (by decide +kernel) rfl rfl ?_
  exact H
set_option maxRecDepth 20000 in
theorem W_X11_neverNow_8 {scr : ScA}   {x1 : Int32} {x2 : Int32}  {σ : Nat → Nat → Int32} {P : Int32 → (Nat → Nat → Int32) → Prop} (H : ((σ 136 8) ≤ x2 → P x1 σ) ∧ (¬ (σ 136 8) ≤ x2 → ∀ σ1, σ1 = (su σ 136 16 ((1 : Int32) <<< (x2 &&& 31))) → CiA scr 4 mX11_isSeen [.ref 136] σ1 (fun r9 σ' => K_X11_neverNow_28 scr x2 x1 r9 σ' P))) : K_X11_neverNow_8 scr x1 x2 σ P := by
  show XA scr 6 mX11_neverNow 172 4705 8 [some (.ref 136), some (.int x1), some (.int x2)] [] (hs σ) (pI P)
  refine XA.blk (e9 := 13) (ok := true) (ls' := [some (.ref 136), some (.int x1), some (.int x2)]) (st' := [.int (σ 136 8), .int x2]) (h' := hs σ) [(.iload_n 2, 1, 2, 0, 0, 0, 0, 0), (.aload_n 0, 1, 0, 0, 0, 0, 0, 0), (.getfield 164, 3, 11, 8, 0, 901, 0, 0)] (by decide +kernel) rfl rfl ?_
  refine XA.icmp_ge (33) 46 (by decide +kernel) (fun c1 => ?_) (fun c1 => ?_)
  · have H := H.1 c1
    refine XA.blk (e9 := 47) (ok := true) (ls' := [some (.ref 136), some (.int x1), some (.int x2)]) (st' := [.int x1]) (h' := hs σ) [(.iload_n 1, 1, 1, 0, 0, 0, 0, 0)] (by decide +kernel) rfl rfl ?_
    exact XA.ret (some (.int x1)) rfl (show ckRt mX11_neverNow 47 .ireturn = true by decide +kernel) trivial (Nat.le_of_ble_eq_true rfl) (Nat.le_of_ble_eq_true rfl) ⟨_, _, rfl, rfl, H⟩
  · have H := H.2 c1
    refine XA.blk (e9 := 23) (ok := true) (ls' := [some (.ref 136), some (.int x1), some (.int x2)]) (st' := []) (h' := hs (su σ 136 16 ((1 : Int32) <<< (x2 &&& 31)))) [(.aload_n 0, 1, 0, 0, 0, 0, 0, 0), (.iconst 1, 1, 0, 0, 0, 0, 1, 0), (.iload_n 2, 1, 2, 0, 0, 0, 0, 0), (.ishl, 1, 0, 0, 0, 0, 0, 0), (.putfield 180, 3, 11, 16, 0, 909, 0, 0)] (by decide +kernel) rfl rfl ?_
    obtain ⟨σ1, hσ1⟩ : ∃ s9, s9 = (su σ 136 16 ((1 : Int32) <<< (x2 &&& 31))) := ⟨_, rfl⟩
    rw [← hσ1]
    have H := H σ1 hσ1
    refine XA.blk (e9 := 25) (ok := true) (ls' := [some (.ref 136), some (.int x1), some (.int x2)]) (st' := [.ref 136, .int x1]) (h' := hs σ1) [(.iload_n 1, 1, 1, 0, 0, 0, 0, 0), (.aload_n 0, 1, 0, 0, 0, 0, 0, 0)] (by decide +kernel) rfl rfl ?_
    refine XA.callV (as := []) (rest := [.int x1]) (mc' := 0) (ms' := 0) (idx := 310) (t := 1314) cv_X11_isSeen (by decide +kernel) rfl rfl rfl (Nat.le_of_ble_eq_true rfl) (Nat.le_of_ble_eq_true rfl) (Nat.le_of_ble_eq_true rfl) (Nat.le_of_ble_eq_true rfl) (H) (fun rv h' hp => ?_)
    obtain ⟨r9, s9, rfl, rfl, hK⟩ := hp
    exact ⟨rfl, rfl, XA.drop (by simp [leL]) hK⟩
set_option maxRecDepth 20000 in
theorem W_X11_neverNow_28 {scr : ScA}   {x2 : Int32} {y0 : Int32} {y1 : Int32}  {σ : Nat → Nat → Int32} {P : Int32 → (Nat → Nat → Int32) → Prop} (H : K_X11_neverNow_8 scr (y0 ||| (if y1 = 0 then 0 else (1 : Int32) <<< (x2 &&& 31) : Int32)) (x2 + 1) σ P) : K_X11_neverNow_28 scr x2 y0 y1 σ P := by
  show XA scr 6 mX11_neverNow 172 4705 28 [some (.ref 136), none, some (.int x2)] [.int y1, .int y0] (hs σ) (pI P)
  have hJ28 : XA scr 6 mX11_neverNow 172 4705 38 [some (.ref 136), none, some (.int x2)] [.int (if y1 = 0 then 0 else (1 : Int32) <<< (x2 &&& 31) : Int32), .int y0] (hs σ) (pI P) := by
    refine XA.blk (e9 := 8) (ok := true) (ls' := [some (.ref 136), some (.int (y0 ||| (if y1 = 0 then 0 else (1 : Int32) <<< (x2 &&& 31) : Int32))), some (.int (x2 + 1))]) (st' := []) (h' := hs σ) [(.ior, 1, 0, 0, 0, 0, 0, 0), (.istore_n 1, 1, 1, 0, 0, 0, 0, 0), (.iinc 2 1, 3, 2, 0, 0, 0, 1, 0), (.goto (-35), 3, 8, 0, 0, 0, 0, 0)] (by decide +kernel) rfl rfl ?_
    exact H
  refine XA.if_eq (9) 37 (by decide +kernel) (fun c1 => ?_) (fun c1 => ?_)
  · refine XA.blk (e9 := 38) (ok := true) (ls' := [some (.ref 136), none, some (.int x2)]) (st' := [.int 0, .int y0]) (h' := hs σ) [(.iconst 0, 1, 0, 0, 0, 0, 0, 0)] (by decide +kernel) rfl rfl ?_
    simpa only [if_pos c1] using hJ28
  · refine XA.blk (e9 := 38) (ok := true) (ls' := [some (.ref 136), none, some (.int x2)]) (st' := [.int ((1 : Int32) <<< (x2 &&& 31)), .int y0]) (h' := hs σ) [(.iconst 1, 1, 0, 0, 0, 0, 1, 0), (.iload_n 2, 1, 2, 0, 0, 0, 0, 0), (.ishl, 1, 0, 0, 0, 0, 0, 0), (.goto 4, 3, 38, 0, 0, 0, 0, 0)] (by decide +kernel) rfl rfl ?_
    simpa only [if_neg c1] using hJ28
theorem E_X11_neverNow {scr : ScA}   {σ : Nat → Nat → Int32} {P : Int32 → (Nat → Nat → Int32) → Prop} (h : K_X11_neverNow_0 scr σ P) : CiA scr 6 mX11_neverNow [.ref 136] σ P := CtA.of (by decide) (Nat.le_of_ble_eq_true rfl) (XA.drop (by simp [leL, enL]) h)
def K_X11_never_0 (scr : ScA)   (σ : Nat → Nat → Int32) (P : Int32 → (Nat → Nat → Int32) → Prop) : Prop := XA scr 7 mX11_never 172 4705 0 [some (.ref 136)] [] (hs σ) (pI P)
def K_X11_never_4 (scr : ScA)  (y0 : Int32) (σ : Nat → Nat → Int32) (P : Int32 → (Nat → Nat → Int32) → Prop) : Prop := XA scr 7 mX11_never 172 4705 4 [none] [.int y0] (hs σ) (pI P)
set_option maxRecDepth 20000 in
theorem W_X11_never_0 {scr : ScA}     {σ : Nat → Nat → Int32} {P : Int32 → (Nat → Nat → Int32) → Prop} (H : CiA scr 6 mX11_neverNow [.ref 136] σ (fun r9 σ' => K_X11_never_4 scr r9 σ' P)) : K_X11_never_0 scr σ P := by
  show XA scr 7 mX11_never 172 4705 0 [some (.ref 136)] [] (hs σ) (pI P)
  refine XA.blk (e9 := 1) (ok := true) (ls' := [some (.ref 136)]) (st' := [.ref 136]) (h' := hs σ) [(.aload_n 0, 1, 0, 0, 0, 0, 0, 0)] (by decide +kernel) rfl rfl ?_
  refine XA.callV (as := []) (rest := []) (mc' := 0) (ms' := 0) (idx := 314) (t := 1310) cv_X11_neverNow (by decide +kernel) rfl rfl rfl (Nat.le_of_ble_eq_true rfl) (Nat.le_of_ble_eq_true rfl) (Nat.le_of_ble_eq_true rfl) (Nat.le_of_ble_eq_true rfl) (H) (fun rv h' hp => ?_)
  obtain ⟨r9, s9, rfl, rfl, hK⟩ := hp
  exact ⟨rfl, rfl, XA.drop (by simp [leL]) hK⟩
set_option maxRecDepth 20000 in
theorem W_X11_never_4 {scr : ScA}   {y0 : Int32}  {σ : Nat → Nat → Int32} {P : Int32 → (Nat → Nat → Int32) → Prop} (H : P y0 σ) : K_X11_never_4 scr y0 σ P := by
  show XA scr 7 mX11_never 172 4705 4 [none] [.int y0] (hs σ) (pI P)
  exact XA.ret (some (.int y0)) rfl (show ckRt mX11_never 4 .ireturn = true by decide +kernel) trivial (Nat.le_of_ble_eq_true rfl) (Nat.le_of_ble_eq_true rfl) ⟨_, _, rfl, rfl, H⟩
theorem E_X11_never {scr : ScA}   {σ : Nat → Nat → Int32} {P : Int32 → (Nat → Nat → Int32) → Prop} (h : K_X11_never_0 scr σ P) : CiA scr 7 mX11_never [.ref 136] σ P := CtA.of (by decide) (Nat.le_of_ble_eq_true rfl) (XA.drop (by simp [leL, enL]) h)
def K_X11_strengthsBy_0 (scr : ScA)  (x1 : Int32) (σ : Nat → Nat → Int32) (P : Int32 → (Nat → Nat → Int32) → Prop) : Prop := XA scr 6 mX11_strengthsBy 172 4705 0 [some (.ref 136), some (.int x1), none, none, none, none] [] (hs σ) (pI P)
def K_X11_strengthsBy_4 (scr : ScA)  (x1 : Int32) (σ : Nat → Nat → Int32) (P : Int32 → (Nat → Nat → Int32) → Prop) : Prop := XA scr 6 mX11_strengthsBy 172 4705 4 [some (.ref 136), some (.int x1), none, none, none, none] [] (hs σ) (pI P)
def K_X11_strengthsBy_16 (scr : ScA)  (x1 : Int32) (x2 : Int32) (x3 : Int32) (x4 : Int32) (σ : Nat → Nat → Int32) (P : Int32 → (Nat → Nat → Int32) → Prop) : Prop := XA scr 6 mX11_strengthsBy 172 4705 16 [some (.ref 136), some (.int x1), some (.int x2), some (.int x3), some (.int x4), none] [] (hs σ) (pI P)
def K_X11_strengthsBy_36 (scr : ScA)  (x1 : Int32) (x2 : Int32) (x4 : Int32) (y0 : Int32) (y1 : Int32) (σ : Nat → Nat → Int32) (P : Int32 → (Nat → Nat → Int32) → Prop) : Prop := XA scr 6 mX11_strengthsBy 172 4705 36 [some (.ref 136), some (.int x1), some (.int x2), none, some (.int x4), none] [.int y1, .int y0] (hs σ) (pI P)
def K_X11_strengthsBy_52 (scr : ScA)  (x1 : Int32) (x2 : Int32) (x3 : Int32) (x4 : Int32) (x5 : Int32) (σ : Nat → Nat → Int32) (P : Int32 → (Nat → Nat → Int32) → Prop) : Prop := XA scr 6 mX11_strengthsBy 172 4705 52 [some (.ref 136), some (.int x1), some (.int x2), some (.int x3), some (.int x4), some (.int x5)] [] (hs σ) (pI P)
set_option maxRecDepth 20000 in
theorem W_X11_strengthsBy_0 {scr : ScA}   {x1 : Int32}  {σ : Nat → Nat → Int32} {P : Int32 → (Nat → Nat → Int32) → Prop} (H : CvA scr 5 mX11_asTold [.ref 136] σ (fun σ' => K_X11_strengthsBy_4 scr x1 σ' P)) : K_X11_strengthsBy_0 scr x1 σ P := by
  show XA scr 6 mX11_strengthsBy 172 4705 0 [some (.ref 136), some (.int x1), none, none, none, none] [] (hs σ) (pI P)
  refine XA.blk (e9 := 1) (ok := true) (ls' := [some (.ref 136), some (.int x1), none, none, none, none]) (st' := [.ref 136]) (h' := hs σ) [(.aload_n 0, 1, 0, 0, 0, 0, 0, 0)] (by decide +kernel) rfl rfl ?_
  refine XA.callV (as := []) (rest := []) (mc' := 0) (ms' := 0) (idx := 241) (t := 1149) cv_X11_asTold (by decide +kernel) rfl rfl rfl (Nat.le_of_ble_eq_true rfl) (Nat.le_of_ble_eq_true rfl) (Nat.le_of_ble_eq_true rfl) (Nat.le_of_ble_eq_true rfl) (H) (fun rv h' hp => ?_)
  obtain ⟨s9, rfl, rfl, hK⟩ := hp
  exact ⟨rfl, rfl, hK⟩
set_option maxRecDepth 20000 in
theorem W_X11_strengthsBy_4 {scr : ScA}   {x1 : Int32}  {σ : Nat → Nat → Int32} {P : Int32 → (Nat → Nat → Int32) → Prop} (H : (inB x1 11 = true) ∧ (K_X11_strengthsBy_16 scr x1 (σ 140 (Int32.toNatClampNeg x1)) 0 1 σ P)) : K_X11_strengthsBy_4 scr x1 σ P := by
  show XA scr 6 mX11_strengthsBy 172 4705 4 [some (.ref 136), some (.int x1), none, none, none, none] [] (hs σ) (pI P)
  obtain ⟨o1, H⟩ := H
  refine XA.blk (e9 := 16) (ok := inB x1 11 && (true)) (ls' := [some (.ref 136), some (.int x1), some (.int (σ 140 (Int32.toNatClampNeg x1))), some (.int 0), some (.int 1), none]) (st' := []) (h' := hs σ) [(.aload_n 0, 1, 0, 0, 0, 0, 0, 0), (.getfield 19, 3, 11, 5, 5, 898, 0, 0), (.iload_n 1, 1, 1, 0, 0, 0, 0, 0), (.iaload, 1, 0, 0, 0, 0, 0, 0), (.istore_n 2, 1, 2, 0, 0, 0, 0, 0), (.iconst 0, 1, 0, 0, 0, 0, 0, 0), (.istore_n 3, 1, 3, 0, 0, 0, 0, 0), (.iconst 1, 1, 0, 0, 0, 0, 1, 0), (.istore 4, 2, 4, 0, 0, 0, 0, 0)] (by decide +kernel) rfl (by simp only [o1, Bool.and_true, Bool.true_and]) ?_
  exact H
set_option maxRecDepth 20000 in
theorem W_X11_strengthsBy_16 {scr : ScA}   {x1 : Int32} {x2 : Int32} {x3 : Int32} {x4 : Int32}  {σ : Nat → Nat → Int32} {P : Int32 → (Nat → Nat → Int32) → Prop} (H : (10 ≤ x4 → (inB x1 11 = true) ∧ (∀ σ1, σ1 = (su σ 140 (Int32.toNatClampNeg x1) x2) → P x3 σ1)) ∧ (¬ 10 ≤ x4 → (inB x1 11 = true) ∧ (∀ σ2, σ2 = (su σ 140 (Int32.toNatClampNeg x1) x4) → CiA scr 4 mX11_isSeen [.ref 136] σ2 (fun r9 σ' => K_X11_strengthsBy_36 scr x1 x2 x4 x3 r9 σ' P)))) : K_X11_strengthsBy_16 scr x1 x2 x3 x4 σ P := by
  show XA scr 6 mX11_strengthsBy 172 4705 16 [some (.ref 136), some (.int x1), some (.int x2), some (.int x3), some (.int x4), none] [] (hs σ) (pI P)
  refine XA.blk (e9 := 20) (ok := true) (ls' := [some (.ref 136), some (.int x1), some (.int x2), some (.int x3), some (.int x4), none]) (st' := [.int 10, .int x4]) (h' := hs σ) [(.iload 4, 2, 4, 0, 0, 0, 0, 0), (.bipush 10, 2, 0, 0, 0, 0, 10, 0)] (by decide +kernel) rfl rfl ?_
  refine XA.icmp_ge (71) 91 (by decide +kernel) (fun c1 => ?_) (fun c1 => ?_)
  · have H := H.1 c1
    obtain ⟨o1, H⟩ := H
    refine XA.blk (e9 := 98) (ok := inB x1 11 && (true)) (ls' := [some (.ref 136), some (.int x1), some (.int x2), some (.int x3), some (.int x4), none]) (st' := []) (h' := hs (su σ 140 (Int32.toNatClampNeg x1) x2)) [(.aload_n 0, 1, 0, 0, 0, 0, 0, 0), (.getfield 19, 3, 11, 5, 5, 898, 0, 0), (.iload_n 1, 1, 1, 0, 0, 0, 0, 0), (.iload_n 2, 1, 2, 0, 0, 0, 0, 0), (.iastore, 1, 0, 0, 0, 0, 0, 0)] (by decide +kernel) rfl (by simp only [o1, Bool.and_true, Bool.true_and]) ?_
    obtain ⟨σ1, hσ1⟩ : ∃ s9, s9 = (su σ 140 (Int32.toNatClampNeg x1) x2) := ⟨_, rfl⟩
    rw [← hσ1]
    have H := H σ1 hσ1
    refine XA.blk (e9 := 99) (ok := true) (ls' := [some (.ref 136), some (.int x1), some (.int x2), some (.int x3), some (.int x4), none]) (st' := [.int x3]) (h' := hs σ1) [(.iload_n 3, 1, 3, 0, 0, 0, 0, 0)] (by decide +kernel) rfl rfl ?_
    exact XA.ret (some (.int x3)) rfl (show ckRt mX11_strengthsBy 99 .ireturn = true by decide +kernel) trivial (Nat.le_of_ble_eq_true rfl) (Nat.le_of_ble_eq_true rfl) ⟨_, _, rfl, rfl, H⟩
  · have H := H.2 c1
    obtain ⟨o1, H⟩ := H
    refine XA.blk (e9 := 31) (ok := inB x1 11 && (true)) (ls' := [some (.ref 136), some (.int x1), some (.int x2), some (.int x3), some (.int x4), none]) (st' := []) (h' := hs (su σ 140 (Int32.toNatClampNeg x1) x4)) [(.aload_n 0, 1, 0, 0, 0, 0, 0, 0), (.getfield 19, 3, 11, 5, 5, 898, 0, 0), (.iload_n 1, 1, 1, 0, 0, 0, 0, 0), (.iload 4, 2, 4, 0, 0, 0, 0, 0), (.iastore, 1, 0, 0, 0, 0, 0, 0)] (by decide +kernel) rfl (by simp only [o1, Bool.and_true, Bool.true_and]) ?_
    obtain ⟨σ2, hσ2⟩ : ∃ s9, s9 = (su σ 140 (Int32.toNatClampNeg x1) x4) := ⟨_, rfl⟩
    rw [← hσ2]
    have H := H σ2 hσ2
    refine XA.blk (e9 := 33) (ok := true) (ls' := [some (.ref 136), some (.int x1), some (.int x2), some (.int x3), some (.int x4), none]) (st' := [.ref 136, .int x3]) (h' := hs σ2) [(.iload_n 3, 1, 3, 0, 0, 0, 0, 0), (.aload_n 0, 1, 0, 0, 0, 0, 0, 0)] (by decide +kernel) rfl rfl ?_
    refine XA.callV (as := []) (rest := [.int x3]) (mc' := 0) (ms' := 0) (idx := 310) (t := 1314) cv_X11_isSeen (by decide +kernel) rfl rfl rfl (Nat.le_of_ble_eq_true rfl) (Nat.le_of_ble_eq_true rfl) (Nat.le_of_ble_eq_true rfl) (Nat.le_of_ble_eq_true rfl) (H) (fun rv h' hp => ?_)
    obtain ⟨r9, s9, rfl, rfl, hK⟩ := hp
    exact ⟨rfl, rfl, XA.drop (by simp [leL]) hK⟩
set_option maxRecDepth 20000 in
theorem W_X11_strengthsBy_36 {scr : ScA}   {x1 : Int32} {x2 : Int32} {x4 : Int32} {y0 : Int32} {y1 : Int32}  {σ : Nat → Nat → Int32} {P : Int32 → (Nat → Nat → Int32) → Prop} (H : K_X11_strengthsBy_52 scr x1 x2 (y0 ||| (if y1 = 0 then 0 else (1 : Int32) <<< (x4 &&& 31) : Int32)) x4 0 σ P) : K_X11_strengthsBy_36 scr x1 x2 x4 y0 y1 σ P := by
  show XA scr 6 mX11_strengthsBy 172 4705 36 [some (.ref 136), some (.int x1), some (.int x2), none, some (.int x4), none] [.int y1, .int y0] (hs σ) (pI P)
  have hJ36 : XA scr 6 mX11_strengthsBy 172 4705 47 [some (.ref 136), some (.int x1), some (.int x2), none, some (.int x4), none] [.int (if y1 = 0 then 0 else (1 : Int32) <<< (x4 &&& 31) : Int32), .int y0] (hs σ) (pI P) := by
    refine XA.blk (e9 := 52) (ok := true) (ls' := [some (.ref 136), some (.int x1), some (.int x2), some (.int (y0 ||| (if y1 = 0 then 0 else (1 : Int32) <<< (x4 &&& 31) : Int32))), some (.int x4), some (.int 0)]) (st' := []) (h' := hs σ) [(.ior, 1, 0, 0, 0, 0, 0, 0), (.istore_n 3, 1, 3, 0, 0, 0, 0, 0), (.iconst 0, 1, 0, 0, 0, 0, 0, 0), (.istore 5, 2, 5, 0, 0, 0, 0, 0)] (by decide +kernel) rfl rfl ?_
    exact H
  refine XA.if_eq (10) 46 (by decide +kernel) (fun c1 => ?_) (fun c1 => ?_)
  · refine XA.blk (e9 := 47) (ok := true) (ls' := [some (.ref 136), some (.int x1), some (.int x2), none, some (.int x4), none]) (st' := [.int 0, .int y0]) (h' := hs σ) [(.iconst 0, 1, 0, 0, 0, 0, 0, 0)] (by decide +kernel) rfl rfl ?_
    simpa only [if_pos c1] using hJ36
  · refine XA.blk (e9 := 47) (ok := true) (ls' := [some (.ref 136), some (.int x1), some (.int x2), none, some (.int x4), none]) (st' := [.int ((1 : Int32) <<< (x4 &&& 31)), .int y0]) (h' := hs σ) [(.iconst 1, 1, 0, 0, 0, 0, 1, 0), (.iload 4, 2, 4, 0, 0, 0, 0, 0), (.ishl, 1, 0, 0, 0, 0, 0, 0), (.goto 4, 3, 47, 0, 0, 0, 0, 0)] (by decide +kernel) rfl rfl ?_
    simpa only [if_neg c1] using hJ36
set_option maxRecDepth 20000 in
theorem W_X11_strengthsBy_52 {scr : ScA}   {x1 : Int32} {x2 : Int32} {x3 : Int32} {x4 : Int32} {x5 : Int32}  {σ : Nat → Nat → Int32} {P : Int32 → (Nat → Nat → Int32) → Prop} (H : (24 ≤ x5 → K_X11_strengthsBy_16 scr x1 x2 x3 (x4 + 1) σ P) ∧ (¬ 24 ≤ x5 → (inB x5 24 = true) ∧ (inB ((24 * x4) + x5) 240 = true) ∧ (∀ σ1, σ1 = (su σ 166 (Int32.toNatClampNeg ((24 * x4) + x5)) (σ 156 (Int32.toNatClampNeg x5))) → K_X11_strengthsBy_52 scr x1 x2 x3 x4 (x5 + 1) σ1 P))) : K_X11_strengthsBy_52 scr x1 x2 x3 x4 x5 σ P := by
  show XA scr 6 mX11_strengthsBy 172 4705 52 [some (.ref 136), some (.int x1), some (.int x2), some (.int x3), some (.int x4), some (.int x5)] [] (hs σ) (pI P)
  refine XA.blk (e9 := 56) (ok := true) (ls' := [some (.ref 136), some (.int x1), some (.int x2), some (.int x3), some (.int x4), some (.int x5)]) (st' := [.int 24, .int x5]) (h' := hs σ) [(.iload 5, 2, 5, 0, 0, 0, 0, 0), (.bipush 24, 2, 0, 0, 0, 0, 24, 0)] (by decide +kernel) rfl rfl ?_
  refine XA.icmp_ge (29) 85 (by decide +kernel) (fun c1 => ?_) (fun c1 => ?_)
  · have H := H.1 c1
    refine XA.blk (e9 := 16) (ok := true) (ls' := [some (.ref 136), some (.int x1), some (.int x2), some (.int x3), some (.int (x4 + 1)), some (.int x5)]) (st' := []) (h' := hs σ) [(.iinc 4 1, 3, 4, 0, 0, 0, 1, 0), (.goto (-72), 3, 16, 0, 0, 0, 0, 0)] (by decide +kernel) rfl rfl ?_
    exact XA.drop (by simp [leL]) H
  · have H := H.2 c1
    obtain ⟨o1, o2, H⟩ := H
    refine XA.blk (e9 := 79) (ok := inB x5 24 && (inB ((24 * x4) + x5) 240 && (true))) (ls' := [some (.ref 136), some (.int x1), some (.int x2), some (.int x3), some (.int x4), some (.int x5)]) (st' := []) (h' := hs (su σ 166 (Int32.toNatClampNeg ((24 * x4) + x5)) (σ 156 (Int32.toNatClampNeg x5)))) [(.aload_n 0, 1, 0, 0, 0, 0, 0, 0), (.getfield 97, 3, 11, 47, 31, 940, 0, 0), (.bipush 24, 2, 0, 0, 0, 0, 24, 0), (.iload 4, 2, 4, 0, 0, 0, 0, 0), (.imul, 1, 0, 0, 0, 0, 0, 0), (.iload 5, 2, 5, 0, 0, 0, 0, 0), (.iadd, 1, 0, 0, 0, 0, 0, 0), (.aload_n 0, 1, 0, 0, 0, 0, 0, 0), (.getfield 67, 3, 11, 34, 21, 927, 0, 0), (.iload 5, 2, 5, 0, 0, 0, 0, 0), (.iaload, 1, 0, 0, 0, 0, 0, 0), (.iastore, 1, 0, 0, 0, 0, 0, 0)] (by decide +kernel) rfl (by simp only [o1, o2, Bool.and_true, Bool.true_and]) ?_
    obtain ⟨σ1, hσ1⟩ : ∃ s9, s9 = (su σ 166 (Int32.toNatClampNeg ((24 * x4) + x5)) (σ 156 (Int32.toNatClampNeg x5))) := ⟨_, rfl⟩
    rw [← hσ1]
    have H := H σ1 hσ1
    refine XA.blk (e9 := 52) (ok := true) (ls' := [some (.ref 136), some (.int x1), some (.int x2), some (.int x3), some (.int x4), some (.int (x5 + 1))]) (st' := []) (h' := hs σ1) [(.iinc 5 1, 3, 5, 0, 0, 0, 1, 0), (.goto (-30), 3, 52, 0, 0, 0, 0, 0)] (by decide +kernel) rfl rfl ?_
    exact H
theorem E_X11_strengthsBy {scr : ScA}  {x1 : Int32} {σ : Nat → Nat → Int32} {P : Int32 → (Nat → Nat → Int32) → Prop} (h : K_X11_strengthsBy_0 scr x1 σ P) : CiA scr 6 mX11_strengthsBy [.ref 136, .int x1] σ P := CtA.of (by decide) (Nat.le_of_ble_eq_true rfl) (XA.drop (by simp [leL, enL]) h)
def K_X11_weightsBy_0 (scr : ScA)  (x1 : Int32) (σ : Nat → Nat → Int32) (P : Int32 → (Nat → Nat → Int32) → Prop) : Prop := XA scr 6 mX11_weightsBy 172 4705 0 [some (.ref 136), some (.int x1), none, none, none] [] (hs σ) (pI P)
def K_X11_weightsBy_4 (scr : ScA)  (x1 : Int32) (σ : Nat → Nat → Int32) (P : Int32 → (Nat → Nat → Int32) → Prop) : Prop := XA scr 6 mX11_weightsBy 172 4705 4 [some (.ref 136), some (.int x1), none, none, none] [] (hs σ) (pI P)
def K_X11_weightsBy_16 (scr : ScA)  (x1 : Int32) (x2 : Int32) (x3 : Int32) (x4 : Int32) (σ : Nat → Nat → Int32) (P : Int32 → (Nat → Nat → Int32) → Prop) : Prop := XA scr 6 mX11_weightsBy 172 4705 16 [some (.ref 136), some (.int x1), some (.int x2), some (.int x3), some (.int x4)] [] (hs σ) (pI P)
def K_X11_weightsBy_36 (scr : ScA)  (x1 : Int32) (x2 : Int32) (x4 : Int32) (y0 : Int32) (y1 : Int32) (σ : Nat → Nat → Int32) (P : Int32 → (Nat → Nat → Int32) → Prop) : Prop := XA scr 6 mX11_weightsBy 172 4705 36 [some (.ref 136), some (.int x1), some (.int x2), none, some (.int x4)] [.int y1, .int y0] (hs σ) (pI P)
set_option maxRecDepth 20000 in
theorem W_X11_weightsBy_0 {scr : ScA}   {x1 : Int32}  {σ : Nat → Nat → Int32} {P : Int32 → (Nat → Nat → Int32) → Prop} (H : CvA scr 5 mX11_asTold [.ref 136] σ (fun σ' => K_X11_weightsBy_4 scr x1 σ' P)) : K_X11_weightsBy_0 scr x1 σ P := by
  show XA scr 6 mX11_weightsBy 172 4705 0 [some (.ref 136), some (.int x1), none, none, none] [] (hs σ) (pI P)
  refine XA.blk (e9 := 1) (ok := true) (ls' := [some (.ref 136), some (.int x1), none, none, none]) (st' := [.ref 136]) (h' := hs σ) [(.aload_n 0, 1, 0, 0, 0, 0, 0, 0)] (by decide +kernel) rfl rfl ?_
  refine XA.callV (as := []) (rest := []) (mc' := 0) (ms' := 0) (idx := 241) (t := 1149) cv_X11_asTold (by decide +kernel) rfl rfl rfl (Nat.le_of_ble_eq_true rfl) (Nat.le_of_ble_eq_true rfl) (Nat.le_of_ble_eq_true rfl) (Nat.le_of_ble_eq_true rfl) (H) (fun rv h' hp => ?_)
  obtain ⟨s9, rfl, rfl, hK⟩ := hp
  exact ⟨rfl, rfl, hK⟩
set_option maxRecDepth 20000 in
theorem W_X11_weightsBy_4 {scr : ScA}   {x1 : Int32}  {σ : Nat → Nat → Int32} {P : Int32 → (Nat → Nat → Int32) → Prop} (H : (inB x1 11 = true) ∧ (K_X11_weightsBy_16 scr x1 (σ 139 (Int32.toNatClampNeg x1)) 0 1 σ P)) : K_X11_weightsBy_4 scr x1 σ P := by
  show XA scr 6 mX11_weightsBy 172 4705 4 [some (.ref 136), some (.int x1), none, none, none] [] (hs σ) (pI P)
  obtain ⟨o1, H⟩ := H
  refine XA.blk (e9 := 16) (ok := inB x1 11 && (true)) (ls' := [some (.ref 136), some (.int x1), some (.int (σ 139 (Int32.toNatClampNeg x1))), some (.int 0), some (.int 1)]) (st' := []) (h' := hs σ) [(.aload_n 0, 1, 0, 0, 0, 0, 0, 0), (.getfield 16, 3, 11, 4, 4, 897, 0, 0), (.iload_n 1, 1, 1, 0, 0, 0, 0, 0), (.iaload, 1, 0, 0, 0, 0, 0, 0), (.istore_n 2, 1, 2, 0, 0, 0, 0, 0), (.iconst 0, 1, 0, 0, 0, 0, 0, 0), (.istore_n 3, 1, 3, 0, 0, 0, 0, 0), (.iconst 1, 1, 0, 0, 0, 0, 1, 0), (.istore 4, 2, 4, 0, 0, 0, 0, 0)] (by decide +kernel) rfl (by simp only [o1, Bool.and_true, Bool.true_and]) ?_
  exact H
set_option maxRecDepth 20000 in
theorem W_X11_weightsBy_16 {scr : ScA}   {x1 : Int32} {x2 : Int32} {x3 : Int32} {x4 : Int32}  {σ : Nat → Nat → Int32} {P : Int32 → (Nat → Nat → Int32) → Prop} (H : (10 ≤ x4 → (inB x1 11 = true) ∧ (∀ σ1, σ1 = (su σ 139 (Int32.toNatClampNeg x1) x2) → P x3 σ1)) ∧ (¬ 10 ≤ x4 → (inB x1 11 = true) ∧ (∀ σ2, σ2 = (su σ 139 (Int32.toNatClampNeg x1) x4) → CiA scr 4 mX11_isSeen [.ref 136] σ2 (fun r9 σ' => K_X11_weightsBy_36 scr x1 x2 x4 x3 r9 σ' P)))) : K_X11_weightsBy_16 scr x1 x2 x3 x4 σ P := by
  show XA scr 6 mX11_weightsBy 172 4705 16 [some (.ref 136), some (.int x1), some (.int x2), some (.int x3), some (.int x4)] [] (hs σ) (pI P)
  refine XA.blk (e9 := 20) (ok := true) (ls' := [some (.ref 136), some (.int x1), some (.int x2), some (.int x3), some (.int x4)]) (st' := [.int 10, .int x4]) (h' := hs σ) [(.iload 4, 2, 4, 0, 0, 0, 0, 0), (.bipush 10, 2, 0, 0, 0, 0, 10, 0)] (by decide +kernel) rfl rfl ?_
  refine XA.icmp_ge (35) 55 (by decide +kernel) (fun c1 => ?_) (fun c1 => ?_)
  · have H := H.1 c1
    obtain ⟨o1, H⟩ := H
    refine XA.blk (e9 := 62) (ok := inB x1 11 && (true)) (ls' := [some (.ref 136), some (.int x1), some (.int x2), some (.int x3), some (.int x4)]) (st' := []) (h' := hs (su σ 139 (Int32.toNatClampNeg x1) x2)) [(.aload_n 0, 1, 0, 0, 0, 0, 0, 0), (.getfield 16, 3, 11, 4, 4, 897, 0, 0), (.iload_n 1, 1, 1, 0, 0, 0, 0, 0), (.iload_n 2, 1, 2, 0, 0, 0, 0, 0), (.iastore, 1, 0, 0, 0, 0, 0, 0)] (by decide +kernel) rfl (by simp only [o1, Bool.and_true, Bool.true_and]) ?_
    obtain ⟨σ1, hσ1⟩ : ∃ s9, s9 = (su σ 139 (Int32.toNatClampNeg x1) x2) := ⟨_, rfl⟩
    rw [← hσ1]
    have H := H σ1 hσ1
    refine XA.blk (e9 := 63) (ok := true) (ls' := [some (.ref 136), some (.int x1), some (.int x2), some (.int x3), some (.int x4)]) (st' := [.int x3]) (h' := hs σ1) [(.iload_n 3, 1, 3, 0, 0, 0, 0, 0)] (by decide +kernel) rfl rfl ?_
    exact XA.ret (some (.int x3)) rfl (show ckRt mX11_weightsBy 63 .ireturn = true by decide +kernel) trivial (Nat.le_of_ble_eq_true rfl) (Nat.le_of_ble_eq_true rfl) ⟨_, _, rfl, rfl, H⟩
  · have H := H.2 c1
    obtain ⟨o1, H⟩ := H
    refine XA.blk (e9 := 31) (ok := inB x1 11 && (true)) (ls' := [some (.ref 136), some (.int x1), some (.int x2), some (.int x3), some (.int x4)]) (st' := []) (h' := hs (su σ 139 (Int32.toNatClampNeg x1) x4)) [(.aload_n 0, 1, 0, 0, 0, 0, 0, 0), (.getfield 16, 3, 11, 4, 4, 897, 0, 0), (.iload_n 1, 1, 1, 0, 0, 0, 0, 0), (.iload 4, 2, 4, 0, 0, 0, 0, 0), (.iastore, 1, 0, 0, 0, 0, 0, 0)] (by decide +kernel) rfl (by simp only [o1, Bool.and_true, Bool.true_and]) ?_
    obtain ⟨σ2, hσ2⟩ : ∃ s9, s9 = (su σ 139 (Int32.toNatClampNeg x1) x4) := ⟨_, rfl⟩
    rw [← hσ2]
    have H := H σ2 hσ2
    refine XA.blk (e9 := 33) (ok := true) (ls' := [some (.ref 136), some (.int x1), some (.int x2), some (.int x3), some (.int x4)]) (st' := [.ref 136, .int x3]) (h' := hs σ2) [(.iload_n 3, 1, 3, 0, 0, 0, 0, 0), (.aload_n 0, 1, 0, 0, 0, 0, 0, 0)] (by decide +kernel) rfl rfl ?_
    refine XA.callV (as := []) (rest := [.int x3]) (mc' := 0) (ms' := 0) (idx := 310) (t := 1314) cv_X11_isSeen (by decide +kernel) rfl rfl rfl (Nat.le_of_ble_eq_true rfl) (Nat.le_of_ble_eq_true rfl) (Nat.le_of_ble_eq_true rfl) (Nat.le_of_ble_eq_true rfl) (H) (fun rv h' hp => ?_)
    obtain ⟨r9, s9, rfl, rfl, hK⟩ := hp
    exact ⟨rfl, rfl, XA.drop (by simp [leL]) hK⟩
set_option maxRecDepth 20000 in
theorem W_X11_weightsBy_36 {scr : ScA}   {x1 : Int32} {x2 : Int32} {x4 : Int32} {y0 : Int32} {y1 : Int32}  {σ : Nat → Nat → Int32} {P : Int32 → (Nat → Nat → Int32) → Prop} (H : K_X11_weightsBy_16 scr x1 x2 (y0 ||| (if y1 = 0 then 0 else (1 : Int32) <<< (x4 &&& 31) : Int32)) (x4 + 1) σ P) : K_X11_weightsBy_36 scr x1 x2 x4 y0 y1 σ P := by
  show XA scr 6 mX11_weightsBy 172 4705 36 [some (.ref 136), some (.int x1), some (.int x2), none, some (.int x4)] [.int y1, .int y0] (hs σ) (pI P)
  have hJ36 : XA scr 6 mX11_weightsBy 172 4705 47 [some (.ref 136), some (.int x1), some (.int x2), none, some (.int x4)] [.int (if y1 = 0 then 0 else (1 : Int32) <<< (x4 &&& 31) : Int32), .int y0] (hs σ) (pI P) := by
    refine XA.blk (e9 := 16) (ok := true) (ls' := [some (.ref 136), some (.int x1), some (.int x2), some (.int (y0 ||| (if y1 = 0 then 0 else (1 : Int32) <<< (x4 &&& 31) : Int32))), some (.int (x4 + 1))]) (st' := []) (h' := hs σ) [(.ior, 1, 0, 0, 0, 0, 0, 0), (.istore_n 3, 1, 3, 0, 0, 0, 0, 0), (.iinc 4 1, 3, 4, 0, 0, 0, 1, 0), (.goto (-36), 3, 16, 0, 0, 0, 0, 0)] (by decide +kernel) rfl rfl ?_
    exact H
  refine XA.if_eq (10) 46 (by decide +kernel) (fun c1 => ?_) (fun c1 => ?_)
  · refine XA.blk (e9 := 47) (ok := true) (ls' := [some (.ref 136), some (.int x1), some (.int x2), none, some (.int x4)]) (st' := [.int 0, .int y0]) (h' := hs σ) [(.iconst 0, 1, 0, 0, 0, 0, 0, 0)] (by decide +kernel) rfl rfl ?_
    simpa only [if_pos c1] using hJ36
  · refine XA.blk (e9 := 47) (ok := true) (ls' := [some (.ref 136), some (.int x1), some (.int x2), none, some (.int x4)]) (st' := [.int ((1 : Int32) <<< (x4 &&& 31)), .int y0]) (h' := hs σ) [(.iconst 1, 1, 0, 0, 0, 0, 1, 0), (.iload 4, 2, 4, 0, 0, 0, 0, 0), (.ishl, 1, 0, 0, 0, 0, 0, 0), (.goto 4, 3, 47, 0, 0, 0, 0, 0)] (by decide +kernel) rfl rfl ?_
    simpa only [if_neg c1] using hJ36
theorem E_X11_weightsBy {scr : ScA}  {x1 : Int32} {σ : Nat → Nat → Int32} {P : Int32 → (Nat → Nat → Int32) → Prop} (h : K_X11_weightsBy_0 scr x1 σ P) : CiA scr 6 mX11_weightsBy [.ref 136, .int x1] σ P := CtA.of (by decide) (Nat.le_of_ble_eq_true rfl) (XA.drop (by simp [leL, enL]) h)
def K_X11_was_0 (scr : ScA)  (x1 : Int32) (x2 : Int32) (σ : Nat → Nat → Int32) (P : Int32 → (Nat → Nat → Int32) → Prop) : Prop := XA scr 7 mX11_was 172 4705 0 [some (.ref 136), some (.int x1), some (.int x2)] [] (hs σ) (pI P)
def K_X11_was_5 (scr : ScA)  (x1 : Int32) (x2 : Int32) (y0 : Int32) (σ : Nat → Nat → Int32) (P : Int32 → (Nat → Nat → Int32) → Prop) : Prop := XA scr 7 mX11_was 172 4705 5 [some (.ref 136), some (.int x1), some (.int x2)] [.int y0] (hs σ) (pI P)
def K_X11_was_24 (scr : ScA)  (y0 : Int32) (σ : Nat → Nat → Int32) (P : Int32 → (Nat → Nat → Int32) → Prop) : Prop := XA scr 7 mX11_was 172 4705 24 [none, none, none] [.int y0] (hs σ) (pI P)
def K_X11_was_32 (scr : ScA)  (y0 : Int32) (σ : Nat → Nat → Int32) (P : Int32 → (Nat → Nat → Int32) → Prop) : Prop := XA scr 7 mX11_was 172 4705 32 [none, none, none] [.int y0] (hs σ) (pI P)
set_option maxRecDepth 20000 in
theorem W_X11_was_0 {scr : ScA}   {x1 : Int32} {x2 : Int32}  {σ : Nat → Nat → Int32} {P : Int32 → (Nat → Nat → Int32) → Prop} (H : CiA scr 5 mX11_isAcrobat [.ref 136, .int x1] σ (fun r9 σ' => K_X11_was_5 scr x1 x2 r9 σ' P)) : K_X11_was_0 scr x1 x2 σ P := by
  show XA scr 7 mX11_was 172 4705 0 [some (.ref 136), some (.int x1), some (.int x2)] [] (hs σ) (pI P)
  refine XA.blk (e9 := 2) (ok := true) (ls' := [some (.ref 136), some (.int x1), some (.int x2)]) (st' := [.int x1, .ref 136]) (h' := hs σ) [(.aload_n 0, 1, 0, 0, 0, 0, 0, 0), (.iload_n 1, 1, 1, 0, 0, 0, 0, 0)] (by decide +kernel) rfl rfl ?_
  refine XA.callV (as := [.int x1]) (rest := []) (mc' := 0) (ms' := 0) (idx := 155) (t := 1102) cv_X11_isAcrobat (by decide +kernel) rfl rfl rfl (Nat.le_of_ble_eq_true rfl) (Nat.le_of_ble_eq_true rfl) (Nat.le_of_ble_eq_true rfl) (Nat.le_of_ble_eq_true rfl) (H) (fun rv h' hp => ?_)
  obtain ⟨r9, s9, rfl, rfl, hK⟩ := hp
  exact ⟨rfl, rfl, hK⟩
set_option maxRecDepth 20000 in
theorem W_X11_was_5 {scr : ScA}   {x1 : Int32} {x2 : Int32} {y0 : Int32}  {σ : Nat → Nat → Int32} {P : Int32 → (Nat → Nat → Int32) → Prop} (H : (y0 = 0 → P (-2) σ) ∧ (¬ y0 = 0 → ((inV x2 0 1) = 0 → P (-2) σ) ∧ (¬ (inV x2 0 1) = 0 → (¬ x2 = 0 → CiA scr 6 mX11_weightsBy [.ref 136, .int x1] σ (fun r9 σ' => K_X11_was_32 scr r9 σ' P)) ∧ (x2 = 0 → CiA scr 6 mX11_strengthsBy [.ref 136, .int x1] σ (fun r9 σ' => K_X11_was_24 scr r9 σ' P))))) : K_X11_was_5 scr x1 x2 y0 σ P := by
  show XA scr 7 mX11_was 172 4705 5 [some (.ref 136), some (.int x1), some (.int x2)] [.int y0] (hs σ) (pI P)
  refine XA.if_eq (30) 35 (by decide +kernel) (fun c1 => ?_) (fun c1 => ?_)
  · have H := H.1 c1
    refine XA.blk (e9 := 37) (ok := true) (ls' := [some (.ref 136), some (.int x1), some (.int x2)]) (st' := [.int (-2)]) (h' := hs σ) [(.bipush (-2), 2, 0, 0, 0, 0, (-2), 0)] (by decide +kernel) rfl rfl ?_
    exact XA.ret (some (.int (-2))) rfl (show ckRt mX11_was 37 .ireturn = true by decide +kernel) trivial (Nat.le_of_ble_eq_true rfl) (Nat.le_of_ble_eq_true rfl) ⟨_, _, rfl, rfl, H⟩
  · have H := H.2 c1
    refine XA.blk (e9 := 9) (ok := true) (ls' := [some (.ref 136), some (.int x1), some (.int x2)]) (st' := [.int x2]) (h' := hs σ) [(.iload_n 2, 1, 2, 0, 0, 0, 0, 0)] (by decide +kernel) rfl rfl ?_
    refine XA.callS (as := [.int x2]) (rest := []) (mc' := 0) (ms' := 0) (idx := 256) (t := 1203) cs_X11_isTwo (by decide +kernel) rfl rfl (Nat.le_of_ble_eq_true rfl) (Nat.le_of_ble_eq_true rfl) (Nat.le_of_ble_eq_true rfl) (Nat.le_of_ble_eq_true rfl) (pu_X11_isTwo scr σ x2) (fun rv h' hp => ?_)
    obtain ⟨rfl, rfl⟩ := hp
    refine ⟨rfl, rfl, ?_⟩
    show XA scr 7 mX11_was 172 4705 12 [some (.ref 136), some (.int x1), some (.int x2)] [.int (inV x2 0 1)] (hs σ) (pI P)
    refine XA.if_eq (23) 35 (by decide +kernel) (fun c2 => ?_) (fun c2 => ?_)
    · have H := H.1 c2
      refine XA.blk (e9 := 37) (ok := true) (ls' := [some (.ref 136), some (.int x1), some (.int x2)]) (st' := [.int (-2)]) (h' := hs σ) [(.bipush (-2), 2, 0, 0, 0, 0, (-2), 0)] (by decide +kernel) rfl rfl ?_
      exact XA.ret (some (.int (-2))) rfl (show ckRt mX11_was 37 .ireturn = true by decide +kernel) trivial (Nat.le_of_ble_eq_true rfl) (Nat.le_of_ble_eq_true rfl) ⟨_, _, rfl, rfl, H⟩
    · have H := H.2 c2
      refine XA.blk (e9 := 16) (ok := true) (ls' := [some (.ref 136), some (.int x1), some (.int x2)]) (st' := [.int x2]) (h' := hs σ) [(.iload_n 2, 1, 2, 0, 0, 0, 0, 0)] (by decide +kernel) rfl rfl ?_
      refine XA.if_ne (11) 27 (by decide +kernel) (fun c3 => ?_) (fun c3 => ?_)
      · have H := H.1 c3
        refine XA.blk (e9 := 29) (ok := true) (ls' := [some (.ref 136), some (.int x1), some (.int x2)]) (st' := [.int x1, .ref 136]) (h' := hs σ) [(.aload_n 0, 1, 0, 0, 0, 0, 0, 0), (.iload_n 1, 1, 1, 0, 0, 0, 0, 0)] (by decide +kernel) rfl rfl ?_
        refine XA.callV (as := [.int x1]) (rest := []) (mc' := 0) (ms' := 0) (idx := 320) (t := 1326) cv_X11_weightsBy (by decide +kernel) rfl rfl rfl (Nat.le_of_ble_eq_true rfl) (Nat.le_of_ble_eq_true rfl) (Nat.le_of_ble_eq_true rfl) (Nat.le_of_ble_eq_true rfl) (H) (fun rv h' hp => ?_)
        obtain ⟨r9, s9, rfl, rfl, hK⟩ := hp
        exact ⟨rfl, rfl, XA.drop (by simp [leL]) hK⟩
      · have H := H.2 c3
        refine XA.blk (e9 := 21) (ok := true) (ls' := [some (.ref 136), some (.int x1), some (.int x2)]) (st' := [.int x1, .ref 136]) (h' := hs σ) [(.aload_n 0, 1, 0, 0, 0, 0, 0, 0), (.iload_n 1, 1, 1, 0, 0, 0, 0, 0)] (by decide +kernel) rfl rfl ?_
        refine XA.callV (as := [.int x1]) (rest := []) (mc' := 0) (ms' := 0) (idx := 317) (t := 1322) cv_X11_strengthsBy (by decide +kernel) rfl rfl rfl (Nat.le_of_ble_eq_true rfl) (Nat.le_of_ble_eq_true rfl) (Nat.le_of_ble_eq_true rfl) (Nat.le_of_ble_eq_true rfl) (H) (fun rv h' hp => ?_)
        obtain ⟨r9, s9, rfl, rfl, hK⟩ := hp
        exact ⟨rfl, rfl, XA.drop (by simp [leL]) hK⟩
set_option maxRecDepth 20000 in
theorem W_X11_was_24 {scr : ScA}   {y0 : Int32}  {σ : Nat → Nat → Int32} {P : Int32 → (Nat → Nat → Int32) → Prop} (H : P y0 σ) : K_X11_was_24 scr y0 σ P := by
  show XA scr 7 mX11_was 172 4705 24 [none, none, none] [.int y0] (hs σ) (pI P)
  refine XA.blk (e9 := 37) (ok := true) (ls' := [none, none, none]) (st' := [.int y0]) (h' := hs σ) [(.goto 13, 3, 37, 0, 0, 0, 0, 0)] (by decide +kernel) rfl rfl ?_
  exact XA.ret (some (.int y0)) rfl (show ckRt mX11_was 37 .ireturn = true by decide +kernel) trivial (Nat.le_of_ble_eq_true rfl) (Nat.le_of_ble_eq_true rfl) ⟨_, _, rfl, rfl, H⟩
set_option maxRecDepth 20000 in
theorem W_X11_was_32 {scr : ScA}   {y0 : Int32}  {σ : Nat → Nat → Int32} {P : Int32 → (Nat → Nat → Int32) → Prop} (H : P y0 σ) : K_X11_was_32 scr y0 σ P := by
  show XA scr 7 mX11_was 172 4705 32 [none, none, none] [.int y0] (hs σ) (pI P)
  refine XA.blk (e9 := 37) (ok := true) (ls' := [none, none, none]) (st' := [.int y0]) (h' := hs σ) [(.goto 5, 3, 37, 0, 0, 0, 0, 0)] (by decide +kernel) rfl rfl ?_
  exact XA.ret (some (.int y0)) rfl (show ckRt mX11_was 37 .ireturn = true by decide +kernel) trivial (Nat.le_of_ble_eq_true rfl) (Nat.le_of_ble_eq_true rfl) ⟨_, _, rfl, rfl, H⟩
theorem E_X11_was {scr : ScA}  {x1 : Int32} {x2 : Int32} {σ : Nat → Nat → Int32} {P : Int32 → (Nat → Nat → Int32) → Prop} (h : K_X11_was_0 scr x1 x2 σ P) : CiA scr 7 mX11_was [.ref 136, .int x1, .int x2] σ P := CtA.of (by decide) (Nat.le_of_ble_eq_true rfl) (XA.drop (by simp [leL, enL]) h)
def K_X11_askOf_0 (scr : ScA)  (x1 : Int32) (σ : Nat → Nat → Int32) (P : Int32 → (Nat → Nat → Int32) → Prop) : Prop := XA scr 7 mX11_askOf 172 4705 0 [some (.ref 136), some (.int x1), none, none, none, none, none, none, none, none] [] (hs σ) (pI P)
def K_X11_askOf_5 (scr : ScA)  (y0 : Int32) (σ : Nat → Nat → Int32) (P : Int32 → (Nat → Nat → Int32) → Prop) : Prop := XA scr 7 mX11_askOf 172 4705 5 [some (.ref 136), none, none, none, none, none, none, none, none, none] [.int y0] (hs σ) (pI P)
def K_X11_askOf_14 (scr : ScA)  (x2 : Int32) (x3 : Int32) (x4 : Int32) (x5 : Int32) (σ : Nat → Nat → Int32) (P : Int32 → (Nat → Nat → Int32) → Prop) : Prop := XA scr 7 mX11_askOf 172 4705 14 [some (.ref 136), none, some (.int x2), some (.int x3), some (.int x4), some (.int x5), none, none, none, none] [] (hs σ) (pI P)
def K_X11_askOf_27 (scr : ScA)  (x2 : Int32) (x3 : Int32) (x4 : Int32) (x5 : Int32) (x6 : Int32) (x7 : Int32) (σ : Nat → Nat → Int32) (P : Int32 → (Nat → Nat → Int32) → Prop) : Prop := XA scr 7 mX11_askOf 172 4705 27 [some (.ref 136), none, some (.int x2), some (.int x3), some (.int x4), some (.int x5), some (.int x6), some (.int x7), none, none] [] (hs σ) (pI P)
def K_X11_askOf_40 (scr : ScA)  (x2 : Int32) (x3 : Int32) (x4 : Int32) (x5 : Int32) (x6 : Int32) (x7 : Int32) (x8 : Int32) (x9 : Int32) (σ : Nat → Nat → Int32) (P : Int32 → (Nat → Nat → Int32) → Prop) : Prop := XA scr 7 mX11_askOf 172 4705 40 [some (.ref 136), none, some (.int x2), some (.int x3), some (.int x4), some (.int x5), some (.int x6), some (.int x7), some (.int x8), some (.int x9)] [] (hs σ) (pI P)
set_option maxRecDepth 20000 in
theorem W_X11_askOf_0 {scr : ScA}   {x1 : Int32}  {σ : Nat → Nat → Int32} {P : Int32 → (Nat → Nat → Int32) → Prop} (H : CiA scr 6 mX11_strengthsBy [.ref 136, .int x1] σ (fun r9 σ' => K_X11_askOf_5 scr r9 σ' P)) : K_X11_askOf_0 scr x1 σ P := by
  show XA scr 7 mX11_askOf 172 4705 0 [some (.ref 136), some (.int x1), none, none, none, none, none, none, none, none] [] (hs σ) (pI P)
  refine XA.blk (e9 := 2) (ok := true) (ls' := [some (.ref 136), some (.int x1), none, none, none, none, none, none, none, none]) (st' := [.int x1, .ref 136]) (h' := hs σ) [(.aload_n 0, 1, 0, 0, 0, 0, 0, 0), (.iload_n 1, 1, 1, 0, 0, 0, 0, 0)] (by decide +kernel) rfl rfl ?_
  refine XA.callV (as := [.int x1]) (rest := []) (mc' := 0) (ms' := 0) (idx := 317) (t := 1322) cv_X11_strengthsBy (by decide +kernel) rfl rfl rfl (Nat.le_of_ble_eq_true rfl) (Nat.le_of_ble_eq_true rfl) (Nat.le_of_ble_eq_true rfl) (Nat.le_of_ble_eq_true rfl) (H) (fun rv h' hp => ?_)
  obtain ⟨r9, s9, rfl, rfl, hK⟩ := hp
  exact ⟨rfl, rfl, XA.drop (by simp [leL]) hK⟩
set_option maxRecDepth 20000 in
theorem W_X11_askOf_5 {scr : ScA}   {y0 : Int32}  {σ : Nat → Nat → Int32} {P : Int32 → (Nat → Nat → Int32) → Prop} (H : K_X11_askOf_14 scr y0 (-1) 0 0 σ P) : K_X11_askOf_5 scr y0 σ P := by
  show XA scr 7 mX11_askOf 172 4705 5 [some (.ref 136), none, none, none, none, none, none, none, none, none] [.int y0] (hs σ) (pI P)
  refine XA.blk (e9 := 14) (ok := true) (ls' := [some (.ref 136), none, some (.int y0), some (.int (-1)), some (.int 0), some (.int 0), none, none, none, none]) (st' := []) (h' := hs σ) [(.istore_n 2, 1, 2, 0, 0, 0, 0, 0), (.iconst (-1), 1, 0, 0, 0, 0, (-1), 0), (.istore_n 3, 1, 3, 0, 0, 0, 0, 0), (.iconst 0, 1, 0, 0, 0, 0, 0, 0), (.istore 4, 2, 4, 0, 0, 0, 0, 0), (.iconst 0, 1, 0, 0, 0, 0, 0, 0), (.istore 5, 2, 5, 0, 0, 0, 0, 0)] (by decide +kernel) rfl rfl ?_
  exact H
set_option maxRecDepth 20000 in
theorem W_X11_askOf_14 {scr : ScA}   {x2 : Int32} {x3 : Int32} {x4 : Int32} {x5 : Int32}  {σ : Nat → Nat → Int32} {P : Int32 → (Nat → Nat → Int32) → Prop} (H : (24 ≤ x5 → P x3 σ) ∧ (¬ 24 ≤ x5 → K_X11_askOf_27 scr x2 x3 x4 x5 0 1 σ P)) : K_X11_askOf_14 scr x2 x3 x4 x5 σ P := by
  show XA scr 7 mX11_askOf 172 4705 14 [some (.ref 136), none, some (.int x2), some (.int x3), some (.int x4), some (.int x5), none, none, none, none] [] (hs σ) (pI P)
  refine XA.blk (e9 := 18) (ok := true) (ls' := [some (.ref 136), none, some (.int x2), some (.int x3), some (.int x4), some (.int x5), none, none, none, none]) (st' := [.int 24, .int x5]) (h' := hs σ) [(.iload 5, 2, 5, 0, 0, 0, 0, 0), (.bipush 24, 2, 0, 0, 0, 0, 24, 0)] (by decide +kernel) rfl rfl ?_
  refine XA.icmp_ge (165) 183 (by decide +kernel) (fun c1 => ?_) (fun c1 => ?_)
  · have H := H.1 c1
    refine XA.blk (e9 := 184) (ok := true) (ls' := [some (.ref 136), none, some (.int x2), some (.int x3), some (.int x4), some (.int x5), none, none, none, none]) (st' := [.int x3]) (h' := hs σ) [(.iload_n 3, 1, 3, 0, 0, 0, 0, 0)] (by decide +kernel) rfl rfl ?_
    exact XA.ret (some (.int x3)) rfl (show ckRt mX11_askOf 184 .ireturn = true by decide +kernel) trivial (Nat.le_of_ble_eq_true rfl) (Nat.le_of_ble_eq_true rfl) ⟨_, _, rfl, rfl, H⟩
  · have H := H.2 c1
    refine XA.blk (e9 := 27) (ok := true) (ls' := [some (.ref 136), none, some (.int x2), some (.int x3), some (.int x4), some (.int x5), some (.int 0), some (.int 1), none, none]) (st' := []) (h' := hs σ) [(.iconst 0, 1, 0, 0, 0, 0, 0, 0), (.istore 6, 2, 6, 0, 0, 0, 0, 0), (.iconst 1, 1, 0, 0, 0, 0, 1, 0), (.istore 7, 2, 7, 0, 0, 0, 0, 0)] (by decide +kernel) rfl rfl ?_
    exact H
set_option maxRecDepth 20000 in
theorem W_X11_askOf_27 {scr : ScA}   {x2 : Int32} {x3 : Int32} {x4 : Int32} {x5 : Int32} {x6 : Int32} {x7 : Int32}  {σ : Nat → Nat → Int32} {P : Int32 → (Nat → Nat → Int32) → Prop} (H : (10 ≤ x7 → K_X11_askOf_14 scr x2 (if (if x3 = (-1) then 1 else (if x4 ≤ x6 then 0 else 1 : Int32) : Int32) = 0 then x3 else x5 : Int32) (if (if x3 = (-1) then 1 else (if x4 ≤ x6 then 0 else 1 : Int32) : Int32) = 0 then x4 else x6 : Int32) (x5 + 1) σ P) ∧ (¬ 10 ≤ x7 → K_X11_askOf_40 scr x2 x3 x4 x5 x6 x7 0 1 σ P)) : K_X11_askOf_27 scr x2 x3 x4 x5 x6 x7 σ P := by
  show XA scr 7 mX11_askOf 172 4705 27 [some (.ref 136), none, some (.int x2), some (.int x3), some (.int x4), some (.int x5), some (.int x6), some (.int x7), none, none] [] (hs σ) (pI P)
  refine XA.blk (e9 := 31) (ok := true) (ls' := [some (.ref 136), none, some (.int x2), some (.int x3), some (.int x4), some (.int x5), some (.int x6), some (.int x7), none, none]) (st' := [.int 10, .int x7]) (h' := hs σ) [(.iload 7, 2, 7, 0, 0, 0, 0, 0), (.bipush 10, 2, 0, 0, 0, 0, 10, 0)] (by decide +kernel) rfl rfl ?_
  refine XA.icmp_ge (101) 132 (by decide +kernel) (fun c1 => ?_) (fun c1 => ?_)
  · have H := H.1 c1
    refine XA.blk (e9 := 134) (ok := true) (ls' := [some (.ref 136), none, some (.int x2), some (.int x3), some (.int x4), some (.int x5), some (.int x6), some (.int x7), none, none]) (st' := [.int (-1), .int x3]) (h' := hs σ) [(.iload_n 3, 1, 3, 0, 0, 0, 0, 0), (.iconst (-1), 1, 0, 0, 0, 0, (-1), 0)] (by decide +kernel) rfl rfl ?_
    have hJ134 : XA scr 7 mX11_askOf 172 4705 149 [some (.ref 136), none, some (.int x2), some (.int x3), some (.int x4), some (.int x5), some (.int x6), none, none, none] [.int (if x3 = (-1) then 1 else (if x4 ≤ x6 then 0 else 1 : Int32) : Int32)] (hs σ) (pI P) := by
      refine XA.blk (e9 := 153) (ok := true) (ls' := [some (.ref 136), none, some (.int x2), some (.int x3), some (.int x4), some (.int x5), some (.int x6), some (.int (if x3 = (-1) then 1 else (if x4 ≤ x6 then 0 else 1 : Int32) : Int32)), none, none]) (st' := [.int (if x3 = (-1) then 1 else (if x4 ≤ x6 then 0 else 1 : Int32) : Int32)]) (h' := hs σ) [(.istore 7, 2, 7, 0, 0, 0, 0, 0), (.iload 7, 2, 7, 0, 0, 0, 0, 0)] (by decide +kernel) rfl rfl ?_
      have hJ153 : XA scr 7 mX11_askOf 172 4705 162 [some (.ref 136), none, some (.int x2), none, some (.int x4), some (.int x5), some (.int x6), some (.int (if x3 = (-1) then 1 else (if x4 ≤ x6 then 0 else 1 : Int32) : Int32)), none, none] [.int (if (if x3 = (-1) then 1 else (if x4 ≤ x6 then 0 else 1 : Int32) : Int32) = 0 then x3 else x5 : Int32)] (hs σ) (pI P) := by
        refine XA.blk (e9 := 165) (ok := true) (ls' := [some (.ref 136), none, some (.int x2), some (.int (if (if x3 = (-1) then 1 else (if x4 ≤ x6 then 0 else 1 : Int32) : Int32) = 0 then x3 else x5 : Int32)), some (.int x4), some (.int x5), some (.int x6), some (.int (if x3 = (-1) then 1 else (if x4 ≤ x6 then 0 else 1 : Int32) : Int32)), none, none]) (st' := [.int (if x3 = (-1) then 1 else (if x4 ≤ x6 then 0 else 1 : Int32) : Int32)]) (h' := hs σ) [(.istore_n 3, 1, 3, 0, 0, 0, 0, 0), (.iload 7, 2, 7, 0, 0, 0, 0, 0)] (by decide +kernel) rfl rfl ?_
        have hJ165 : XA scr 7 mX11_askOf 172 4705 175 [some (.ref 136), none, some (.int x2), some (.int (if (if x3 = (-1) then 1 else (if x4 ≤ x6 then 0 else 1 : Int32) : Int32) = 0 then x3 else x5 : Int32)), none, some (.int x5), none, none, none, none] [.int (if (if x3 = (-1) then 1 else (if x4 ≤ x6 then 0 else 1 : Int32) : Int32) = 0 then x4 else x6 : Int32)] (hs σ) (pI P) := by
          refine XA.blk (e9 := 14) (ok := true) (ls' := [some (.ref 136), none, some (.int x2), some (.int (if (if x3 = (-1) then 1 else (if x4 ≤ x6 then 0 else 1 : Int32) : Int32) = 0 then x3 else x5 : Int32)), some (.int (if (if x3 = (-1) then 1 else (if x4 ≤ x6 then 0 else 1 : Int32) : Int32) = 0 then x4 else x6 : Int32)), some (.int (x5 + 1)), none, none, none, none]) (st' := []) (h' := hs σ) [(.istore 4, 2, 4, 0, 0, 0, 0, 0), (.iinc 5 1, 3, 5, 0, 0, 0, 1, 0), (.goto (-166), 3, 14, 0, 0, 0, 0, 0)] (by decide +kernel) rfl rfl ?_
          exact H
        refine XA.if_eq (8) 173 (by decide +kernel) (fun c2 => ?_) (fun c2 => ?_)
        · refine XA.blk (e9 := 175) (ok := true) (ls' := [some (.ref 136), none, some (.int x2), some (.int (if (if x3 = (-1) then 1 else (if x4 ≤ x6 then 0 else 1 : Int32) : Int32) = 0 then x3 else x5 : Int32)), some (.int x4), some (.int x5), some (.int x6), some (.int (if x3 = (-1) then 1 else (if x4 ≤ x6 then 0 else 1 : Int32) : Int32)), none, none]) (st' := [.int x4]) (h' := hs σ) [(.iload 4, 2, 4, 0, 0, 0, 0, 0)] (by decide +kernel) rfl rfl ?_
          refine XA.drop (ls := [some (.ref 136), none, some (.int x2), some (.int (if (if x3 = (-1) then 1 else (if x4 ≤ x6 then 0 else 1 : Int32) : Int32) = 0 then x3 else x5 : Int32)), none, some (.int x5), none, none, none, none]) (by simp [leL]) ?_
          simpa only [if_pos c2] using hJ165
        · refine XA.blk (e9 := 175) (ok := true) (ls' := [some (.ref 136), none, some (.int x2), some (.int (if (if x3 = (-1) then 1 else (if x4 ≤ x6 then 0 else 1 : Int32) : Int32) = 0 then x3 else x5 : Int32)), some (.int x4), some (.int x5), some (.int x6), some (.int (if x3 = (-1) then 1 else (if x4 ≤ x6 then 0 else 1 : Int32) : Int32)), none, none]) (st' := [.int x6]) (h' := hs σ) [(.iload 6, 2, 6, 0, 0, 0, 0, 0), (.goto 5, 3, 175, 0, 0, 0, 0, 0)] (by decide +kernel) rfl rfl ?_
          refine XA.drop (ls := [some (.ref 136), none, some (.int x2), some (.int (if (if x3 = (-1) then 1 else (if x4 ≤ x6 then 0 else 1 : Int32) : Int32) = 0 then x3 else x5 : Int32)), none, some (.int x5), none, none, none, none]) (by simp [leL]) ?_
          simpa only [if_neg c2] using hJ165
      refine XA.if_eq (8) 161 (by decide +kernel) (fun c2 => ?_) (fun c2 => ?_)
      · refine XA.blk (e9 := 162) (ok := true) (ls' := [some (.ref 136), none, some (.int x2), some (.int x3), some (.int x4), some (.int x5), some (.int x6), some (.int (if x3 = (-1) then 1 else (if x4 ≤ x6 then 0 else 1 : Int32) : Int32)), none, none]) (st' := [.int x3]) (h' := hs σ) [(.iload_n 3, 1, 3, 0, 0, 0, 0, 0)] (by decide +kernel) rfl rfl ?_
        refine XA.drop (ls := [some (.ref 136), none, some (.int x2), none, some (.int x4), some (.int x5), some (.int x6), some (.int (if x3 = (-1) then 1 else (if x4 ≤ x6 then 0 else 1 : Int32) : Int32)), none, none]) (by simp [leL]) ?_
        simpa only [if_pos c2] using hJ153
      · refine XA.blk (e9 := 162) (ok := true) (ls' := [some (.ref 136), none, some (.int x2), some (.int x3), some (.int x4), some (.int x5), some (.int x6), some (.int (if x3 = (-1) then 1 else (if x4 ≤ x6 then 0 else 1 : Int32) : Int32)), none, none]) (st' := [.int x5]) (h' := hs σ) [(.iload 5, 2, 5, 0, 0, 0, 0, 0), (.goto 4, 3, 162, 0, 0, 0, 0, 0)] (by decide +kernel) rfl rfl ?_
        refine XA.drop (ls := [some (.ref 136), none, some (.int x2), none, some (.int x4), some (.int x5), some (.int x6), some (.int (if x3 = (-1) then 1 else (if x4 ≤ x6 then 0 else 1 : Int32) : Int32)), none, none]) (by simp [leL]) ?_
        simpa only [if_neg c2] using hJ153
    refine XA.icmp_eq (10) 144 (by decide +kernel) (fun c2 => ?_) (fun c2 => ?_)
    · refine XA.blk (e9 := 149) (ok := true) (ls' := [some (.ref 136), none, some (.int x2), some (.int x3), some (.int x4), some (.int x5), some (.int x6), some (.int x7), none, none]) (st' := [.int 1]) (h' := hs σ) [(.iconst 1, 1, 0, 0, 0, 0, 1, 0), (.goto 4, 3, 149, 0, 0, 0, 0, 0)] (by decide +kernel) rfl rfl ?_
      refine XA.drop (ls := [some (.ref 136), none, some (.int x2), some (.int x3), some (.int x4), some (.int x5), some (.int x6), none, none, none]) (by simp [leL]) ?_
      simpa only [if_pos c2] using hJ134
    · refine XA.blk (e9 := 141) (ok := true) (ls' := [some (.ref 136), none, some (.int x2), some (.int x3), some (.int x4), some (.int x5), some (.int x6), some (.int x7), none, none]) (st' := [.int x4, .int x6]) (h' := hs σ) [(.iload 6, 2, 6, 0, 0, 0, 0, 0), (.iload 4, 2, 4, 0, 0, 0, 0, 0)] (by decide +kernel) rfl rfl ?_
      have hJ141 : XA scr 7 mX11_askOf 172 4705 149 [some (.ref 136), none, some (.int x2), some (.int x3), some (.int x4), some (.int x5), some (.int x6), none, none, none] [.int (if x4 ≤ x6 then 0 else 1 : Int32)] (hs σ) (pI P) := by
        simpa only [if_neg c2] using hJ134
      refine XA.icmp_ge (7) 148 (by decide +kernel) (fun c3 => ?_) (fun c3 => ?_)
      · refine XA.blk (e9 := 149) (ok := true) (ls' := [some (.ref 136), none, some (.int x2), some (.int x3), some (.int x4), some (.int x5), some (.int x6), some (.int x7), none, none]) (st' := [.int 0]) (h' := hs σ) [(.iconst 0, 1, 0, 0, 0, 0, 0, 0)] (by decide +kernel) rfl rfl ?_
        refine XA.drop (ls := [some (.ref 136), none, some (.int x2), some (.int x3), some (.int x4), some (.int x5), some (.int x6), none, none, none]) (by simp [leL]) ?_
        simpa only [if_pos c3] using hJ141
      · refine XA.blk (e9 := 149) (ok := true) (ls' := [some (.ref 136), none, some (.int x2), some (.int x3), some (.int x4), some (.int x5), some (.int x6), some (.int x7), none, none]) (st' := [.int 1]) (h' := hs σ) [(.iconst 1, 1, 0, 0, 0, 0, 1, 0), (.goto 4, 3, 149, 0, 0, 0, 0, 0)] (by decide +kernel) rfl rfl ?_
        refine XA.drop (ls := [some (.ref 136), none, some (.int x2), some (.int x3), some (.int x4), some (.int x5), some (.int x6), none, none, none]) (by simp [leL]) ?_
        simpa only [if_neg c3] using hJ141
  · have H := H.2 c1
    refine XA.blk (e9 := 40) (ok := true) (ls' := [some (.ref 136), none, some (.int x2), some (.int x3), some (.int x4), some (.int x5), some (.int x6), some (.int x7), some (.int 0), some (.int 1)]) (st' := []) (h' := hs σ) [(.iconst 0, 1, 0, 0, 0, 0, 0, 0), (.istore 8, 2, 8, 0, 0, 0, 0, 0), (.iconst 1, 1, 0, 0, 0, 0, 1, 0), (.istore 9, 2, 9, 0, 0, 0, 0, 0)] (by decide +kernel) rfl rfl ?_
    exact H
set_option maxRecDepth 20000 in
theorem W_X11_askOf_40 {scr : ScA}   {x2 : Int32} {x3 : Int32} {x4 : Int32} {x5 : Int32} {x6 : Int32} {x7 : Int32} {x8 : Int32} {x9 : Int32}  {σ : Nat → Nat → Int32} {P : Int32 → (Nat → Nat → Int32) → Prop} (H : (10 ≤ x9 → K_X11_askOf_27 scr x2 x3 x4 x5 (if x8 ≤ x6 then x6 else x8 : Int32) (x7 + 1) σ P) ∧ (¬ 10 ≤ x9 → (¬ (iiV x2 x7) = 0 → (¬ (iiV x2 x9) = 0 → (inB ((24 * x7) + x5) 240 = true) ∧ (inB ((24 * x9) + x5) 240 = true))) ∧ (K_X11_askOf_40 scr x2 x3 x4 x5 x6 x7 (x8 + (if (iiV x2 x7) = 0 then 0 else (if (iiV x2 x9) = 0 then 0 else (if ¬ (σ 166 (Int32.toNatClampNeg ((24 * x7) + x5))) = (σ 166 (Int32.toNatClampNeg ((24 * x9) + x5))) then 0 else 1 : Int32) : Int32) : Int32)) (x9 + 1) σ P))) : K_X11_askOf_40 scr x2 x3 x4 x5 x6 x7 x8 x9 σ P := by
  show XA scr 7 mX11_askOf 172 4705 40 [some (.ref 136), none, some (.int x2), some (.int x3), some (.int x4), some (.int x5), some (.int x6), some (.int x7), some (.int x8), some (.int x9)] [] (hs σ) (pI P)
  refine XA.blk (e9 := 44) (ok := true) (ls' := [some (.ref 136), none, some (.int x2), some (.int x3), some (.int x4), some (.int x5), some (.int x6), some (.int x7), some (.int x8), some (.int x9)]) (st' := [.int 10, .int x9]) (h' := hs σ) [(.iload 9, 2, 9, 0, 0, 0, 0, 0), (.bipush 10, 2, 0, 0, 0, 0, 10, 0)] (by decide +kernel) rfl rfl ?_
  refine XA.icmp_ge (66) 110 (by decide +kernel) (fun c1 => ?_) (fun c1 => ?_)
  · have H := H.1 c1
    refine XA.blk (e9 := 114) (ok := true) (ls' := [some (.ref 136), none, some (.int x2), some (.int x3), some (.int x4), some (.int x5), some (.int x6), some (.int x7), some (.int x8), some (.int x9)]) (st' := [.int x6, .int x8]) (h' := hs σ) [(.iload 8, 2, 8, 0, 0, 0, 0, 0), (.iload 6, 2, 6, 0, 0, 0, 0, 0)] (by decide +kernel) rfl rfl ?_
    have hJ114 : XA scr 7 mX11_askOf 172 4705 124 [some (.ref 136), none, some (.int x2), some (.int x3), some (.int x4), some (.int x5), none, some (.int x7), none, none] [.int (if x8 ≤ x6 then x6 else x8 : Int32)] (hs σ) (pI P) := by
      refine XA.blk (e9 := 27) (ok := true) (ls' := [some (.ref 136), none, some (.int x2), some (.int x3), some (.int x4), some (.int x5), some (.int (if x8 ≤ x6 then x6 else x8 : Int32)), some (.int (x7 + 1)), none, none]) (st' := []) (h' := hs σ) [(.istore 6, 2, 6, 0, 0, 0, 0, 0), (.iinc 7 1, 3, 7, 0, 0, 0, 1, 0), (.goto (-102), 3, 27, 0, 0, 0, 0, 0)] (by decide +kernel) rfl rfl ?_
      exact H
    refine XA.icmp_le (8) 122 (by decide +kernel) (fun c2 => ?_) (fun c2 => ?_)
    · refine XA.blk (e9 := 124) (ok := true) (ls' := [some (.ref 136), none, some (.int x2), some (.int x3), some (.int x4), some (.int x5), some (.int x6), some (.int x7), some (.int x8), some (.int x9)]) (st' := [.int x6]) (h' := hs σ) [(.iload 6, 2, 6, 0, 0, 0, 0, 0)] (by decide +kernel) rfl rfl ?_
      refine XA.drop (ls := [some (.ref 136), none, some (.int x2), some (.int x3), some (.int x4), some (.int x5), none, some (.int x7), none, none]) (by simp [leL]) ?_
      simpa only [if_pos c2] using hJ114
    · refine XA.blk (e9 := 124) (ok := true) (ls' := [some (.ref 136), none, some (.int x2), some (.int x3), some (.int x4), some (.int x5), some (.int x6), some (.int x7), some (.int x8), some (.int x9)]) (st' := [.int x8]) (h' := hs σ) [(.iload 8, 2, 8, 0, 0, 0, 0, 0), (.goto 5, 3, 124, 0, 0, 0, 0, 0)] (by decide +kernel) rfl rfl ?_
      refine XA.drop (ls := [some (.ref 136), none, some (.int x2), some (.int x3), some (.int x4), some (.int x5), none, some (.int x7), none, none]) (by simp [leL]) ?_
      simpa only [if_neg c2] using hJ114
  · have H := H.2 c1
    refine XA.blk (e9 := 52) (ok := true) (ls' := [some (.ref 136), none, some (.int x2), some (.int x3), some (.int x4), some (.int x5), some (.int x6), some (.int x7), some (.int x8), some (.int x9)]) (st' := [.int x7, .int x2, .int x8]) (h' := hs σ) [(.iload 8, 2, 8, 0, 0, 0, 0, 0), (.iload_n 2, 1, 2, 0, 0, 0, 0, 0), (.iload 7, 2, 7, 0, 0, 0, 0, 0)] (by decide +kernel) rfl rfl ?_
    refine XA.callS (as := [.int x2, .int x7]) (rest := [.int x8]) (mc' := 0) (ms' := 0) (idx := 186) (t := 1161) cs_X11_isIn (by decide +kernel) rfl rfl (Nat.le_of_ble_eq_true rfl) (Nat.le_of_ble_eq_true rfl) (Nat.le_of_ble_eq_true rfl) (Nat.le_of_ble_eq_true rfl) (pu_X11_isIn scr σ x2 x7) (fun rv h' hp => ?_)
    obtain ⟨rfl, rfl⟩ := hp
    refine ⟨rfl, rfl, ?_⟩
    show XA scr 7 mX11_askOf 172 4705 55 [some (.ref 136), none, some (.int x2), some (.int x3), some (.int x4), some (.int x5), some (.int x6), some (.int x7), some (.int x8), some (.int x9)] [.int (iiV x2 x7), .int x8] (hs σ) (pI P)
    obtain ⟨hF55, H⟩ := H
    have hJ55 : XA scr 7 mX11_askOf 172 4705 101 [some (.ref 136), none, some (.int x2), some (.int x3), some (.int x4), some (.int x5), some (.int x6), some (.int x7), none, some (.int x9)] [.int (if (iiV x2 x7) = 0 then 0 else (if (iiV x2 x9) = 0 then 0 else (if ¬ (σ 166 (Int32.toNatClampNeg ((24 * x7) + x5))) = (σ 166 (Int32.toNatClampNeg ((24 * x9) + x5))) then 0 else 1 : Int32) : Int32) : Int32), .int x8] (hs σ) (pI P) := by
      refine XA.blk (e9 := 40) (ok := true) (ls' := [some (.ref 136), none, some (.int x2), some (.int x3), some (.int x4), some (.int x5), some (.int x6), some (.int x7), some (.int (x8 + (if (iiV x2 x7) = 0 then 0 else (if (iiV x2 x9) = 0 then 0 else (if ¬ (σ 166 (Int32.toNatClampNeg ((24 * x7) + x5))) = (σ 166 (Int32.toNatClampNeg ((24 * x9) + x5))) then 0 else 1 : Int32) : Int32) : Int32))), some (.int (x9 + 1))]) (st' := []) (h' := hs σ) [(.iadd, 1, 0, 0, 0, 0, 0, 0), (.istore 8, 2, 8, 0, 0, 0, 0, 0), (.iinc 9 1, 3, 9, 0, 0, 0, 1, 0), (.goto (-67), 3, 40, 0, 0, 0, 0, 0)] (by decide +kernel) rfl rfl ?_
      exact H
    refine XA.if_eq (45) 100 (by decide +kernel) (fun c2 => ?_) (fun c2 => ?_)
    · refine XA.blk (e9 := 101) (ok := true) (ls' := [some (.ref 136), none, some (.int x2), some (.int x3), some (.int x4), some (.int x5), some (.int x6), some (.int x7), some (.int x8), some (.int x9)]) (st' := [.int 0, .int x8]) (h' := hs σ) [(.iconst 0, 1, 0, 0, 0, 0, 0, 0)] (by decide +kernel) rfl rfl ?_
      refine XA.drop (ls := [some (.ref 136), none, some (.int x2), some (.int x3), some (.int x4), some (.int x5), some (.int x6), some (.int x7), none, some (.int x9)]) (by simp [leL]) ?_
      simpa only [if_pos c2] using hJ55
    · have H := hF55 c2
      refine XA.blk (e9 := 61) (ok := true) (ls' := [some (.ref 136), none, some (.int x2), some (.int x3), some (.int x4), some (.int x5), some (.int x6), some (.int x7), some (.int x8), some (.int x9)]) (st' := [.int x9, .int x2, .int x8]) (h' := hs σ) [(.iload_n 2, 1, 2, 0, 0, 0, 0, 0), (.iload 9, 2, 9, 0, 0, 0, 0, 0)] (by decide +kernel) rfl rfl ?_
      refine XA.callS (as := [.int x2, .int x9]) (rest := [.int x8]) (mc' := 0) (ms' := 0) (idx := 186) (t := 1161) cs_X11_isIn (by decide +kernel) rfl rfl (Nat.le_of_ble_eq_true rfl) (Nat.le_of_ble_eq_true rfl) (Nat.le_of_ble_eq_true rfl) (Nat.le_of_ble_eq_true rfl) (pu_X11_isIn scr σ x2 x9) (fun rv h' hp => ?_)
      obtain ⟨rfl, rfl⟩ := hp
      refine ⟨rfl, rfl, ?_⟩
      show XA scr 7 mX11_askOf 172 4705 64 [some (.ref 136), none, some (.int x2), some (.int x3), some (.int x4), some (.int x5), some (.int x6), some (.int x7), some (.int x8), some (.int x9)] [.int (iiV x2 x9), .int x8] (hs σ) (pI P)
      have hF64 := H
      have hJ64 : XA scr 7 mX11_askOf 172 4705 101 [some (.ref 136), none, some (.int x2), some (.int x3), some (.int x4), some (.int x5), some (.int x6), some (.int x7), none, some (.int x9)] [.int (if (iiV x2 x9) = 0 then 0 else (if ¬ (σ 166 (Int32.toNatClampNeg ((24 * x7) + x5))) = (σ 166 (Int32.toNatClampNeg ((24 * x9) + x5))) then 0 else 1 : Int32) : Int32), .int x8] (hs σ) (pI P) := by
        simpa only [if_neg c2] using hJ55
      refine XA.if_eq (36) 100 (by decide +kernel) (fun c3 => ?_) (fun c3 => ?_)
      · refine XA.blk (e9 := 101) (ok := true) (ls' := [some (.ref 136), none, some (.int x2), some (.int x3), some (.int x4), some (.int x5), some (.int x6), some (.int x7), some (.int x8), some (.int x9)]) (st' := [.int 0, .int x8]) (h' := hs σ) [(.iconst 0, 1, 0, 0, 0, 0, 0, 0)] (by decide +kernel) rfl rfl ?_
        refine XA.drop (ls := [some (.ref 136), none, some (.int x2), some (.int x3), some (.int x4), some (.int x5), some (.int x6), some (.int x7), none, some (.int x9)]) (by simp [leL]) ?_
        simpa only [if_pos c3] using hJ64
      · have H := hF64 c3
        obtain ⟨o1, o2⟩ := H
        refine XA.blk (e9 := 93) (ok := inB ((24 * x7) + x5) 240 && (inB ((24 * x9) + x5) 240 && (true))) (ls' := [some (.ref 136), none, some (.int x2), some (.int x3), some (.int x4), some (.int x5), some (.int x6), some (.int x7), some (.int x8), some (.int x9)]) (st' := [.int (σ 166 (Int32.toNatClampNeg ((24 * x9) + x5))), .int (σ 166 (Int32.toNatClampNeg ((24 * x7) + x5))), .int x8]) (h' := hs σ) [(.aload_n 0, 1, 0, 0, 0, 0, 0, 0), (.getfield 97, 3, 11, 47, 31, 940, 0, 0), (.bipush 24, 2, 0, 0, 0, 0, 24, 0), (.iload 7, 2, 7, 0, 0, 0, 0, 0), (.imul, 1, 0, 0, 0, 0, 0, 0), (.iload 5, 2, 5, 0, 0, 0, 0, 0), (.iadd, 1, 0, 0, 0, 0, 0, 0), (.iaload, 1, 0, 0, 0, 0, 0, 0), (.aload_n 0, 1, 0, 0, 0, 0, 0, 0), (.getfield 97, 3, 11, 47, 31, 940, 0, 0), (.bipush 24, 2, 0, 0, 0, 0, 24, 0), (.iload 9, 2, 9, 0, 0, 0, 0, 0), (.imul, 1, 0, 0, 0, 0, 0, 0), (.iload 5, 2, 5, 0, 0, 0, 0, 0), (.iadd, 1, 0, 0, 0, 0, 0, 0), (.iaload, 1, 0, 0, 0, 0, 0, 0)] (by decide +kernel) rfl (by simp only [o1, o2, Bool.and_true, Bool.true_and]) ?_
        have hJ93 : XA scr 7 mX11_askOf 172 4705 101 [some (.ref 136), none, some (.int x2), some (.int x3), some (.int x4), some (.int x5), some (.int x6), some (.int x7), none, some (.int x9)] [.int (if ¬ (σ 166 (Int32.toNatClampNeg ((24 * x7) + x5))) = (σ 166 (Int32.toNatClampNeg ((24 * x9) + x5))) then 0 else 1 : Int32), .int x8] (hs σ) (pI P) := by
          simpa only [if_neg c3] using hJ64
        refine XA.icmp_ne (7) 100 (by decide +kernel) (fun c4 => ?_) (fun c4 => ?_)
        · refine XA.blk (e9 := 101) (ok := true) (ls' := [some (.ref 136), none, some (.int x2), some (.int x3), some (.int x4), some (.int x5), some (.int x6), some (.int x7), some (.int x8), some (.int x9)]) (st' := [.int 0, .int x8]) (h' := hs σ) [(.iconst 0, 1, 0, 0, 0, 0, 0, 0)] (by decide +kernel) rfl rfl ?_
          refine XA.drop (ls := [some (.ref 136), none, some (.int x2), some (.int x3), some (.int x4), some (.int x5), some (.int x6), some (.int x7), none, some (.int x9)]) (by simp [leL]) ?_
          simpa only [if_pos c4] using hJ93
        · refine XA.blk (e9 := 101) (ok := true) (ls' := [some (.ref 136), none, some (.int x2), some (.int x3), some (.int x4), some (.int x5), some (.int x6), some (.int x7), some (.int x8), some (.int x9)]) (st' := [.int 1, .int x8]) (h' := hs σ) [(.iconst 1, 1, 0, 0, 0, 0, 1, 0), (.goto 4, 3, 101, 0, 0, 0, 0, 0)] (by decide +kernel) rfl rfl ?_
          refine XA.drop (ls := [some (.ref 136), none, some (.int x2), some (.int x3), some (.int x4), some (.int x5), some (.int x6), some (.int x7), none, some (.int x9)]) (by simp [leL]) ?_
          simpa only [if_neg (not_not_intro c4)] using hJ93
theorem E_X11_askOf {scr : ScA}  {x1 : Int32} {σ : Nat → Nat → Int32} {P : Int32 → (Nat → Nat → Int32) → Prop} (h : K_X11_askOf_0 scr x1 σ P) : CiA scr 7 mX11_askOf [.ref 136, .int x1] σ P := CtA.of (by decide) (Nat.le_of_ble_eq_true rfl) (XA.drop (by simp [leL, enL]) h)
def K_X11_ask_0 (scr : ScA)  (x1 : Int32) (σ : Nat → Nat → Int32) (P : Int32 → (Nat → Nat → Int32) → Prop) : Prop := XA scr 8 mX11_ask 172 4705 0 [some (.ref 136), some (.int x1)] [] (hs σ) (pI P)
def K_X11_ask_5 (scr : ScA)  (x1 : Int32) (y0 : Int32) (σ : Nat → Nat → Int32) (P : Int32 → (Nat → Nat → Int32) → Prop) : Prop := XA scr 8 mX11_ask 172 4705 5 [some (.ref 136), some (.int x1)] [.int y0] (hs σ) (pI P)
def K_X11_ask_13 (scr : ScA)  (y0 : Int32) (σ : Nat → Nat → Int32) (P : Int32 → (Nat → Nat → Int32) → Prop) : Prop := XA scr 8 mX11_ask 172 4705 13 [none, none] [.int y0] (hs σ) (pI P)
set_option maxRecDepth 20000 in
theorem W_X11_ask_0 {scr : ScA}   {x1 : Int32}  {σ : Nat → Nat → Int32} {P : Int32 → (Nat → Nat → Int32) → Prop} (H : CiA scr 5 mX11_isAcrobat [.ref 136, .int x1] σ (fun r9 σ' => K_X11_ask_5 scr x1 r9 σ' P)) : K_X11_ask_0 scr x1 σ P := by
  show XA scr 8 mX11_ask 172 4705 0 [some (.ref 136), some (.int x1)] [] (hs σ) (pI P)
  refine XA.blk (e9 := 2) (ok := true) (ls' := [some (.ref 136), some (.int x1)]) (st' := [.int x1, .ref 136]) (h' := hs σ) [(.aload_n 0, 1, 0, 0, 0, 0, 0, 0), (.iload_n 1, 1, 1, 0, 0, 0, 0, 0)] (by decide +kernel) rfl rfl ?_
  refine XA.callV (as := [.int x1]) (rest := []) (mc' := 0) (ms' := 0) (idx := 155) (t := 1102) cv_X11_isAcrobat (by decide +kernel) rfl rfl rfl (Nat.le_of_ble_eq_true rfl) (Nat.le_of_ble_eq_true rfl) (Nat.le_of_ble_eq_true rfl) (Nat.le_of_ble_eq_true rfl) (H) (fun rv h' hp => ?_)
  obtain ⟨r9, s9, rfl, rfl, hK⟩ := hp
  exact ⟨rfl, rfl, hK⟩
set_option maxRecDepth 20000 in
theorem W_X11_ask_5 {scr : ScA}   {x1 : Int32} {y0 : Int32}  {σ : Nat → Nat → Int32} {P : Int32 → (Nat → Nat → Int32) → Prop} (H : (y0 = 0 → P (-2) σ) ∧ (¬ y0 = 0 → CiA scr 7 mX11_askOf [.ref 136, .int x1] σ (fun r9 σ' => K_X11_ask_13 scr r9 σ' P))) : K_X11_ask_5 scr x1 y0 σ P := by
  show XA scr 8 mX11_ask 172 4705 5 [some (.ref 136), some (.int x1)] [.int y0] (hs σ) (pI P)
  refine XA.if_eq (11) 16 (by decide +kernel) (fun c1 => ?_) (fun c1 => ?_)
  · have H := H.1 c1
    refine XA.blk (e9 := 18) (ok := true) (ls' := [some (.ref 136), some (.int x1)]) (st' := [.int (-2)]) (h' := hs σ) [(.bipush (-2), 2, 0, 0, 0, 0, (-2), 0)] (by decide +kernel) rfl rfl ?_
    exact XA.ret (some (.int (-2))) rfl (show ckRt mX11_ask 18 .ireturn = true by decide +kernel) trivial (Nat.le_of_ble_eq_true rfl) (Nat.le_of_ble_eq_true rfl) ⟨_, _, rfl, rfl, H⟩
  · have H := H.2 c1
    refine XA.blk (e9 := 10) (ok := true) (ls' := [some (.ref 136), some (.int x1)]) (st' := [.int x1, .ref 136]) (h' := hs σ) [(.aload_n 0, 1, 0, 0, 0, 0, 0, 0), (.iload_n 1, 1, 1, 0, 0, 0, 0, 0)] (by decide +kernel) rfl rfl ?_
    refine XA.callV (as := [.int x1]) (rest := []) (mc' := 0) (ms' := 0) (idx := 323) (t := 1334) cv_X11_askOf (by decide +kernel) rfl rfl rfl (Nat.le_of_ble_eq_true rfl) (Nat.le_of_ble_eq_true rfl) (Nat.le_of_ble_eq_true rfl) (Nat.le_of_ble_eq_true rfl) (H) (fun rv h' hp => ?_)
    obtain ⟨r9, s9, rfl, rfl, hK⟩ := hp
    exact ⟨rfl, rfl, XA.drop (by simp [leL]) hK⟩
set_option maxRecDepth 20000 in
theorem W_X11_ask_13 {scr : ScA}   {y0 : Int32}  {σ : Nat → Nat → Int32} {P : Int32 → (Nat → Nat → Int32) → Prop} (H : P y0 σ) : K_X11_ask_13 scr y0 σ P := by
  show XA scr 8 mX11_ask 172 4705 13 [none, none] [.int y0] (hs σ) (pI P)
  refine XA.blk (e9 := 18) (ok := true) (ls' := [none, none]) (st' := [.int y0]) (h' := hs σ) [(.goto 5, 3, 18, 0, 0, 0, 0, 0)] (by decide +kernel) rfl rfl ?_
  exact XA.ret (some (.int y0)) rfl (show ckRt mX11_ask 18 .ireturn = true by decide +kernel) trivial (Nat.le_of_ble_eq_true rfl) (Nat.le_of_ble_eq_true rfl) ⟨_, _, rfl, rfl, H⟩
theorem E_X11_ask {scr : ScA}  {x1 : Int32} {σ : Nat → Nat → Int32} {P : Int32 → (Nat → Nat → Int32) → Prop} (h : K_X11_ask_0 scr x1 σ P) : CiA scr 8 mX11_ask [.ref 136, .int x1] σ P := CtA.of (by decide) (Nat.le_of_ble_eq_true rfl) (XA.drop (by simp [leL, enL]) h)
def K_X11_chanceOf_0 (scr : ScA)  (x1 : Int32) (x2 : Int32) (x3 : Int32) (σ : Nat → Nat → Int32) (P : Int64 → (Nat → Nat → Int32) → Prop) : Prop := XA scr 6 mX11_chanceOf 172 4705 0 [some (.ref 136), some (.int x1), some (.int x2), some (.int x3), none, none, none, none, none, none] [] (hs σ) (pJ P)
def K_X11_chanceOf_4 (scr : ScA)  (x1 : Int32) (x2 : Int32) (x3 : Int32) (σ : Nat → Nat → Int32) (P : Int64 → (Nat → Nat → Int32) → Prop) : Prop := XA scr 6 mX11_chanceOf 172 4705 4 [some (.ref 136), some (.int x1), some (.int x2), some (.int x3), none, none, none, none, none, none] [] (hs σ) (pJ P)
def K_X11_chanceOf_10 (scr : ScA)  (x1 : Int32) (x2 : Int32) (x3 : Int32) (x4 : Int64) (x6 : Int32) (σ : Nat → Nat → Int32) (P : Int64 → (Nat → Nat → Int32) → Prop) : Prop := XA scr 6 mX11_chanceOf 172 4705 10 [some (.ref 136), some (.int x1), some (.int x2), some (.int x3), some (.long x4), none, some (.int x6), none, none, none] [] (hs σ) (pJ P)
def K_X11_chanceOf_27 (scr : ScA)  (x1 : Int32) (x2 : Int32) (x3 : Int32) (x4 : Int64) (x6 : Int32) (x7 : Int64) (x9 : Int32) (σ : Nat → Nat → Int32) (P : Int64 → (Nat → Nat → Int32) → Prop) : Prop := XA scr 6 mX11_chanceOf 172 4705 27 [some (.ref 136), some (.int x1), some (.int x2), some (.int x3), some (.long x4), none, some (.int x6), some (.long x7), none, some (.int x9)] [] (hs σ) (pJ P)
def K_X11_chanceOf_84 (scr : ScA)  (x1 : Int32) (x2 : Int32) (x3 : Int32) (x4 : Int64) (x6 : Int32) (x7 : Int64) (σ : Nat → Nat → Int32) (P : Int64 → (Nat → Nat → Int32) → Prop) : Prop := XA scr 6 mX11_chanceOf 172 4705 84 [some (.ref 136), some (.int x1), some (.int x2), some (.int x3), some (.long x4), none, some (.int x6), some (.long x7), none, none] [] (hs σ) (pJ P)
def K_X11_chanceOf_127 (scr : ScA)  (y0 : Int64) (σ : Nat → Nat → Int32) (P : Int64 → (Nat → Nat → Int32) → Prop) : Prop := XA scr 6 mX11_chanceOf 172 4705 127 [none, none, none, none, none, none, none, none, none, none] [.long y0] (hs σ) (pJ P)
set_option maxRecDepth 20000 in
theorem W_X11_chanceOf_0 {scr : ScA}   {x1 : Int32} {x2 : Int32} {x3 : Int32}  {σ : Nat → Nat → Int32} {P : Int64 → (Nat → Nat → Int32) → Prop} (H : CvA scr 5 mX11_asTold [.ref 136] σ (fun σ' => K_X11_chanceOf_4 scr x1 x2 x3 σ' P)) : K_X11_chanceOf_0 scr x1 x2 x3 σ P := by
  show XA scr 6 mX11_chanceOf 172 4705 0 [some (.ref 136), some (.int x1), some (.int x2), some (.int x3), none, none, none, none, none, none] [] (hs σ) (pJ P)
  refine XA.blk (e9 := 1) (ok := true) (ls' := [some (.ref 136), some (.int x1), some (.int x2), some (.int x3), none, none, none, none, none, none]) (st' := [.ref 136]) (h' := hs σ) [(.aload_n 0, 1, 0, 0, 0, 0, 0, 0)] (by decide +kernel) rfl rfl ?_
  refine XA.callV (as := []) (rest := []) (mc' := 0) (ms' := 0) (idx := 241) (t := 1149) cv_X11_asTold (by decide +kernel) rfl rfl rfl (Nat.le_of_ble_eq_true rfl) (Nat.le_of_ble_eq_true rfl) (Nat.le_of_ble_eq_true rfl) (Nat.le_of_ble_eq_true rfl) (H) (fun rv h' hp => ?_)
  obtain ⟨s9, rfl, rfl, hK⟩ := hp
  exact ⟨rfl, rfl, hK⟩
set_option maxRecDepth 20000 in
theorem W_X11_chanceOf_4 {scr : ScA}   {x1 : Int32} {x2 : Int32} {x3 : Int32}  {σ : Nat → Nat → Int32} {P : Int64 → (Nat → Nat → Int32) → Prop} (H : K_X11_chanceOf_10 scr x1 x2 x3 0 0 σ P) : K_X11_chanceOf_4 scr x1 x2 x3 σ P := by
  show XA scr 6 mX11_chanceOf 172 4705 4 [some (.ref 136), some (.int x1), some (.int x2), some (.int x3), none, none, none, none, none, none] [] (hs σ) (pJ P)
  refine XA.blk (e9 := 10) (ok := true) (ls' := [some (.ref 136), some (.int x1), some (.int x2), some (.int x3), some (.long 0), none, some (.int 0), none, none, none]) (st' := []) (h' := hs σ) [(.lconst 0, 1, 0, 0, 0, 0, 0, 0), (.lstore 4, 2, 4, 0, 0, 0, 0, 0), (.iconst 0, 1, 0, 0, 0, 0, 0, 0), (.istore 6, 2, 6, 0, 0, 0, 0, 0)] (by decide +kernel) rfl rfl ?_
  exact H
set_option maxRecDepth 20000 in
theorem W_X11_chanceOf_10 {scr : ScA}   {x1 : Int32} {x2 : Int32} {x3 : Int32} {x4 : Int64} {x6 : Int32}  {σ : Nat → Nat → Int32} {P : Int64 → (Nat → Nat → Int32) → Prop} (H : (((1 : Int32) <<< ((σ 136 8) &&& 31)) ≤ x6 → ClA scr 0 mX11_lowest [.long x4, .long ((1 : Int64) <<< ((Int32.toInt64 (4 * (σ 136 8))) &&& 63)), .int x3] σ (fun r9 σ' => K_X11_chanceOf_127 scr r9 σ' P)) ∧ (¬ ((1 : Int32) <<< ((σ 136 8) &&& 31)) ≤ x6 → K_X11_chanceOf_27 scr x1 x2 x3 x4 x6 1 0 σ P)) : K_X11_chanceOf_10 scr x1 x2 x3 x4 x6 σ P := by
  show XA scr 6 mX11_chanceOf 172 4705 10 [some (.ref 136), some (.int x1), some (.int x2), some (.int x3), some (.long x4), none, some (.int x6), none, none, none] [] (hs σ) (pJ P)
  refine XA.blk (e9 := 18) (ok := true) (ls' := [some (.ref 136), some (.int x1), some (.int x2), some (.int x3), some (.long x4), none, some (.int x6), none, none, none]) (st' := [.int ((1 : Int32) <<< ((σ 136 8) &&& 31)), .int x6]) (h' := hs σ) [(.iload 6, 2, 6, 0, 0, 0, 0, 0), (.iconst 1, 1, 0, 0, 0, 0, 1, 0), (.aload_n 0, 1, 0, 0, 0, 0, 0, 0), (.getfield 164, 3, 11, 8, 0, 901, 0, 0), (.ishl, 1, 0, 0, 0, 0, 0, 0)] (by decide +kernel) rfl rfl ?_
  refine XA.icmp_ge (95) 113 (by decide +kernel) (fun c1 => ?_) (fun c1 => ?_)
  · have H := H.1 c1
    refine XA.blk (e9 := 124) (ok := true) (ls' := [some (.ref 136), some (.int x1), some (.int x2), some (.int x3), some (.long x4), none, some (.int x6), none, none, none]) (st' := [.int x3, .long ((1 : Int64) <<< ((Int32.toInt64 (4 * (σ 136 8))) &&& 63)), .long x4]) (h' := hs σ) [(.lload 4, 2, 4, 0, 0, 0, 0, 0), (.lconst 1, 1, 0, 0, 0, 0, 0, 1), (.iconst 4, 1, 0, 0, 0, 0, 4, 0), (.aload_n 0, 1, 0, 0, 0, 0, 0, 0), (.getfield 164, 3, 11, 8, 0, 901, 0, 0), (.imul, 1, 0, 0, 0, 0, 0, 0), (.lshl, 1, 0, 0, 0, 0, 0, 0), (.iload_n 3, 1, 3, 0, 0, 0, 0, 0)] (by decide +kernel) rfl rfl ?_
    refine XA.callS (as := [.long x4, .long ((1 : Int64) <<< ((Int32.toInt64 (4 * (σ 136 8))) &&& 63)), .int x3]) (rest := []) (mc' := 0) (ms' := 0) (idx := 326) (t := 1346) cs_X11_lowest (by decide +kernel) rfl rfl (Nat.le_of_ble_eq_true rfl) (Nat.le_of_ble_eq_true rfl) (Nat.le_of_ble_eq_true rfl) (Nat.le_of_ble_eq_true rfl) (H) (fun rv h' hp => ?_)
    obtain ⟨r9, s9, rfl, rfl, hK⟩ := hp
    exact ⟨rfl, rfl, XA.drop (by simp [leL]) hK⟩
  · have H := H.2 c1
    refine XA.blk (e9 := 27) (ok := true) (ls' := [some (.ref 136), some (.int x1), some (.int x2), some (.int x3), some (.long x4), none, some (.int x6), some (.long 1), none, some (.int 0)]) (st' := []) (h' := hs σ) [(.lconst 1, 1, 0, 0, 0, 0, 0, 1), (.lstore 7, 2, 7, 0, 0, 0, 0, 0), (.iconst 0, 1, 0, 0, 0, 0, 0, 0), (.istore 9, 2, 9, 0, 0, 0, 0, 0)] (by decide +kernel) rfl rfl ?_
    exact H
set_option maxRecDepth 20000 in
theorem W_X11_chanceOf_27 {scr : ScA}   {x1 : Int32} {x2 : Int32} {x3 : Int32} {x4 : Int64} {x6 : Int32} {x7 : Int64} {x9 : Int32}  {σ : Nat → Nat → Int32} {P : Int64 → (Nat → Nat → Int32) → Prop} (H : ((σ 136 8) ≤ x9 → ((lg_cmp x7 0) ≤ 0 → K_X11_chanceOf_10 scr x1 x2 x3 x4 (x6 + 1) σ P) ∧ (¬ (lg_cmp x7 0) ≤ 0 → ∀ σ1, σ1 = (su σ 136 16 x6) → CvA scr 3 mX11_runs [.ref 136] σ1 (fun σ' => K_X11_chanceOf_84 scr x1 x2 x3 x4 x6 x7 σ' P))) ∧ (¬ (σ 136 8) ≤ x9 → K_X11_chanceOf_27 scr x1 x2 x3 x4 x6 (x7 * (if (iiV x6 x9) = 0 then Int32.toInt64 x1 else Int32.toInt64 (16 - x1) : Int64)) (x9 + 1) σ P)) : K_X11_chanceOf_27 scr x1 x2 x3 x4 x6 x7 x9 σ P := by
  show XA scr 6 mX11_chanceOf 172 4705 27 [some (.ref 136), some (.int x1), some (.int x2), some (.int x3), some (.long x4), none, some (.int x6), some (.long x7), none, some (.int x9)] [] (hs σ) (pJ P)
  refine XA.blk (e9 := 33) (ok := true) (ls' := [some (.ref 136), some (.int x1), some (.int x2), some (.int x3), some (.long x4), none, some (.int x6), some (.long x7), none, some (.int x9)]) (st' := [.int (σ 136 8), .int x9]) (h' := hs σ) [(.iload 9, 2, 9, 0, 0, 0, 0, 0), (.aload_n 0, 1, 0, 0, 0, 0, 0, 0), (.getfield 164, 3, 11, 8, 0, 901, 0, 0)] (by decide +kernel) rfl rfl ?_
  refine XA.icmp_ge (34) 67 (by decide +kernel) (fun c1 => ?_) (fun c1 => ?_)
  · have H := H.1 c1
    refine XA.blk (e9 := 71) (ok := true) (ls' := [some (.ref 136), some (.int x1), some (.int x2), some (.int x3), some (.long x4), none, some (.int x6), some (.long x7), none, some (.int x9)]) (st' := [.int (lg_cmp x7 0)]) (h' := hs σ) [(.lload 7, 2, 7, 0, 0, 0, 0, 0), (.lconst 0, 1, 0, 0, 0, 0, 0, 0), (.lcmp, 1, 0, 0, 0, 0, 0, 0)] (by decide +kernel) rfl rfl ?_
    refine XA.if_le (36) 107 (by decide +kernel) (fun c2 => ?_) (fun c2 => ?_)
    · have H := H.1 c2
      refine XA.blk (e9 := 10) (ok := true) (ls' := [some (.ref 136), some (.int x1), some (.int x2), some (.int x3), some (.long x4), none, some (.int (x6 + 1)), some (.long x7), none, some (.int x9)]) (st' := []) (h' := hs σ) [(.iinc 6 1, 3, 6, 0, 0, 0, 1, 0), (.goto (-100), 3, 10, 0, 0, 0, 0, 0)] (by decide +kernel) rfl rfl ?_
      exact XA.drop (by simp [leL]) H
    · have H := H.2 c2
      refine XA.blk (e9 := 80) (ok := true) (ls' := [some (.ref 136), some (.int x1), some (.int x2), some (.int x3), some (.long x4), none, some (.int x6), some (.long x7), none, some (.int x9)]) (st' := []) (h' := hs (su σ 136 16 x6)) [(.aload_n 0, 1, 0, 0, 0, 0, 0, 0), (.iload 6, 2, 6, 0, 0, 0, 0, 0), (.putfield 180, 3, 11, 16, 0, 909, 0, 0)] (by decide +kernel) rfl rfl ?_
      obtain ⟨σ1, hσ1⟩ : ∃ s9, s9 = (su σ 136 16 x6) := ⟨_, rfl⟩
      rw [← hσ1]
      have H := H σ1 hσ1
      refine XA.blk (e9 := 81) (ok := true) (ls' := [some (.ref 136), some (.int x1), some (.int x2), some (.int x3), some (.long x4), none, some (.int x6), some (.long x7), none, some (.int x9)]) (st' := [.ref 136]) (h' := hs σ1) [(.aload_n 0, 1, 0, 0, 0, 0, 0, 0)] (by decide +kernel) rfl rfl ?_
      refine XA.callV (as := []) (rest := []) (mc' := 0) (ms' := 0) (idx := 244) (t := 1153) cv_X11_runs (by decide +kernel) rfl rfl rfl (Nat.le_of_ble_eq_true rfl) (Nat.le_of_ble_eq_true rfl) (Nat.le_of_ble_eq_true rfl) (Nat.le_of_ble_eq_true rfl) (H) (fun rv h' hp => ?_)
      obtain ⟨s9, rfl, rfl, hK⟩ := hp
      exact ⟨rfl, rfl, XA.drop (by simp [leL]) hK⟩
  · have H := H.2 c1
    refine XA.blk (e9 := 42) (ok := true) (ls' := [some (.ref 136), some (.int x1), some (.int x2), some (.int x3), some (.long x4), none, some (.int x6), some (.long x7), none, some (.int x9)]) (st' := [.int x9, .int x6, .long x7]) (h' := hs σ) [(.lload 7, 2, 7, 0, 0, 0, 0, 0), (.iload 6, 2, 6, 0, 0, 0, 0, 0), (.iload 9, 2, 9, 0, 0, 0, 0, 0)] (by decide +kernel) rfl rfl ?_
    refine XA.callS (as := [.int x6, .int x9]) (rest := [.long x7]) (mc' := 0) (ms' := 0) (idx := 186) (t := 1161) cs_X11_isIn (by decide +kernel) rfl rfl (Nat.le_of_ble_eq_true rfl) (Nat.le_of_ble_eq_true rfl) (Nat.le_of_ble_eq_true rfl) (Nat.le_of_ble_eq_true rfl) (pu_X11_isIn scr σ x6 x9) (fun rv h' hp => ?_)
    obtain ⟨rfl, rfl⟩ := hp
    refine ⟨rfl, rfl, ?_⟩
    show XA scr 6 mX11_chanceOf 172 4705 45 [some (.ref 136), some (.int x1), some (.int x2), some (.int x3), some (.long x4), none, some (.int x6), some (.long x7), none, some (.int x9)] [.int (iiV x6 x9), .long x7] (hs σ) (pJ P)
    have hJ45 : XA scr 6 mX11_chanceOf 172 4705 58 [some (.ref 136), some (.int x1), some (.int x2), some (.int x3), some (.long x4), none, some (.int x6), none, none, some (.int x9)] [.long (if (iiV x6 x9) = 0 then Int32.toInt64 x1 else Int32.toInt64 (16 - x1) : Int64), .long x7] (hs σ) (pJ P) := by
      refine XA.blk (e9 := 27) (ok := true) (ls' := [some (.ref 136), some (.int x1), some (.int x2), some (.int x3), some (.long x4), none, some (.int x6), some (.long (x7 * (if (iiV x6 x9) = 0 then Int32.toInt64 x1 else Int32.toInt64 (16 - x1) : Int64))), none, some (.int (x9 + 1))]) (st' := []) (h' := hs σ) [(.lmul, 1, 0, 0, 0, 0, 0, 0), (.lstore 7, 2, 7, 0, 0, 0, 0, 0), (.iinc 9 1, 3, 9, 0, 0, 0, 1, 0), (.goto (-37), 3, 27, 0, 0, 0, 0, 0)] (by decide +kernel) rfl rfl ?_
      exact H
    refine XA.if_eq (11) 56 (by decide +kernel) (fun c2 => ?_) (fun c2 => ?_)
    · refine XA.blk (e9 := 58) (ok := true) (ls' := [some (.ref 136), some (.int x1), some (.int x2), some (.int x3), some (.long x4), none, some (.int x6), some (.long x7), none, some (.int x9)]) (st' := [.long (Int32.toInt64 x1), .long x7]) (h' := hs σ) [(.iload_n 1, 1, 1, 0, 0, 0, 0, 0), (.i2l, 1, 0, 0, 0, 0, 0, 0)] (by decide +kernel) rfl rfl ?_
      refine XA.drop (ls := [some (.ref 136), some (.int x1), some (.int x2), some (.int x3), some (.long x4), none, some (.int x6), none, none, some (.int x9)]) (by simp [leL]) ?_
      simpa only [if_pos c2] using hJ45
    · refine XA.blk (e9 := 58) (ok := true) (ls' := [some (.ref 136), some (.int x1), some (.int x2), some (.int x3), some (.long x4), none, some (.int x6), some (.long x7), none, some (.int x9)]) (st' := [.long (Int32.toInt64 (16 - x1)), .long x7]) (h' := hs σ) [(.bipush 16, 2, 0, 0, 0, 0, 16, 0), (.iload_n 1, 1, 1, 0, 0, 0, 0, 0), (.isub, 1, 0, 0, 0, 0, 0, 0), (.i2l, 1, 0, 0, 0, 0, 0, 0), (.goto 5, 3, 58, 0, 0, 0, 0, 0)] (by decide +kernel) rfl rfl ?_
      refine XA.drop (ls := [some (.ref 136), some (.int x1), some (.int x2), some (.int x3), some (.long x4), none, some (.int x6), none, none, some (.int x9)]) (by simp [leL]) ?_
      simpa only [if_neg c2] using hJ45
set_option maxRecDepth 20000 in
theorem W_X11_chanceOf_84 {scr : ScA}   {x1 : Int32} {x2 : Int32} {x3 : Int32} {x4 : Int64} {x6 : Int32} {x7 : Int64}  {σ : Nat → Nat → Int32} {P : Int64 → (Nat → Nat → Int32) → Prop} (H : K_X11_chanceOf_10 scr x1 x2 x3 (x4 + (if (inV (σ 136 19) 0 x2) = 0 then 0 else x7 : Int64)) (x6 + 1) σ P) : K_X11_chanceOf_84 scr x1 x2 x3 x4 x6 x7 σ P := by
  show XA scr 6 mX11_chanceOf 172 4705 84 [some (.ref 136), some (.int x1), some (.int x2), some (.int x3), some (.long x4), none, some (.int x6), some (.long x7), none, none] [] (hs σ) (pJ P)
  refine XA.blk (e9 := 92) (ok := true) (ls' := [some (.ref 136), some (.int x1), some (.int x2), some (.int x3), some (.long x4), none, some (.int x6), some (.long x7), none, none]) (st' := [.int x2, .int 0, .int (σ 136 19), .long x4]) (h' := hs σ) [(.lload 4, 2, 4, 0, 0, 0, 0, 0), (.aload_n 0, 1, 0, 0, 0, 0, 0, 0), (.getfield 195, 3, 11, 19, 0, 912, 0, 0), (.iconst 0, 1, 0, 0, 0, 0, 0, 0), (.iload_n 2, 1, 2, 0, 0, 0, 0, 0)] (by decide +kernel) rfl rfl ?_
  refine XA.callS (as := [.int (σ 136 19), .int 0, .int x2]) (rest := [.long x4]) (mc' := 0) (ms' := 0) (idx := 118) (t := 1061) cs_X11_in (by decide +kernel) rfl rfl (Nat.le_of_ble_eq_true rfl) (Nat.le_of_ble_eq_true rfl) (Nat.le_of_ble_eq_true rfl) (Nat.le_of_ble_eq_true rfl) (pu_X11_in scr σ (σ 136 19) 0 x2) (fun rv h' hp => ?_)
  obtain ⟨rfl, rfl⟩ := hp
  refine ⟨rfl, rfl, ?_⟩
  show XA scr 6 mX11_chanceOf 172 4705 95 [some (.ref 136), some (.int x1), some (.int x2), some (.int x3), some (.long x4), none, some (.int x6), some (.long x7), none, none] [.int (inV (σ 136 19) 0 x2), .long x4] (hs σ) (pJ P)
  have hJ95 : XA scr 6 mX11_chanceOf 172 4705 104 [some (.ref 136), some (.int x1), some (.int x2), some (.int x3), none, none, some (.int x6), none, none, none] [.long (if (inV (σ 136 19) 0 x2) = 0 then 0 else x7 : Int64), .long x4] (hs σ) (pJ P) := by
    refine XA.blk (e9 := 10) (ok := true) (ls' := [some (.ref 136), some (.int x1), some (.int x2), some (.int x3), some (.long (x4 + (if (inV (σ 136 19) 0 x2) = 0 then 0 else x7 : Int64))), none, some (.int (x6 + 1)), none, none, none]) (st' := []) (h' := hs σ) [(.ladd, 1, 0, 0, 0, 0, 0, 0), (.lstore 4, 2, 4, 0, 0, 0, 0, 0), (.iinc 6 1, 3, 6, 0, 0, 0, 1, 0), (.goto (-100), 3, 10, 0, 0, 0, 0, 0)] (by decide +kernel) rfl rfl ?_
    exact H
  refine XA.if_eq (8) 103 (by decide +kernel) (fun c1 => ?_) (fun c1 => ?_)
  · refine XA.blk (e9 := 104) (ok := true) (ls' := [some (.ref 136), some (.int x1), some (.int x2), some (.int x3), some (.long x4), none, some (.int x6), some (.long x7), none, none]) (st' := [.long 0, .long x4]) (h' := hs σ) [(.lconst 0, 1, 0, 0, 0, 0, 0, 0)] (by decide +kernel) rfl rfl ?_
    refine XA.drop (ls := [some (.ref 136), some (.int x1), some (.int x2), some (.int x3), none, none, some (.int x6), none, none, none]) (by simp [leL]) ?_
    simpa only [if_pos c1] using hJ95
  · refine XA.blk (e9 := 104) (ok := true) (ls' := [some (.ref 136), some (.int x1), some (.int x2), some (.int x3), some (.long x4), none, some (.int x6), some (.long x7), none, none]) (st' := [.long x7, .long x4]) (h' := hs σ) [(.lload 7, 2, 7, 0, 0, 0, 0, 0), (.goto 4, 3, 104, 0, 0, 0, 0, 0)] (by decide +kernel) rfl rfl ?_
    refine XA.drop (ls := [some (.ref 136), some (.int x1), some (.int x2), some (.int x3), none, none, some (.int x6), none, none, none]) (by simp [leL]) ?_
    simpa only [if_neg c1] using hJ95
set_option maxRecDepth 20000 in
theorem W_X11_chanceOf_127 {scr : ScA}   {y0 : Int64}  {σ : Nat → Nat → Int32} {P : Int64 → (Nat → Nat → Int32) → Prop} (H : P y0 σ) : K_X11_chanceOf_127 scr y0 σ P := by
  show XA scr 6 mX11_chanceOf 172 4705 127 [none, none, none, none, none, none, none, none, none, none] [.long y0] (hs σ) (pJ P)
  exact XA.ret (some (.long y0)) rfl (show ckRt mX11_chanceOf 127 .lreturn = true by decide +kernel) trivial (Nat.le_of_ble_eq_true rfl) (Nat.le_of_ble_eq_true rfl) ⟨_, _, rfl, rfl, H⟩
theorem E_X11_chanceOf {scr : ScA}  {x1 : Int32} {x2 : Int32} {x3 : Int32} {σ : Nat → Nat → Int32} {P : Int64 → (Nat → Nat → Int32) → Prop} (h : K_X11_chanceOf_0 scr x1 x2 x3 σ P) : ClA scr 6 mX11_chanceOf [.ref 136, .int x1, .int x2, .int x3] σ P := CtA.of (by decide) (Nat.le_of_ble_eq_true rfl) (XA.drop (by simp [leL, enL]) h)
def K_X11_chance_0 (scr : ScA)  (x1 : Int32) (x2 : Int32) (x3 : Int32) (σ : Nat → Nat → Int32) (P : Int64 → (Nat → Nat → Int32) → Prop) : Prop := XA scr 7 mX11_chance 172 4705 0 [some (.ref 136), some (.int x1), some (.int x2), some (.int x3)] [] (hs σ) (pJ P)
def K_X11_chance_31 (scr : ScA)  (y0 : Int64) (σ : Nat → Nat → Int32) (P : Int64 → (Nat → Nat → Int32) → Prop) : Prop := XA scr 7 mX11_chance 172 4705 31 [none, none, none, none] [.long y0] (hs σ) (pJ P)
set_option maxRecDepth 20000 in
theorem W_X11_chance_0 {scr : ScA}   {x1 : Int32} {x2 : Int32} {x3 : Int32}  {σ : Nat → Nat → Int32} {P : Int64 → (Nat → Nat → Int32) → Prop} (H : ((inV x1 0 16) = 0 → P ((-9223372036854775808) - (Int32.toInt64 (-2))) σ) ∧ (¬ (inV x1 0 16) = 0 → ((inV x2 0 23) = 0 → P ((-9223372036854775808) - (Int32.toInt64 (-2))) σ) ∧ (¬ (inV x2 0 23) = 0 → ((inV x3 0 1) = 0 → P ((-9223372036854775808) - (Int32.toInt64 (-2))) σ) ∧ (¬ (inV x3 0 1) = 0 → ClA scr 6 mX11_chanceOf [.ref 136, .int x1, .int x2, .int x3] σ (fun r9 σ' => K_X11_chance_31 scr r9 σ' P))))) : K_X11_chance_0 scr x1 x2 x3 σ P := by
  show XA scr 7 mX11_chance 172 4705 0 [some (.ref 136), some (.int x1), some (.int x2), some (.int x3)] [] (hs σ) (pJ P)
  refine XA.blk (e9 := 4) (ok := true) (ls' := [some (.ref 136), some (.int x1), some (.int x2), some (.int x3)]) (st' := [.int 16, .int 0, .int x1]) (h' := hs σ) [(.iload_n 1, 1, 1, 0, 0, 0, 0, 0), (.iconst 0, 1, 0, 0, 0, 0, 0, 0), (.bipush 16, 2, 0, 0, 0, 0, 16, 0)] (by decide +kernel) rfl rfl ?_
  refine XA.callS (as := [.int x1, .int 0, .int 16]) (rest := []) (mc' := 0) (ms' := 0) (idx := 118) (t := 1061) cs_X11_in (by decide +kernel) rfl rfl (Nat.le_of_ble_eq_true rfl) (Nat.le_of_ble_eq_true rfl) (Nat.le_of_ble_eq_true rfl) (Nat.le_of_ble_eq_true rfl) (pu_X11_in scr σ x1 0 16) (fun rv h' hp => ?_)
  obtain ⟨rfl, rfl⟩ := hp
  refine ⟨rfl, rfl, ?_⟩
  show XA scr 7 mX11_chance 172 4705 7 [some (.ref 136), some (.int x1), some (.int x2), some (.int x3)] [.int (inV x1 0 16)] (hs σ) (pJ P)
  refine XA.if_eq (27) 34 (by decide +kernel) (fun c1 => ?_) (fun c1 => ?_)
  · have H := H.1 c1
    refine XA.blk (e9 := 36) (ok := true) (ls' := [some (.ref 136), some (.int x1), some (.int x2), some (.int x3)]) (st' := [.int (-2)]) (h' := hs σ) [(.bipush (-2), 2, 0, 0, 0, 0, (-2), 0)] (by decide +kernel) rfl rfl ?_
    refine XA.callS (as := [.int (-2)]) (rest := []) (mc' := 0) (ms' := 0) (idx := 334) (t := 1349) cs_X11_no (by decide +kernel) rfl rfl (Nat.le_of_ble_eq_true rfl) (Nat.le_of_ble_eq_true rfl) (Nat.le_of_ble_eq_true rfl) (Nat.le_of_ble_eq_true rfl) (pu_X11_no scr σ (-2)) (fun rv h' hp => ?_)
    obtain ⟨rfl, rfl⟩ := hp
    refine ⟨rfl, rfl, ?_⟩
    show XA scr 7 mX11_chance 172 4705 39 [some (.ref 136), some (.int x1), some (.int x2), some (.int x3)] [.long ((-9223372036854775808) - (Int32.toInt64 (-2)))] (hs σ) (pJ P)
    exact XA.ret (some (.long ((-9223372036854775808) - (Int32.toInt64 (-2))))) rfl (show ckRt mX11_chance 39 .lreturn = true by decide +kernel) trivial (Nat.le_of_ble_eq_true rfl) (Nat.le_of_ble_eq_true rfl) ⟨_, _, rfl, rfl, H⟩
  · have H := H.2 c1
    refine XA.blk (e9 := 11) (ok := true) (ls' := [some (.ref 136), some (.int x1), some (.int x2), some (.int x3)]) (st' := [.int x2]) (h' := hs σ) [(.iload_n 2, 1, 2, 0, 0, 0, 0, 0)] (by decide +kernel) rfl rfl ?_
    refine XA.callS (as := [.int x2]) (rest := []) (mc' := 0) (ms' := 0) (idx := 130) (t := 1088) cs_X11_isMoment (by decide +kernel) rfl rfl (Nat.le_of_ble_eq_true rfl) (Nat.le_of_ble_eq_true rfl) (Nat.le_of_ble_eq_true rfl) (Nat.le_of_ble_eq_true rfl) (pu_X11_isMoment scr σ x2) (fun rv h' hp => ?_)
    obtain ⟨rfl, rfl⟩ := hp
    refine ⟨rfl, rfl, ?_⟩
    show XA scr 7 mX11_chance 172 4705 14 [some (.ref 136), some (.int x1), some (.int x2), some (.int x3)] [.int (inV x2 0 23)] (hs σ) (pJ P)
    refine XA.if_eq (20) 34 (by decide +kernel) (fun c2 => ?_) (fun c2 => ?_)
    · have H := H.1 c2
      refine XA.blk (e9 := 36) (ok := true) (ls' := [some (.ref 136), some (.int x1), some (.int x2), some (.int x3)]) (st' := [.int (-2)]) (h' := hs σ) [(.bipush (-2), 2, 0, 0, 0, 0, (-2), 0)] (by decide +kernel) rfl rfl ?_
      refine XA.callS (as := [.int (-2)]) (rest := []) (mc' := 0) (ms' := 0) (idx := 334) (t := 1349) cs_X11_no (by decide +kernel) rfl rfl (Nat.le_of_ble_eq_true rfl) (Nat.le_of_ble_eq_true rfl) (Nat.le_of_ble_eq_true rfl) (Nat.le_of_ble_eq_true rfl) (pu_X11_no scr σ (-2)) (fun rv h' hp => ?_)
      obtain ⟨rfl, rfl⟩ := hp
      refine ⟨rfl, rfl, ?_⟩
      show XA scr 7 mX11_chance 172 4705 39 [some (.ref 136), some (.int x1), some (.int x2), some (.int x3)] [.long ((-9223372036854775808) - (Int32.toInt64 (-2)))] (hs σ) (pJ P)
      exact XA.ret (some (.long ((-9223372036854775808) - (Int32.toInt64 (-2))))) rfl (show ckRt mX11_chance 39 .lreturn = true by decide +kernel) trivial (Nat.le_of_ble_eq_true rfl) (Nat.le_of_ble_eq_true rfl) ⟨_, _, rfl, rfl, H⟩
    · have H := H.2 c2
      refine XA.blk (e9 := 18) (ok := true) (ls' := [some (.ref 136), some (.int x1), some (.int x2), some (.int x3)]) (st' := [.int x3]) (h' := hs σ) [(.iload_n 3, 1, 3, 0, 0, 0, 0, 0)] (by decide +kernel) rfl rfl ?_
      refine XA.callS (as := [.int x3]) (rest := []) (mc' := 0) (ms' := 0) (idx := 256) (t := 1203) cs_X11_isTwo (by decide +kernel) rfl rfl (Nat.le_of_ble_eq_true rfl) (Nat.le_of_ble_eq_true rfl) (Nat.le_of_ble_eq_true rfl) (Nat.le_of_ble_eq_true rfl) (pu_X11_isTwo scr σ x3) (fun rv h' hp => ?_)
      obtain ⟨rfl, rfl⟩ := hp
      refine ⟨rfl, rfl, ?_⟩
      show XA scr 7 mX11_chance 172 4705 21 [some (.ref 136), some (.int x1), some (.int x2), some (.int x3)] [.int (inV x3 0 1)] (hs σ) (pJ P)
      refine XA.if_eq (13) 34 (by decide +kernel) (fun c3 => ?_) (fun c3 => ?_)
      · have H := H.1 c3
        refine XA.blk (e9 := 36) (ok := true) (ls' := [some (.ref 136), some (.int x1), some (.int x2), some (.int x3)]) (st' := [.int (-2)]) (h' := hs σ) [(.bipush (-2), 2, 0, 0, 0, 0, (-2), 0)] (by decide +kernel) rfl rfl ?_
        refine XA.callS (as := [.int (-2)]) (rest := []) (mc' := 0) (ms' := 0) (idx := 334) (t := 1349) cs_X11_no (by decide +kernel) rfl rfl (Nat.le_of_ble_eq_true rfl) (Nat.le_of_ble_eq_true rfl) (Nat.le_of_ble_eq_true rfl) (Nat.le_of_ble_eq_true rfl) (pu_X11_no scr σ (-2)) (fun rv h' hp => ?_)
        obtain ⟨rfl, rfl⟩ := hp
        refine ⟨rfl, rfl, ?_⟩
        show XA scr 7 mX11_chance 172 4705 39 [some (.ref 136), some (.int x1), some (.int x2), some (.int x3)] [.long ((-9223372036854775808) - (Int32.toInt64 (-2)))] (hs σ) (pJ P)
        exact XA.ret (some (.long ((-9223372036854775808) - (Int32.toInt64 (-2))))) rfl (show ckRt mX11_chance 39 .lreturn = true by decide +kernel) trivial (Nat.le_of_ble_eq_true rfl) (Nat.le_of_ble_eq_true rfl) ⟨_, _, rfl, rfl, H⟩
      · have H := H.2 c3
        refine XA.blk (e9 := 28) (ok := true) (ls' := [some (.ref 136), some (.int x1), some (.int x2), some (.int x3)]) (st' := [.int x3, .int x2, .int x1, .ref 136]) (h' := hs σ) [(.aload_n 0, 1, 0, 0, 0, 0, 0, 0), (.iload_n 1, 1, 1, 0, 0, 0, 0, 0), (.iload_n 2, 1, 2, 0, 0, 0, 0, 0), (.iload_n 3, 1, 3, 0, 0, 0, 0, 0)] (by decide +kernel) rfl rfl ?_
        refine XA.callV (as := [.int x1, .int x2, .int x3]) (rest := []) (mc' := 0) (ms' := 0) (idx := 330) (t := 1342) cv_X11_chanceOf (by decide +kernel) rfl rfl rfl (Nat.le_of_ble_eq_true rfl) (Nat.le_of_ble_eq_true rfl) (Nat.le_of_ble_eq_true rfl) (Nat.le_of_ble_eq_true rfl) (H) (fun rv h' hp => ?_)
        obtain ⟨r9, s9, rfl, rfl, hK⟩ := hp
        exact ⟨rfl, rfl, XA.drop (by simp [leL]) hK⟩
set_option maxRecDepth 20000 in
theorem W_X11_chance_31 {scr : ScA}   {y0 : Int64}  {σ : Nat → Nat → Int32} {P : Int64 → (Nat → Nat → Int32) → Prop} (H : P y0 σ) : K_X11_chance_31 scr y0 σ P := by
  show XA scr 7 mX11_chance 172 4705 31 [none, none, none, none] [.long y0] (hs σ) (pJ P)
  refine XA.blk (e9 := 39) (ok := true) (ls' := [none, none, none, none]) (st' := [.long y0]) (h' := hs σ) [(.goto 8, 3, 39, 0, 0, 0, 0, 0)] (by decide +kernel) rfl rfl ?_
  exact XA.ret (some (.long y0)) rfl (show ckRt mX11_chance 39 .lreturn = true by decide +kernel) trivial (Nat.le_of_ble_eq_true rfl) (Nat.le_of_ble_eq_true rfl) ⟨_, _, rfl, rfl, H⟩
theorem E_X11_chance {scr : ScA}  {x1 : Int32} {x2 : Int32} {x3 : Int32} {σ : Nat → Nat → Int32} {P : Int64 → (Nat → Nat → Int32) → Prop} (h : K_X11_chance_0 scr x1 x2 x3 σ P) : ClA scr 7 mX11_chance [.ref 136, .int x1, .int x2, .int x3] σ P := CtA.of (by decide) (Nat.le_of_ble_eq_true rfl) (XA.drop (by simp [leL, enL]) h)
def K_X11_yearsOf_0 (scr : ScA)  (x1 : Int32) (x2 : Int32) (x3 : Int32) (σ : Nat → Nat → Int32) (P : Int32 → (Nat → Nat → Int32) → Prop) : Prop := XA scr 6 mX11_yearsOf 172 4705 0 [some (.ref 136), some (.int x1), some (.int x2), some (.int x3), none, none] [] (hs σ) (pI P)
def K_X11_yearsOf_4 (scr : ScA)  (x1 : Int32) (x2 : Int32) (x3 : Int32) (σ : Nat → Nat → Int32) (P : Int32 → (Nat → Nat → Int32) → Prop) : Prop := XA scr 6 mX11_yearsOf 172 4705 4 [some (.ref 136), some (.int x1), some (.int x2), some (.int x3), none, none] [] (hs σ) (pI P)
def K_X11_yearsOf_26 (scr : ScA)  (x3 : Int32) (x4 : Int32) (x5 : Int32) (σ : Nat → Nat → Int32) (P : Int32 → (Nat → Nat → Int32) → Prop) : Prop := XA scr 6 mX11_yearsOf 172 4705 26 [some (.ref 136), none, none, some (.int x3), some (.int x4), some (.int x5)] [] (hs σ) (pI P)
def K_X11_yearsOf_127 (scr : ScA)  (x3 : Int32) (σ : Nat → Nat → Int32) (P : Int32 → (Nat → Nat → Int32) → Prop) : Prop := XA scr 6 mX11_yearsOf 172 4705 127 [some (.ref 136), none, none, some (.int x3), none, none] [] (hs σ) (pI P)
set_option maxRecDepth 20000 in
theorem W_X11_yearsOf_0 {scr : ScA}   {x1 : Int32} {x2 : Int32} {x3 : Int32}  {σ : Nat → Nat → Int32} {P : Int32 → (Nat → Nat → Int32) → Prop} (H : CvA scr 5 mX11_asTold [.ref 136] σ (fun σ' => K_X11_yearsOf_4 scr x1 x2 x3 σ' P)) : K_X11_yearsOf_0 scr x1 x2 x3 σ P := by
  show XA scr 6 mX11_yearsOf 172 4705 0 [some (.ref 136), some (.int x1), some (.int x2), some (.int x3), none, none] [] (hs σ) (pI P)
  refine XA.blk (e9 := 1) (ok := true) (ls' := [some (.ref 136), some (.int x1), some (.int x2), some (.int x3), none, none]) (st' := [.ref 136]) (h' := hs σ) [(.aload_n 0, 1, 0, 0, 0, 0, 0, 0)] (by decide +kernel) rfl rfl ?_
  refine XA.callV (as := []) (rest := []) (mc' := 0) (ms' := 0) (idx := 241) (t := 1149) cv_X11_asTold (by decide +kernel) rfl rfl rfl (Nat.le_of_ble_eq_true rfl) (Nat.le_of_ble_eq_true rfl) (Nat.le_of_ble_eq_true rfl) (Nat.le_of_ble_eq_true rfl) (H) (fun rv h' hp => ?_)
  obtain ⟨s9, rfl, rfl, hK⟩ := hp
  exact ⟨rfl, rfl, hK⟩
set_option maxRecDepth 20000 in
theorem W_X11_yearsOf_4 {scr : ScA}   {x1 : Int32} {x2 : Int32} {x3 : Int32}  {σ : Nat → Nat → Int32} {P : Int32 → (Nat → Nat → Int32) → Prop} (H : ∀ σ1, σ1 = (su σ 136 12 (if ¬ (σ 136 2) = 0 then x2 else 0 : Int32)) → K_X11_yearsOf_26 scr x3 x1 0 σ1 P) : K_X11_yearsOf_4 scr x1 x2 x3 σ P := by
  show XA scr 6 mX11_yearsOf 172 4705 4 [some (.ref 136), some (.int x1), some (.int x2), some (.int x3), none, none] [] (hs σ) (pI P)
  refine XA.blk (e9 := 12) (ok := true) (ls' := [some (.ref 136), some (.int x1), some (.int x2), some (.int x3), some (.int x1), none]) (st' := [.int (σ 136 2), .ref 136]) (h' := hs σ) [(.iload_n 1, 1, 1, 0, 0, 0, 0, 0), (.istore 4, 2, 4, 0, 0, 0, 0, 0), (.aload_n 0, 1, 0, 0, 0, 0, 0, 0), (.aload_n 0, 1, 0, 0, 0, 0, 0, 0), (.getfield 141, 3, 11, 2, 0, 895, 0, 0)] (by decide +kernel) rfl rfl ?_
  have hJ12 : XA scr 6 mX11_yearsOf 172 4705 20 [some (.ref 136), none, none, some (.int x3), some (.int x1), none] [.int (if ¬ (σ 136 2) = 0 then x2 else 0 : Int32), .ref 136] (hs σ) (pI P) := by
    refine XA.blk (e9 := 23) (ok := true) (ls' := [some (.ref 136), none, none, some (.int x3), some (.int x1), none]) (st' := []) (h' := hs (su σ 136 12 (if ¬ (σ 136 2) = 0 then x2 else 0 : Int32))) [(.putfield 177, 3, 11, 12, 0, 905, 0, 0)] (by decide +kernel) rfl rfl ?_
    obtain ⟨σ1, hσ1⟩ : ∃ s9, s9 = (su σ 136 12 (if ¬ (σ 136 2) = 0 then x2 else 0 : Int32)) := ⟨_, rfl⟩
    rw [← hσ1]
    have H := H σ1 hσ1
    refine XA.blk (e9 := 26) (ok := true) (ls' := [some (.ref 136), none, none, some (.int x3), some (.int x1), some (.int 0)]) (st' := []) (h' := hs σ1) [(.iconst 0, 1, 0, 0, 0, 0, 0, 0), (.istore 5, 2, 5, 0, 0, 0, 0, 0)] (by decide +kernel) rfl rfl ?_
    exact H
  refine XA.if_ne (7) 19 (by decide +kernel) (fun c1 => ?_) (fun c1 => ?_)
  · refine XA.blk (e9 := 20) (ok := true) (ls' := [some (.ref 136), some (.int x1), some (.int x2), some (.int x3), some (.int x1), none]) (st' := [.int x2, .ref 136]) (h' := hs σ) [(.iload_n 2, 1, 2, 0, 0, 0, 0, 0)] (by decide +kernel) rfl rfl ?_
    refine XA.drop (ls := [some (.ref 136), none, none, some (.int x3), some (.int x1), none]) (by simp [leL]) ?_
    simpa only [if_pos c1] using hJ12
  · refine XA.blk (e9 := 20) (ok := true) (ls' := [some (.ref 136), some (.int x1), some (.int x2), some (.int x3), some (.int x1), none]) (st' := [.int 0, .ref 136]) (h' := hs σ) [(.iconst 0, 1, 0, 0, 0, 0, 0, 0), (.goto 4, 3, 20, 0, 0, 0, 0, 0)] (by decide +kernel) rfl rfl ?_
    refine XA.drop (ls := [some (.ref 136), none, none, some (.int x3), some (.int x1), none]) (by simp [leL]) ?_
    simpa only [if_neg (not_not_intro c1)] using hJ12
set_option maxRecDepth 20000 in
theorem W_X11_yearsOf_26 {scr : ScA}   {x3 : Int32} {x4 : Int32} {x5 : Int32}  {σ : Nat → Nat → Int32} {P : Int32 → (Nat → Nat → Int32) → Prop} (H : ((σ 136 12) ≤ x5 → CvA scr 3 mX11_runs [.ref 136] σ (fun σ' => K_X11_yearsOf_127 scr x3 σ' P)) ∧ (¬ (σ 136 12) ≤ x5 → (inB x5 8 = true) ∧ (∀ σ1, σ1 = (su σ 146 (Int32.toNatClampNeg x5) (((((1103515245 * x4) + 12345).toUInt32 >>> ((16 : Int32).toUInt32 &&& Int32.toUInt32 31)).toInt32) - ((((1103515245 * x4) + 12345).toUInt32 >>> ((16 : Int32).toUInt32 &&& Int32.toUInt32 31)).toInt32) / 3 * 3)) → ∀ σ2, σ2 = (su σ1 147 (Int32.toNatClampNeg x5) (((((1103515245 * ((1103515245 * x4) + 12345)) + 12345).toUInt32 >>> ((16 : Int32).toUInt32 &&& Int32.toUInt32 31)).toInt32) - ((((1103515245 * ((1103515245 * x4) + 12345)) + 12345).toUInt32 >>> ((16 : Int32).toUInt32 &&& Int32.toUInt32 31)).toInt32) / 24 * 24)) → (¬ (σ2 136 2) = 0) ∧ (∀ σ3, σ3 = (su σ2 148 (Int32.toNatClampNeg x5) (((((1103515245 * ((1103515245 * ((1103515245 * x4) + 12345)) + 12345)) + 12345).toUInt32 >>> ((16 : Int32).toUInt32 &&& Int32.toUInt32 31)).toInt32) - ((((1103515245 * ((1103515245 * ((1103515245 * x4) + 12345)) + 12345)) + 12345).toUInt32 >>> ((16 : Int32).toUInt32 &&& Int32.toUInt32 31)).toInt32) / (σ2 136 2) * (σ2 136 2))) → K_X11_yearsOf_26 scr x3 ((1103515245 * ((1103515245 * ((1103515245 * x4) + 12345)) + 12345)) + 12345) (x5 + 1) σ3 P)))) : K_X11_yearsOf_26 scr x3 x4 x5 σ P := by
  show XA scr 6 mX11_yearsOf 172 4705 26 [some (.ref 136), none, none, some (.int x3), some (.int x4), some (.int x5)] [] (hs σ) (pI P)
  refine XA.blk (e9 := 32) (ok := true) (ls' := [some (.ref 136), none, none, some (.int x3), some (.int x4), some (.int x5)]) (st' := [.int (σ 136 12), .int x5]) (h' := hs σ) [(.iload 5, 2, 5, 0, 0, 0, 0, 0), (.aload_n 0, 1, 0, 0, 0, 0, 0, 0), (.getfield 177, 3, 11, 12, 0, 905, 0, 0)] (by decide +kernel) rfl rfl ?_
  refine XA.icmp_ge (91) 123 (by decide +kernel) (fun c1 => ?_) (fun c1 => ?_)
  · have H := H.1 c1
    refine XA.blk (e9 := 124) (ok := true) (ls' := [some (.ref 136), none, none, some (.int x3), some (.int x4), some (.int x5)]) (st' := [.ref 136]) (h' := hs σ) [(.aload_n 0, 1, 0, 0, 0, 0, 0, 0)] (by decide +kernel) rfl rfl ?_
    refine XA.callV (as := []) (rest := []) (mc' := 0) (ms' := 0) (idx := 244) (t := 1153) cv_X11_runs (by decide +kernel) rfl rfl rfl (Nat.le_of_ble_eq_true rfl) (Nat.le_of_ble_eq_true rfl) (Nat.le_of_ble_eq_true rfl) (Nat.le_of_ble_eq_true rfl) (H) (fun rv h' hp => ?_)
    obtain ⟨s9, rfl, rfl, hK⟩ := hp
    exact ⟨rfl, rfl, XA.drop (by simp [leL]) hK⟩
  · have H := H.2 c1
    obtain ⟨o1, H⟩ := H
    refine XA.blk (e9 := 61) (ok := inB x5 8 && (true)) (ls' := [some (.ref 136), none, none, some (.int x3), some (.int ((1103515245 * x4) + 12345)), some (.int x5)]) (st' := []) (h' := hs (su σ 146 (Int32.toNatClampNeg x5) (((((1103515245 * x4) + 12345).toUInt32 >>> ((16 : Int32).toUInt32 &&& Int32.toUInt32 31)).toInt32) - ((((1103515245 * x4) + 12345).toUInt32 >>> ((16 : Int32).toUInt32 &&& Int32.toUInt32 31)).toInt32) / 3 * 3))) [(.ldc_w 338, 3, 0, 0, 0, 1361, 1103515245, 0), (.iload 4, 2, 4, 0, 0, 0, 0, 0), (.imul, 1, 0, 0, 0, 0, 0, 0), (.sipush 12345, 3, 0, 0, 0, 0, 12345, 0), (.iadd, 1, 0, 0, 0, 0, 0, 0), (.istore 4, 2, 4, 0, 0, 0, 0, 0), (.aload_n 0, 1, 0, 0, 0, 0, 0, 0), (.getfield 37, 3, 11, 13, 11, 906, 0, 0), (.iload 5, 2, 5, 0, 0, 0, 0, 0), (.iload 4, 2, 4, 0, 0, 0, 0, 0), (.bipush 16, 2, 0, 0, 0, 0, 16, 0), (.iushr, 1, 0, 0, 0, 0, 0, 0), (.iconst 3, 1, 0, 0, 0, 0, 3, 0), (.irem, 1, 0, 0, 0, 0, 0, 0), (.iastore, 1, 0, 0, 0, 0, 0, 0)] (by decide +kernel) rfl (by simp only [o1, Bool.and_true, Bool.true_and]) ?_
    obtain ⟨σ1, hσ1⟩ : ∃ s9, s9 = (su σ 146 (Int32.toNatClampNeg x5) (((((1103515245 * x4) + 12345).toUInt32 >>> ((16 : Int32).toUInt32 &&& Int32.toUInt32 31)).toInt32) - ((((1103515245 * x4) + 12345).toUInt32 >>> ((16 : Int32).toUInt32 &&& Int32.toUInt32 31)).toInt32) / 3 * 3)) := ⟨_, rfl⟩
    rw [← hσ1]
    have H := H σ1 hσ1
    refine XA.blk (e9 := 88) (ok := inB x5 8 && (true)) (ls' := [some (.ref 136), none, none, some (.int x3), some (.int ((1103515245 * ((1103515245 * x4) + 12345)) + 12345)), some (.int x5)]) (st' := []) (h' := hs (su σ1 147 (Int32.toNatClampNeg x5) (((((1103515245 * ((1103515245 * x4) + 12345)) + 12345).toUInt32 >>> ((16 : Int32).toUInt32 &&& Int32.toUInt32 31)).toInt32) - ((((1103515245 * ((1103515245 * x4) + 12345)) + 12345).toUInt32 >>> ((16 : Int32).toUInt32 &&& Int32.toUInt32 31)).toInt32) / 24 * 24))) [(.ldc_w 338, 3, 0, 0, 0, 1361, 1103515245, 0), (.iload 4, 2, 4, 0, 0, 0, 0, 0), (.imul, 1, 0, 0, 0, 0, 0, 0), (.sipush 12345, 3, 0, 0, 0, 0, 12345, 0), (.iadd, 1, 0, 0, 0, 0, 0, 0), (.istore 4, 2, 4, 0, 0, 0, 0, 0), (.aload_n 0, 1, 0, 0, 0, 0, 0, 0), (.getfield 40, 3, 11, 14, 12, 907, 0, 0), (.iload 5, 2, 5, 0, 0, 0, 0, 0), (.iload 4, 2, 4, 0, 0, 0, 0, 0), (.bipush 16, 2, 0, 0, 0, 0, 16, 0), (.iushr, 1, 0, 0, 0, 0, 0, 0), (.bipush 24, 2, 0, 0, 0, 0, 24, 0), (.irem, 1, 0, 0, 0, 0, 0, 0), (.iastore, 1, 0, 0, 0, 0, 0, 0)] (by decide +kernel) rfl (by simp only [o1, Bool.and_true, Bool.true_and]) ?_
    obtain ⟨σ2, hσ2⟩ : ∃ s9, s9 = (su σ1 147 (Int32.toNatClampNeg x5) (((((1103515245 * ((1103515245 * x4) + 12345)) + 12345).toUInt32 >>> ((16 : Int32).toUInt32 &&& Int32.toUInt32 31)).toInt32) - ((((1103515245 * ((1103515245 * x4) + 12345)) + 12345).toUInt32 >>> ((16 : Int32).toUInt32 &&& Int32.toUInt32 31)).toInt32) / 24 * 24)) := ⟨_, rfl⟩
    rw [← hσ2]
    have H := H σ2 hσ2
    obtain ⟨o2, H⟩ := H
    refine XA.blk (e9 := 117) (ok := decide (¬ (σ2 136 2) = 0) && (inB x5 8 && (true))) (ls' := [some (.ref 136), none, none, some (.int x3), some (.int ((1103515245 * ((1103515245 * ((1103515245 * x4) + 12345)) + 12345)) + 12345)), some (.int x5)]) (st' := []) (h' := hs (su σ2 148 (Int32.toNatClampNeg x5) (((((1103515245 * ((1103515245 * ((1103515245 * x4) + 12345)) + 12345)) + 12345).toUInt32 >>> ((16 : Int32).toUInt32 &&& Int32.toUInt32 31)).toInt32) - ((((1103515245 * ((1103515245 * ((1103515245 * x4) + 12345)) + 12345)) + 12345).toUInt32 >>> ((16 : Int32).toUInt32 &&& Int32.toUInt32 31)).toInt32) / (σ2 136 2) * (σ2 136 2)))) [(.ldc_w 338, 3, 0, 0, 0, 1361, 1103515245, 0), (.iload 4, 2, 4, 0, 0, 0, 0, 0), (.imul, 1, 0, 0, 0, 0, 0, 0), (.sipush 12345, 3, 0, 0, 0, 0, 12345, 0), (.iadd, 1, 0, 0, 0, 0, 0, 0), (.istore 4, 2, 4, 0, 0, 0, 0, 0), (.aload_n 0, 1, 0, 0, 0, 0, 0, 0), (.getfield 43, 3, 11, 15, 13, 908, 0, 0), (.iload 5, 2, 5, 0, 0, 0, 0, 0), (.iload 4, 2, 4, 0, 0, 0, 0, 0), (.bipush 16, 2, 0, 0, 0, 0, 16, 0), (.iushr, 1, 0, 0, 0, 0, 0, 0), (.aload_n 0, 1, 0, 0, 0, 0, 0, 0), (.getfield 141, 3, 11, 2, 0, 895, 0, 0), (.irem, 1, 0, 0, 0, 0, 0, 0), (.iastore, 1, 0, 0, 0, 0, 0, 0)] (by decide +kernel) rfl (by simp only [decide_eq_true o2, o1, Bool.and_true, Bool.true_and]) ?_
    obtain ⟨σ3, hσ3⟩ : ∃ s9, s9 = (su σ2 148 (Int32.toNatClampNeg x5) (((((1103515245 * ((1103515245 * ((1103515245 * x4) + 12345)) + 12345)) + 12345).toUInt32 >>> ((16 : Int32).toUInt32 &&& Int32.toUInt32 31)).toInt32) - ((((1103515245 * ((1103515245 * ((1103515245 * x4) + 12345)) + 12345)) + 12345).toUInt32 >>> ((16 : Int32).toUInt32 &&& Int32.toUInt32 31)).toInt32) / (σ2 136 2) * (σ2 136 2))) := ⟨_, rfl⟩
    rw [← hσ3]
    have H := H σ3 hσ3
    refine XA.blk (e9 := 26) (ok := true) (ls' := [some (.ref 136), none, none, some (.int x3), some (.int ((1103515245 * ((1103515245 * ((1103515245 * x4) + 12345)) + 12345)) + 12345)), some (.int (x5 + 1))]) (st' := []) (h' := hs σ3) [(.iinc 5 1, 3, 5, 0, 0, 0, 1, 0), (.goto (-94), 3, 26, 0, 0, 0, 0, 0)] (by decide +kernel) rfl rfl ?_
    exact H
set_option maxRecDepth 20000 in
theorem W_X11_yearsOf_127 {scr : ScA}   {x3 : Int32}  {σ : Nat → Nat → Int32} {P : Int32 → (Nat → Nat → Int32) → Prop} (H : P (if ¬ x3 = 0 then σ 136 18 else σ 136 17 : Int32) σ) : K_X11_yearsOf_127 scr x3 σ P := by
  show XA scr 6 mX11_yearsOf 172 4705 127 [some (.ref 136), none, none, some (.int x3), none, none] [] (hs σ) (pI P)
  refine XA.blk (e9 := 128) (ok := true) (ls' := [some (.ref 136), none, none, some (.int x3), none, none]) (st' := [.int x3]) (h' := hs σ) [(.iload_n 3, 1, 3, 0, 0, 0, 0, 0)] (by decide +kernel) rfl rfl ?_
  have hJ128 : XA scr 6 mX11_yearsOf 172 4705 142 [none, none, none, none, none, none] [.int (if ¬ x3 = 0 then σ 136 18 else σ 136 17 : Int32)] (hs σ) (pI P) := by
    exact XA.ret (some (.int (if ¬ x3 = 0 then σ 136 18 else σ 136 17 : Int32))) rfl (show ckRt mX11_yearsOf 142 .ireturn = true by decide +kernel) trivial (Nat.le_of_ble_eq_true rfl) (Nat.le_of_ble_eq_true rfl) ⟨_, _, rfl, rfl, H⟩
  refine XA.if_ne (10) 138 (by decide +kernel) (fun c1 => ?_) (fun c1 => ?_)
  · refine XA.blk (e9 := 142) (ok := true) (ls' := [some (.ref 136), none, none, some (.int x3), none, none]) (st' := [.int (σ 136 18)]) (h' := hs σ) [(.aload_n 0, 1, 0, 0, 0, 0, 0, 0), (.getfield 192, 3, 11, 18, 0, 911, 0, 0)] (by decide +kernel) rfl rfl ?_
    refine XA.drop (ls := [none, none, none, none, none, none]) (by simp [leL]) ?_
    simpa only [if_pos c1] using hJ128
  · refine XA.blk (e9 := 142) (ok := true) (ls' := [some (.ref 136), none, none, some (.int x3), none, none]) (st' := [.int (σ 136 17)]) (h' := hs σ) [(.aload_n 0, 1, 0, 0, 0, 0, 0, 0), (.getfield 214, 3, 11, 17, 0, 910, 0, 0), (.goto 7, 3, 142, 0, 0, 0, 0, 0)] (by decide +kernel) rfl rfl ?_
    refine XA.drop (ls := [none, none, none, none, none, none]) (by simp [leL]) ?_
    simpa only [if_neg (not_not_intro c1)] using hJ128
theorem E_X11_yearsOf {scr : ScA}  {x1 : Int32} {x2 : Int32} {x3 : Int32} {σ : Nat → Nat → Int32} {P : Int32 → (Nat → Nat → Int32) → Prop} (h : K_X11_yearsOf_0 scr x1 x2 x3 σ P) : CiA scr 6 mX11_yearsOf [.ref 136, .int x1, .int x2, .int x3] σ P := CtA.of (by decide) (Nat.le_of_ble_eq_true rfl) (XA.drop (by simp [leL, enL]) h)
