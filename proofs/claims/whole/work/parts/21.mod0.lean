def K_X11_type_0 (scr : ScA)  (x1 : Int32) (σ : Nat → Nat → Int32) (P : Int32 → (Nat → Nat → Int32) → Prop) : Prop := XA scr 1 mX11_type 172 4705 0 [some (.ref 136), some (.int x1)] [] (hs σ) (pI P)
set_option maxRecDepth 20000 in
theorem W_X11_type_0 {scr : ScA}   {x1 : Int32}  {σ : Nat → Nat → Int32} {P : Int32 → (Nat → Nat → Int32) → Prop} (H : (¬ (inV x1 0 255) = 0 → (¬ (σ 136 0) = 59 → (inB (σ 136 0) 59 = true) ∧ (∀ σ1, σ1 = (su σ 137 (Int32.toNatClampNeg (σ 136 0)) x1) → ∀ σ2, σ2 = (su σ1 136 0 ((σ1 136 0) + 1)) → P (σ2 136 0) σ2)) ∧ ((σ 136 0) = 59 → P (-4) σ)) ∧ ((inV x1 0 255) = 0 → P (-2) σ)) : K_X11_type_0 scr x1 σ P := by
  show XA scr 1 mX11_type 172 4705 0 [some (.ref 136), some (.int x1)] [] (hs σ) (pI P)
  refine XA.blk (e9 := 5) (ok := true) (ls' := [some (.ref 136), some (.int x1)]) (st' := [.int 255, .int 0, .int x1]) (h' := hs σ) [(.iload_n 1, 1, 1, 0, 0, 0, 0, 0), (.iconst 0, 1, 0, 0, 0, 0, 0, 0), (.sipush 255, 3, 0, 0, 0, 0, 255, 0)] (by decide +kernel) rfl rfl ?_
  refine XA.callS (as := [.int x1, .int 0, .int 255]) (rest := []) (mc' := 0) (ms' := 0) (idx := 118) (t := 1061) cs_X11_in (by decide +kernel) rfl rfl (Nat.le_of_ble_eq_true rfl) (Nat.le_of_ble_eq_true rfl) (Nat.le_of_ble_eq_true rfl) (Nat.le_of_ble_eq_true rfl) (pu_X11_in scr σ x1 0 255) (fun rv h' hp => ?_)
  obtain ⟨rfl, rfl⟩ := hp
  refine ⟨rfl, rfl, ?_⟩
  show XA scr 1 mX11_type 172 4705 8 [some (.ref 136), some (.int x1)] [.int (inV x1 0 255)] (hs σ) (pI P)
  refine XA.if_ne (6) 14 (by decide +kernel) (fun c1 => ?_) (fun c1 => ?_)
  · have H := H.1 c1
    refine XA.blk (e9 := 20) (ok := true) (ls' := [some (.ref 136), some (.int x1)]) (st' := [.int 59, .int (σ 136 0)]) (h' := hs σ) [(.aload_n 0, 1, 0, 0, 0, 0, 0, 0), (.getfield 122, 3, 11, 0, 0, 893, 0, 0), (.bipush 59, 2, 0, 0, 0, 0, 59, 0)] (by decide +kernel) rfl rfl ?_
    refine XA.icmp_ne (6) 26 (by decide +kernel) (fun c2 => ?_) (fun c2 => ?_)
    · have H := H.1 c2
      obtain ⟨o1, H⟩ := H
      refine XA.blk (e9 := 36) (ok := inB (σ 136 0) 59 && (true)) (ls' := [some (.ref 136), some (.int x1)]) (st' := []) (h' := hs (su σ 137 (Int32.toNatClampNeg (σ 136 0)) x1)) [(.aload_n 0, 1, 0, 0, 0, 0, 0, 0), (.getfield 7, 3, 11, 1, 2, 894, 0, 0), (.aload_n 0, 1, 0, 0, 0, 0, 0, 0), (.getfield 122, 3, 11, 0, 0, 893, 0, 0), (.iload_n 1, 1, 1, 0, 0, 0, 0, 0), (.iastore, 1, 0, 0, 0, 0, 0, 0)] (by decide +kernel) rfl (by simp only [o1, Bool.and_true, Bool.true_and]) ?_
      obtain ⟨σ1, hσ1⟩ : ∃ s9, s9 = (su σ 137 (Int32.toNatClampNeg (σ 136 0)) x1) := ⟨_, rfl⟩
      rw [← hσ1]
      have H := H σ1 hσ1
      refine XA.blk (e9 := 46) (ok := true) (ls' := [some (.ref 136), some (.int x1)]) (st' := []) (h' := hs (su σ1 136 0 ((σ1 136 0) + 1))) [(.aload_n 0, 1, 0, 0, 0, 0, 0, 0), (.dup, 1, 0, 0, 0, 0, 0, 0), (.getfield 122, 3, 11, 0, 0, 893, 0, 0), (.iconst 1, 1, 0, 0, 0, 0, 1, 0), (.iadd, 1, 0, 0, 0, 0, 0, 0), (.putfield 122, 3, 11, 0, 0, 893, 0, 0)] (by decide +kernel) rfl rfl ?_
      obtain ⟨σ2, hσ2⟩ : ∃ s9, s9 = (su σ1 136 0 ((σ1 136 0) + 1)) := ⟨_, rfl⟩
      rw [← hσ2]
      have H := H σ2 hσ2
      refine XA.blk (e9 := 50) (ok := true) (ls' := [some (.ref 136), some (.int x1)]) (st' := [.int (σ2 136 0)]) (h' := hs σ2) [(.aload_n 0, 1, 0, 0, 0, 0, 0, 0), (.getfield 122, 3, 11, 0, 0, 893, 0, 0)] (by decide +kernel) rfl rfl ?_
      exact XA.ret (some (.int (σ2 136 0))) rfl (show ckRt mX11_type 50 .ireturn = true by decide +kernel) trivial (Nat.le_of_ble_eq_true rfl) (Nat.le_of_ble_eq_true rfl) ⟨_, _, rfl, rfl, H⟩
    · have H := H.2 c2
      refine XA.blk (e9 := 25) (ok := true) (ls' := [some (.ref 136), some (.int x1)]) (st' := [.int (-4)]) (h' := hs σ) [(.bipush (-4), 2, 0, 0, 0, 0, (-4), 0)] (by decide +kernel) rfl rfl ?_
      exact XA.ret (some (.int (-4))) rfl (show ckRt mX11_type 25 .ireturn = true by decide +kernel) trivial (Nat.le_of_ble_eq_true rfl) (Nat.le_of_ble_eq_true rfl) ⟨_, _, rfl, rfl, H⟩
  · have H := H.2 c1
    refine XA.blk (e9 := 13) (ok := true) (ls' := [some (.ref 136), some (.int x1)]) (st' := [.int (-2)]) (h' := hs σ) [(.bipush (-2), 2, 0, 0, 0, 0, (-2), 0)] (by decide +kernel) rfl rfl ?_
    exact XA.ret (some (.int (-2))) rfl (show ckRt mX11_type 13 .ireturn = true by decide +kernel) trivial (Nat.le_of_ble_eq_true rfl) (Nat.le_of_ble_eq_true rfl) ⟨_, _, rfl, rfl, H⟩
theorem E_X11_type {scr : ScA}  {x1 : Int32} {σ : Nat → Nat → Int32} {P : Int32 → (Nat → Nat → Int32) → Prop} (h : K_X11_type_0 scr x1 σ P) : CiA scr 1 mX11_type [.ref 136, .int x1] σ P := CtA.of (by decide) (Nat.le_of_ble_eq_true rfl) (XA.drop (by simp [leL, enL]) h)
def K_X11_readsOne_0 (scr : ScA)  (x1 : Int32) (x2 : Int32) (σ : Nat → Nat → Int32) (P : Int32 → (Nat → Nat → Int32) → Prop) : Prop := XA scr 2 mX11_readsOne 172 4705 0 [some (.ref 136), some (.int x1), some (.int x2), none, none, none, none, none, none] [] (hs σ) (pI P)
def K_X11_readsOne_152 (scr : ScA)  (x1 : Int32) (x4 : Int32) (x5 : Int32) (x6 : Int32) (x7 : Int32) (x8 : Int32) (y0 : Int32) (σ : Nat → Nat → Int32) (P : Int32 → (Nat → Nat → Int32) → Prop) : Prop := XA scr 2 mX11_readsOne 172 4705 152 [some (.ref 136), some (.int x1), none, none, some (.int x4), some (.int x5), some (.int x6), some (.int x7), some (.int x8)] [.int y0] (hs σ) (pI P)
set_option maxRecDepth 20000 in
theorem W_X11_readsOne_0 {scr : ScA}   {x1 : Int32} {x2 : Int32}  {σ : Nat → Nat → Int32} {P : Int32 → (Nat → Nat → Int32) → Prop} (H : (¬ (σ 136 0) ≤ x2 → inB x2 59 = true) ∧ ((¬ (σ 136 0) ≤ (x2 + 1) → inB (x2 + 1) 59 = true) ∧ ((¬ (σ 136 0) ≤ (x2 + 2) → inB (x2 + 2) 59 = true) ∧ ((¬ (σ 136 0) ≤ (x2 + 3) → inB (x2 + 3) 59 = true) ∧ ((¬ (σ 136 0) ≤ (x2 + 4) → inB (x2 + 4) 59 = true) ∧ ((x1 = 10 → P 0 σ) ∧ (¬ x1 = 10 → (¬ (if ¬ (byV σ x2) = 115 then (if ¬ (byV σ x2) = 116 then (if ¬ (byV σ x2) = 99 then (-1) else 2 : Int32) else 1 : Int32) else 0 : Int32) = (-1) → (¬ (inV ((byV σ (x2 + 1)) - 48) 1 9) = 0 → (¬ (inV ((byV σ (x2 + 2)) - 48) 1 9) = 0 → (¬ (inV ((byV σ (x2 + 3)) - 97) 0 23) = 0 → ((inV ((byV σ (x2 + 4)) - 48) 0 9) = 0 → P 4 σ) ∧ (¬ (inV ((byV σ (x2 + 4)) - 48) 0 9) = 0 → CiA scr 0 mX11_isTaken [.ref 136, .int x1, .int ((byV σ (x2 + 4)) - 48)] σ (fun r9 σ' => K_X11_readsOne_152 scr x1 (if ¬ (byV σ x2) = 115 then (if ¬ (byV σ x2) = 116 then (if ¬ (byV σ x2) = 99 then (-1) else 2 : Int32) else 1 : Int32) else 0 : Int32) ((byV σ (x2 + 1)) - 48) ((byV σ (x2 + 2)) - 48) ((byV σ (x2 + 3)) - 97) ((byV σ (x2 + 4)) - 48) r9 σ' P))) ∧ ((inV ((byV σ (x2 + 3)) - 97) 0 23) = 0 → P 3 σ)) ∧ ((inV ((byV σ (x2 + 2)) - 48) 1 9) = 0 → P 2 σ)) ∧ ((inV ((byV σ (x2 + 1)) - 48) 1 9) = 0 → P 1 σ)) ∧ ((if ¬ (byV σ x2) = 115 then (if ¬ (byV σ x2) = 116 then (if ¬ (byV σ x2) = 99 then (-1) else 2 : Int32) else 1 : Int32) else 0 : Int32) = (-1) → P 0 σ)))))))) : K_X11_readsOne_0 scr x1 x2 σ P := by
  show XA scr 2 mX11_readsOne 172 4705 0 [some (.ref 136), some (.int x1), some (.int x2), none, none, none, none, none, none] [] (hs σ) (pI P)
  refine XA.blk (e9 := 2) (ok := true) (ls' := [some (.ref 136), some (.int x1), some (.int x2), none, none, none, none, none, none]) (st' := [.int x2, .ref 136]) (h' := hs σ) [(.aload_n 0, 1, 0, 0, 0, 0, 0, 0), (.iload_n 2, 1, 2, 0, 0, 0, 0, 0)] (by decide +kernel) rfl rfl ?_
  obtain ⟨o1, H⟩ := H
  refine XA.callV (as := [.int x2]) (rest := []) (mc' := 0) (ms' := 0) (idx := 126) (t := 1084) cv_X11_byteAt (by decide +kernel) rfl rfl rfl (Nat.le_of_ble_eq_true rfl) (Nat.le_of_ble_eq_true rfl) (Nat.le_of_ble_eq_true rfl) (Nat.le_of_ble_eq_true rfl) (pu_X11_byteAt scr σ x2 o1) (fun rv h' hp => ?_)
  obtain ⟨rfl, rfl⟩ := hp
  refine ⟨rfl, rfl, ?_⟩
  show XA scr 2 mX11_readsOne 172 4705 5 [some (.ref 136), some (.int x1), some (.int x2), none, none, none, none, none, none] [.int (byV σ x2)] (hs σ) (pI P)
  refine XA.blk (e9 := 9) (ok := true) (ls' := [some (.ref 136), some (.int x1), some (.int x2), some (.int (byV σ x2)), none, none, none, none, none]) (st' := [.int 115, .int (byV σ x2)]) (h' := hs σ) [(.istore_n 3, 1, 3, 0, 0, 0, 0, 0), (.iload_n 3, 1, 3, 0, 0, 0, 0, 0), (.bipush 115, 2, 0, 0, 0, 0, 115, 0)] (by decide +kernel) rfl rfl ?_
  have hJ9 : XA scr 2 mX11_readsOne 172 4705 37 [some (.ref 136), some (.int x1), some (.int x2), none, none, none, none, none, none] [.int (if ¬ (byV σ x2) = 115 then (if ¬ (byV σ x2) = 116 then (if ¬ (byV σ x2) = 99 then (-1) else 2 : Int32) else 1 : Int32) else 0 : Int32)] (hs σ) (pI P) := by
    refine XA.blk (e9 := 43) (ok := true) (ls' := [some (.ref 136), some (.int x1), some (.int x2), none, some (.int (if ¬ (byV σ x2) = 115 then (if ¬ (byV σ x2) = 116 then (if ¬ (byV σ x2) = 99 then (-1) else 2 : Int32) else 1 : Int32) else 0 : Int32)), none, none, none, none]) (st' := [.int (x2 + 1), .ref 136]) (h' := hs σ) [(.istore 4, 2, 4, 0, 0, 0, 0, 0), (.aload_n 0, 1, 0, 0, 0, 0, 0, 0), (.iload_n 2, 1, 2, 0, 0, 0, 0, 0), (.iconst 1, 1, 0, 0, 0, 0, 1, 0), (.iadd, 1, 0, 0, 0, 0, 0, 0)] (by decide +kernel) rfl rfl ?_
    obtain ⟨o2, H⟩ := H
    refine XA.callV (as := [.int (x2 + 1)]) (rest := []) (mc' := 0) (ms' := 0) (idx := 126) (t := 1084) cv_X11_byteAt (by decide +kernel) rfl rfl rfl (Nat.le_of_ble_eq_true rfl) (Nat.le_of_ble_eq_true rfl) (Nat.le_of_ble_eq_true rfl) (Nat.le_of_ble_eq_true rfl) (pu_X11_byteAt scr σ (x2 + 1) o2) (fun rv h' hp => ?_)
    obtain ⟨rfl, rfl⟩ := hp
    refine ⟨rfl, rfl, ?_⟩
    show XA scr 2 mX11_readsOne 172 4705 46 [some (.ref 136), some (.int x1), some (.int x2), none, some (.int (if ¬ (byV σ x2) = 115 then (if ¬ (byV σ x2) = 116 then (if ¬ (byV σ x2) = 99 then (-1) else 2 : Int32) else 1 : Int32) else 0 : Int32)), none, none, none, none] [.int (byV σ (x2 + 1))] (hs σ) (pI P)
    refine XA.blk (e9 := 55) (ok := true) (ls' := [some (.ref 136), some (.int x1), some (.int x2), none, some (.int (if ¬ (byV σ x2) = 115 then (if ¬ (byV σ x2) = 116 then (if ¬ (byV σ x2) = 99 then (-1) else 2 : Int32) else 1 : Int32) else 0 : Int32)), some (.int ((byV σ (x2 + 1)) - 48)), none, none, none]) (st' := [.int (x2 + 2), .ref 136]) (h' := hs σ) [(.bipush 48, 2, 0, 0, 0, 0, 48, 0), (.isub, 1, 0, 0, 0, 0, 0, 0), (.istore 5, 2, 5, 0, 0, 0, 0, 0), (.aload_n 0, 1, 0, 0, 0, 0, 0, 0), (.iload_n 2, 1, 2, 0, 0, 0, 0, 0), (.iconst 2, 1, 0, 0, 0, 0, 2, 0), (.iadd, 1, 0, 0, 0, 0, 0, 0)] (by decide +kernel) rfl rfl ?_
    obtain ⟨o3, H⟩ := H
    refine XA.callV (as := [.int (x2 + 2)]) (rest := []) (mc' := 0) (ms' := 0) (idx := 126) (t := 1084) cv_X11_byteAt (by decide +kernel) rfl rfl rfl (Nat.le_of_ble_eq_true rfl) (Nat.le_of_ble_eq_true rfl) (Nat.le_of_ble_eq_true rfl) (Nat.le_of_ble_eq_true rfl) (pu_X11_byteAt scr σ (x2 + 2) o3) (fun rv h' hp => ?_)
    obtain ⟨rfl, rfl⟩ := hp
    refine ⟨rfl, rfl, ?_⟩
    show XA scr 2 mX11_readsOne 172 4705 58 [some (.ref 136), some (.int x1), some (.int x2), none, some (.int (if ¬ (byV σ x2) = 115 then (if ¬ (byV σ x2) = 116 then (if ¬ (byV σ x2) = 99 then (-1) else 2 : Int32) else 1 : Int32) else 0 : Int32)), some (.int ((byV σ (x2 + 1)) - 48)), none, none, none] [.int (byV σ (x2 + 2))] (hs σ) (pI P)
    refine XA.blk (e9 := 67) (ok := true) (ls' := [some (.ref 136), some (.int x1), some (.int x2), none, some (.int (if ¬ (byV σ x2) = 115 then (if ¬ (byV σ x2) = 116 then (if ¬ (byV σ x2) = 99 then (-1) else 2 : Int32) else 1 : Int32) else 0 : Int32)), some (.int ((byV σ (x2 + 1)) - 48)), some (.int ((byV σ (x2 + 2)) - 48)), none, none]) (st' := [.int (x2 + 3), .ref 136]) (h' := hs σ) [(.bipush 48, 2, 0, 0, 0, 0, 48, 0), (.isub, 1, 0, 0, 0, 0, 0, 0), (.istore 6, 2, 6, 0, 0, 0, 0, 0), (.aload_n 0, 1, 0, 0, 0, 0, 0, 0), (.iload_n 2, 1, 2, 0, 0, 0, 0, 0), (.iconst 3, 1, 0, 0, 0, 0, 3, 0), (.iadd, 1, 0, 0, 0, 0, 0, 0)] (by decide +kernel) rfl rfl ?_
    obtain ⟨o4, H⟩ := H
    refine XA.callV (as := [.int (x2 + 3)]) (rest := []) (mc' := 0) (ms' := 0) (idx := 126) (t := 1084) cv_X11_byteAt (by decide +kernel) rfl rfl rfl (Nat.le_of_ble_eq_true rfl) (Nat.le_of_ble_eq_true rfl) (Nat.le_of_ble_eq_true rfl) (Nat.le_of_ble_eq_true rfl) (pu_X11_byteAt scr σ (x2 + 3) o4) (fun rv h' hp => ?_)
    obtain ⟨rfl, rfl⟩ := hp
    refine ⟨rfl, rfl, ?_⟩
    show XA scr 2 mX11_readsOne 172 4705 70 [some (.ref 136), some (.int x1), some (.int x2), none, some (.int (if ¬ (byV σ x2) = 115 then (if ¬ (byV σ x2) = 116 then (if ¬ (byV σ x2) = 99 then (-1) else 2 : Int32) else 1 : Int32) else 0 : Int32)), some (.int ((byV σ (x2 + 1)) - 48)), some (.int ((byV σ (x2 + 2)) - 48)), none, none] [.int (byV σ (x2 + 3))] (hs σ) (pI P)
    refine XA.blk (e9 := 79) (ok := true) (ls' := [some (.ref 136), some (.int x1), some (.int x2), none, some (.int (if ¬ (byV σ x2) = 115 then (if ¬ (byV σ x2) = 116 then (if ¬ (byV σ x2) = 99 then (-1) else 2 : Int32) else 1 : Int32) else 0 : Int32)), some (.int ((byV σ (x2 + 1)) - 48)), some (.int ((byV σ (x2 + 2)) - 48)), some (.int ((byV σ (x2 + 3)) - 97)), none]) (st' := [.int (x2 + 4), .ref 136]) (h' := hs σ) [(.bipush 97, 2, 0, 0, 0, 0, 97, 0), (.isub, 1, 0, 0, 0, 0, 0, 0), (.istore 7, 2, 7, 0, 0, 0, 0, 0), (.aload_n 0, 1, 0, 0, 0, 0, 0, 0), (.iload_n 2, 1, 2, 0, 0, 0, 0, 0), (.iconst 4, 1, 0, 0, 0, 0, 4, 0), (.iadd, 1, 0, 0, 0, 0, 0, 0)] (by decide +kernel) rfl rfl ?_
    obtain ⟨o5, H⟩ := H
    refine XA.callV (as := [.int (x2 + 4)]) (rest := []) (mc' := 0) (ms' := 0) (idx := 126) (t := 1084) cv_X11_byteAt (by decide +kernel) rfl rfl rfl (Nat.le_of_ble_eq_true rfl) (Nat.le_of_ble_eq_true rfl) (Nat.le_of_ble_eq_true rfl) (Nat.le_of_ble_eq_true rfl) (pu_X11_byteAt scr σ (x2 + 4) o5) (fun rv h' hp => ?_)
    obtain ⟨rfl, rfl⟩ := hp
    refine ⟨rfl, rfl, ?_⟩
    show XA scr 2 mX11_readsOne 172 4705 82 [some (.ref 136), some (.int x1), some (.int x2), none, some (.int (if ¬ (byV σ x2) = 115 then (if ¬ (byV σ x2) = 116 then (if ¬ (byV σ x2) = 99 then (-1) else 2 : Int32) else 1 : Int32) else 0 : Int32)), some (.int ((byV σ (x2 + 1)) - 48)), some (.int ((byV σ (x2 + 2)) - 48)), some (.int ((byV σ (x2 + 3)) - 97)), none] [.int (byV σ (x2 + 4))] (hs σ) (pI P)
    refine XA.blk (e9 := 90) (ok := true) (ls' := [some (.ref 136), some (.int x1), some (.int x2), none, some (.int (if ¬ (byV σ x2) = 115 then (if ¬ (byV σ x2) = 116 then (if ¬ (byV σ x2) = 99 then (-1) else 2 : Int32) else 1 : Int32) else 0 : Int32)), some (.int ((byV σ (x2 + 1)) - 48)), some (.int ((byV σ (x2 + 2)) - 48)), some (.int ((byV σ (x2 + 3)) - 97)), some (.int ((byV σ (x2 + 4)) - 48))]) (st' := [.int 10, .int x1]) (h' := hs σ) [(.bipush 48, 2, 0, 0, 0, 0, 48, 0), (.isub, 1, 0, 0, 0, 0, 0, 0), (.istore 8, 2, 8, 0, 0, 0, 0, 0), (.iload_n 1, 1, 1, 0, 0, 0, 0, 0), (.bipush 10, 2, 0, 0, 0, 0, 10, 0)] (by decide +kernel) rfl rfl ?_
    refine XA.icmp_eq (9) 99 (by decide +kernel) (fun c1 => ?_) (fun c1 => ?_)
    · have H := H.1 c1
      refine XA.blk (e9 := 100) (ok := true) (ls' := [some (.ref 136), some (.int x1), some (.int x2), none, some (.int (if ¬ (byV σ x2) = 115 then (if ¬ (byV σ x2) = 116 then (if ¬ (byV σ x2) = 99 then (-1) else 2 : Int32) else 1 : Int32) else 0 : Int32)), some (.int ((byV σ (x2 + 1)) - 48)), some (.int ((byV σ (x2 + 2)) - 48)), some (.int ((byV σ (x2 + 3)) - 97)), some (.int ((byV σ (x2 + 4)) - 48))]) (st' := [.int 0]) (h' := hs σ) [(.iconst 0, 1, 0, 0, 0, 0, 0, 0)] (by decide +kernel) rfl rfl ?_
      exact XA.ret (some (.int 0)) rfl (show ckRt mX11_readsOne 100 .ireturn = true by decide +kernel) trivial (Nat.le_of_ble_eq_true rfl) (Nat.le_of_ble_eq_true rfl) ⟨_, _, rfl, rfl, H⟩
    · have H := H.2 c1
      refine XA.blk (e9 := 96) (ok := true) (ls' := [some (.ref 136), some (.int x1), some (.int x2), none, some (.int (if ¬ (byV σ x2) = 115 then (if ¬ (byV σ x2) = 116 then (if ¬ (byV σ x2) = 99 then (-1) else 2 : Int32) else 1 : Int32) else 0 : Int32)), some (.int ((byV σ (x2 + 1)) - 48)), some (.int ((byV σ (x2 + 2)) - 48)), some (.int ((byV σ (x2 + 3)) - 97)), some (.int ((byV σ (x2 + 4)) - 48))]) (st' := [.int (-1), .int (if ¬ (byV σ x2) = 115 then (if ¬ (byV σ x2) = 116 then (if ¬ (byV σ x2) = 99 then (-1) else 2 : Int32) else 1 : Int32) else 0 : Int32)]) (h' := hs σ) [(.iload 4, 2, 4, 0, 0, 0, 0, 0), (.iconst (-1), 1, 0, 0, 0, 0, (-1), 0)] (by decide +kernel) rfl rfl ?_
      refine XA.icmp_ne (5) 101 (by decide +kernel) (fun c2 => ?_) (fun c2 => ?_)
      · have H := H.1 c2
        refine XA.blk (e9 := 106) (ok := true) (ls' := [some (.ref 136), some (.int x1), some (.int x2), none, some (.int (if ¬ (byV σ x2) = 115 then (if ¬ (byV σ x2) = 116 then (if ¬ (byV σ x2) = 99 then (-1) else 2 : Int32) else 1 : Int32) else 0 : Int32)), some (.int ((byV σ (x2 + 1)) - 48)), some (.int ((byV σ (x2 + 2)) - 48)), some (.int ((byV σ (x2 + 3)) - 97)), some (.int ((byV σ (x2 + 4)) - 48))]) (st' := [.int 9, .int 1, .int ((byV σ (x2 + 1)) - 48)]) (h' := hs σ) [(.iload 5, 2, 5, 0, 0, 0, 0, 0), (.iconst 1, 1, 0, 0, 0, 0, 1, 0), (.bipush 9, 2, 0, 0, 0, 0, 9, 0)] (by decide +kernel) rfl rfl ?_
        refine XA.callS (as := [.int ((byV σ (x2 + 1)) - 48), .int 1, .int 9]) (rest := []) (mc' := 0) (ms' := 0) (idx := 118) (t := 1061) cs_X11_in (by decide +kernel) rfl rfl (Nat.le_of_ble_eq_true rfl) (Nat.le_of_ble_eq_true rfl) (Nat.le_of_ble_eq_true rfl) (Nat.le_of_ble_eq_true rfl) (pu_X11_in scr σ ((byV σ (x2 + 1)) - 48) 1 9) (fun rv h' hp => ?_)
        obtain ⟨rfl, rfl⟩ := hp
        refine ⟨rfl, rfl, ?_⟩
        show XA scr 2 mX11_readsOne 172 4705 109 [some (.ref 136), some (.int x1), some (.int x2), none, some (.int (if ¬ (byV σ x2) = 115 then (if ¬ (byV σ x2) = 116 then (if ¬ (byV σ x2) = 99 then (-1) else 2 : Int32) else 1 : Int32) else 0 : Int32)), some (.int ((byV σ (x2 + 1)) - 48)), some (.int ((byV σ (x2 + 2)) - 48)), some (.int ((byV σ (x2 + 3)) - 97)), some (.int ((byV σ (x2 + 4)) - 48))] [.int (inV ((byV σ (x2 + 1)) - 48) 1 9)] (hs σ) (pI P)
        refine XA.if_ne (5) 114 (by decide +kernel) (fun c3 => ?_) (fun c3 => ?_)
        · have H := H.1 c3
          refine XA.blk (e9 := 119) (ok := true) (ls' := [some (.ref 136), some (.int x1), some (.int x2), none, some (.int (if ¬ (byV σ x2) = 115 then (if ¬ (byV σ x2) = 116 then (if ¬ (byV σ x2) = 99 then (-1) else 2 : Int32) else 1 : Int32) else 0 : Int32)), some (.int ((byV σ (x2 + 1)) - 48)), some (.int ((byV σ (x2 + 2)) - 48)), some (.int ((byV σ (x2 + 3)) - 97)), some (.int ((byV σ (x2 + 4)) - 48))]) (st' := [.int 9, .int 1, .int ((byV σ (x2 + 2)) - 48)]) (h' := hs σ) [(.iload 6, 2, 6, 0, 0, 0, 0, 0), (.iconst 1, 1, 0, 0, 0, 0, 1, 0), (.bipush 9, 2, 0, 0, 0, 0, 9, 0)] (by decide +kernel) rfl rfl ?_
          refine XA.callS (as := [.int ((byV σ (x2 + 2)) - 48), .int 1, .int 9]) (rest := []) (mc' := 0) (ms' := 0) (idx := 118) (t := 1061) cs_X11_in (by decide +kernel) rfl rfl (Nat.le_of_ble_eq_true rfl) (Nat.le_of_ble_eq_true rfl) (Nat.le_of_ble_eq_true rfl) (Nat.le_of_ble_eq_true rfl) (pu_X11_in scr σ ((byV σ (x2 + 2)) - 48) 1 9) (fun rv h' hp => ?_)
          obtain ⟨rfl, rfl⟩ := hp
          refine ⟨rfl, rfl, ?_⟩
          show XA scr 2 mX11_readsOne 172 4705 122 [some (.ref 136), some (.int x1), some (.int x2), none, some (.int (if ¬ (byV σ x2) = 115 then (if ¬ (byV σ x2) = 116 then (if ¬ (byV σ x2) = 99 then (-1) else 2 : Int32) else 1 : Int32) else 0 : Int32)), some (.int ((byV σ (x2 + 1)) - 48)), some (.int ((byV σ (x2 + 2)) - 48)), some (.int ((byV σ (x2 + 3)) - 97)), some (.int ((byV σ (x2 + 4)) - 48))] [.int (inV ((byV σ (x2 + 2)) - 48) 1 9)] (hs σ) (pI P)
          refine XA.if_ne (5) 127 (by decide +kernel) (fun c4 => ?_) (fun c4 => ?_)
          · have H := H.1 c4
            refine XA.blk (e9 := 129) (ok := true) (ls' := [some (.ref 136), some (.int x1), some (.int x2), none, some (.int (if ¬ (byV σ x2) = 115 then (if ¬ (byV σ x2) = 116 then (if ¬ (byV σ x2) = 99 then (-1) else 2 : Int32) else 1 : Int32) else 0 : Int32)), some (.int ((byV σ (x2 + 1)) - 48)), some (.int ((byV σ (x2 + 2)) - 48)), some (.int ((byV σ (x2 + 3)) - 97)), some (.int ((byV σ (x2 + 4)) - 48))]) (st' := [.int ((byV σ (x2 + 3)) - 97)]) (h' := hs σ) [(.iload 7, 2, 7, 0, 0, 0, 0, 0)] (by decide +kernel) rfl rfl ?_
            refine XA.callS (as := [.int ((byV σ (x2 + 3)) - 97)]) (rest := []) (mc' := 0) (ms' := 0) (idx := 130) (t := 1088) cs_X11_isMoment (by decide +kernel) rfl rfl (Nat.le_of_ble_eq_true rfl) (Nat.le_of_ble_eq_true rfl) (Nat.le_of_ble_eq_true rfl) (Nat.le_of_ble_eq_true rfl) (pu_X11_isMoment scr σ ((byV σ (x2 + 3)) - 97)) (fun rv h' hp => ?_)
            obtain ⟨rfl, rfl⟩ := hp
            refine ⟨rfl, rfl, ?_⟩
            show XA scr 2 mX11_readsOne 172 4705 132 [some (.ref 136), some (.int x1), some (.int x2), none, some (.int (if ¬ (byV σ x2) = 115 then (if ¬ (byV σ x2) = 116 then (if ¬ (byV σ x2) = 99 then (-1) else 2 : Int32) else 1 : Int32) else 0 : Int32)), some (.int ((byV σ (x2 + 1)) - 48)), some (.int ((byV σ (x2 + 2)) - 48)), some (.int ((byV σ (x2 + 3)) - 97)), some (.int ((byV σ (x2 + 4)) - 48))] [.int (inV ((byV σ (x2 + 3)) - 97) 0 23)] (hs σ) (pI P)
            refine XA.if_ne (5) 137 (by decide +kernel) (fun c5 => ?_) (fun c5 => ?_)
            · have H := H.1 c5
              refine XA.blk (e9 := 139) (ok := true) (ls' := [some (.ref 136), some (.int x1), some (.int x2), none, some (.int (if ¬ (byV σ x2) = 115 then (if ¬ (byV σ x2) = 116 then (if ¬ (byV σ x2) = 99 then (-1) else 2 : Int32) else 1 : Int32) else 0 : Int32)), some (.int ((byV σ (x2 + 1)) - 48)), some (.int ((byV σ (x2 + 2)) - 48)), some (.int ((byV σ (x2 + 3)) - 97)), some (.int ((byV σ (x2 + 4)) - 48))]) (st' := [.int ((byV σ (x2 + 4)) - 48)]) (h' := hs σ) [(.iload 8, 2, 8, 0, 0, 0, 0, 0)] (by decide +kernel) rfl rfl ?_
              refine XA.callS (as := [.int ((byV σ (x2 + 4)) - 48)]) (rest := []) (mc' := 0) (ms' := 0) (idx := 134) (t := 1091) cs_X11_isTen (by decide +kernel) rfl rfl (Nat.le_of_ble_eq_true rfl) (Nat.le_of_ble_eq_true rfl) (Nat.le_of_ble_eq_true rfl) (Nat.le_of_ble_eq_true rfl) (pu_X11_isTen scr σ ((byV σ (x2 + 4)) - 48)) (fun rv h' hp => ?_)
              obtain ⟨rfl, rfl⟩ := hp
              refine ⟨rfl, rfl, ?_⟩
              show XA scr 2 mX11_readsOne 172 4705 142 [some (.ref 136), some (.int x1), some (.int x2), none, some (.int (if ¬ (byV σ x2) = 115 then (if ¬ (byV σ x2) = 116 then (if ¬ (byV σ x2) = 99 then (-1) else 2 : Int32) else 1 : Int32) else 0 : Int32)), some (.int ((byV σ (x2 + 1)) - 48)), some (.int ((byV σ (x2 + 2)) - 48)), some (.int ((byV σ (x2 + 3)) - 97)), some (.int ((byV σ (x2 + 4)) - 48))] [.int (inV ((byV σ (x2 + 4)) - 48) 0 9)] (hs σ) (pI P)
              refine XA.if_eq (13) 155 (by decide +kernel) (fun c6 => ?_) (fun c6 => ?_)
              · have H := H.1 c6
                refine XA.blk (e9 := 156) (ok := true) (ls' := [some (.ref 136), some (.int x1), some (.int x2), none, some (.int (if ¬ (byV σ x2) = 115 then (if ¬ (byV σ x2) = 116 then (if ¬ (byV σ x2) = 99 then (-1) else 2 : Int32) else 1 : Int32) else 0 : Int32)), some (.int ((byV σ (x2 + 1)) - 48)), some (.int ((byV σ (x2 + 2)) - 48)), some (.int ((byV σ (x2 + 3)) - 97)), some (.int ((byV σ (x2 + 4)) - 48))]) (st' := [.int 4]) (h' := hs σ) [(.iconst 4, 1, 0, 0, 0, 0, 4, 0)] (by decide +kernel) rfl rfl ?_
                exact XA.ret (some (.int 4)) rfl (show ckRt mX11_readsOne 156 .ireturn = true by decide +kernel) trivial (Nat.le_of_ble_eq_true rfl) (Nat.le_of_ble_eq_true rfl) ⟨_, _, rfl, rfl, H⟩
              · have H := H.2 c6
                refine XA.blk (e9 := 149) (ok := true) (ls' := [some (.ref 136), some (.int x1), some (.int x2), none, some (.int (if ¬ (byV σ x2) = 115 then (if ¬ (byV σ x2) = 116 then (if ¬ (byV σ x2) = 99 then (-1) else 2 : Int32) else 1 : Int32) else 0 : Int32)), some (.int ((byV σ (x2 + 1)) - 48)), some (.int ((byV σ (x2 + 2)) - 48)), some (.int ((byV σ (x2 + 3)) - 97)), some (.int ((byV σ (x2 + 4)) - 48))]) (st' := [.int ((byV σ (x2 + 4)) - 48), .int x1, .ref 136]) (h' := hs σ) [(.aload_n 0, 1, 0, 0, 0, 0, 0, 0), (.iload_n 1, 1, 1, 0, 0, 0, 0, 0), (.iload 8, 2, 8, 0, 0, 0, 0, 0)] (by decide +kernel) rfl rfl ?_
                refine XA.callV (as := [.int x1, .int ((byV σ (x2 + 4)) - 48)]) (rest := []) (mc' := 0) (ms' := 0) (idx := 137) (t := 1094) cv_X11_isTaken (by decide +kernel) rfl rfl rfl (Nat.le_of_ble_eq_true rfl) (Nat.le_of_ble_eq_true rfl) (Nat.le_of_ble_eq_true rfl) (Nat.le_of_ble_eq_true rfl) (H) (fun rv h' hp => ?_)
                obtain ⟨r9, s9, rfl, rfl, hK⟩ := hp
                exact ⟨rfl, rfl, XA.drop (by simp [leL]) hK⟩
            · have H := H.2 c5
              refine XA.blk (e9 := 136) (ok := true) (ls' := [some (.ref 136), some (.int x1), some (.int x2), none, some (.int (if ¬ (byV σ x2) = 115 then (if ¬ (byV σ x2) = 116 then (if ¬ (byV σ x2) = 99 then (-1) else 2 : Int32) else 1 : Int32) else 0 : Int32)), some (.int ((byV σ (x2 + 1)) - 48)), some (.int ((byV σ (x2 + 2)) - 48)), some (.int ((byV σ (x2 + 3)) - 97)), some (.int ((byV σ (x2 + 4)) - 48))]) (st' := [.int 3]) (h' := hs σ) [(.iconst 3, 1, 0, 0, 0, 0, 3, 0)] (by decide +kernel) rfl rfl ?_
              exact XA.ret (some (.int 3)) rfl (show ckRt mX11_readsOne 136 .ireturn = true by decide +kernel) trivial (Nat.le_of_ble_eq_true rfl) (Nat.le_of_ble_eq_true rfl) ⟨_, _, rfl, rfl, H⟩
          · have H := H.2 c4
            refine XA.blk (e9 := 126) (ok := true) (ls' := [some (.ref 136), some (.int x1), some (.int x2), none, some (.int (if ¬ (byV σ x2) = 115 then (if ¬ (byV σ x2) = 116 then (if ¬ (byV σ x2) = 99 then (-1) else 2 : Int32) else 1 : Int32) else 0 : Int32)), some (.int ((byV σ (x2 + 1)) - 48)), some (.int ((byV σ (x2 + 2)) - 48)), some (.int ((byV σ (x2 + 3)) - 97)), some (.int ((byV σ (x2 + 4)) - 48))]) (st' := [.int 2]) (h' := hs σ) [(.iconst 2, 1, 0, 0, 0, 0, 2, 0)] (by decide +kernel) rfl rfl ?_
            exact XA.ret (some (.int 2)) rfl (show ckRt mX11_readsOne 126 .ireturn = true by decide +kernel) trivial (Nat.le_of_ble_eq_true rfl) (Nat.le_of_ble_eq_true rfl) ⟨_, _, rfl, rfl, H⟩
        · have H := H.2 c3
          refine XA.blk (e9 := 113) (ok := true) (ls' := [some (.ref 136), some (.int x1), some (.int x2), none, some (.int (if ¬ (byV σ x2) = 115 then (if ¬ (byV σ x2) = 116 then (if ¬ (byV σ x2) = 99 then (-1) else 2 : Int32) else 1 : Int32) else 0 : Int32)), some (.int ((byV σ (x2 + 1)) - 48)), some (.int ((byV σ (x2 + 2)) - 48)), some (.int ((byV σ (x2 + 3)) - 97)), some (.int ((byV σ (x2 + 4)) - 48))]) (st' := [.int 1]) (h' := hs σ) [(.iconst 1, 1, 0, 0, 0, 0, 1, 0)] (by decide +kernel) rfl rfl ?_
          exact XA.ret (some (.int 1)) rfl (show ckRt mX11_readsOne 113 .ireturn = true by decide +kernel) trivial (Nat.le_of_ble_eq_true rfl) (Nat.le_of_ble_eq_true rfl) ⟨_, _, rfl, rfl, H⟩
      · have H := H.2 c2
        refine XA.blk (e9 := 100) (ok := true) (ls' := [some (.ref 136), some (.int x1), some (.int x2), none, some (.int (if ¬ (byV σ x2) = 115 then (if ¬ (byV σ x2) = 116 then (if ¬ (byV σ x2) = 99 then (-1) else 2 : Int32) else 1 : Int32) else 0 : Int32)), some (.int ((byV σ (x2 + 1)) - 48)), some (.int ((byV σ (x2 + 2)) - 48)), some (.int ((byV σ (x2 + 3)) - 97)), some (.int ((byV σ (x2 + 4)) - 48))]) (st' := [.int 0]) (h' := hs σ) [(.iconst 0, 1, 0, 0, 0, 0, 0, 0)] (by decide +kernel) rfl rfl ?_
        exact XA.ret (some (.int 0)) rfl (show ckRt mX11_readsOne 100 .ireturn = true by decide +kernel) trivial (Nat.le_of_ble_eq_true rfl) (Nat.le_of_ble_eq_true rfl) ⟨_, _, rfl, rfl, H⟩
  refine XA.icmp_ne (7) 16 (by decide +kernel) (fun c1 => ?_) (fun c1 => ?_)
  · refine XA.blk (e9 := 19) (ok := true) (ls' := [some (.ref 136), some (.int x1), some (.int x2), some (.int (byV σ x2)), none, none, none, none, none]) (st' := [.int 116, .int (byV σ x2)]) (h' := hs σ) [(.iload_n 3, 1, 3, 0, 0, 0, 0, 0), (.bipush 116, 2, 0, 0, 0, 0, 116, 0)] (by decide +kernel) rfl rfl ?_
    have hJ19 : XA scr 2 mX11_readsOne 172 4705 37 [some (.ref 136), some (.int x1), some (.int x2), none, none, none, none, none, none] [.int (if ¬ (byV σ x2) = 116 then (if ¬ (byV σ x2) = 99 then (-1) else 2 : Int32) else 1 : Int32)] (hs σ) (pI P) := by
      simpa only [if_pos c1] using hJ9
    refine XA.icmp_ne (7) 26 (by decide +kernel) (fun c2 => ?_) (fun c2 => ?_)
    · refine XA.blk (e9 := 29) (ok := true) (ls' := [some (.ref 136), some (.int x1), some (.int x2), some (.int (byV σ x2)), none, none, none, none, none]) (st' := [.int 99, .int (byV σ x2)]) (h' := hs σ) [(.iload_n 3, 1, 3, 0, 0, 0, 0, 0), (.bipush 99, 2, 0, 0, 0, 0, 99, 0)] (by decide +kernel) rfl rfl ?_
      have hJ29 : XA scr 2 mX11_readsOne 172 4705 37 [some (.ref 136), some (.int x1), some (.int x2), none, none, none, none, none, none] [.int (if ¬ (byV σ x2) = 99 then (-1) else 2 : Int32)] (hs σ) (pI P) := by
        simpa only [if_pos c2] using hJ19
      refine XA.icmp_ne (7) 36 (by decide +kernel) (fun c3 => ?_) (fun c3 => ?_)
      · refine XA.blk (e9 := 37) (ok := true) (ls' := [some (.ref 136), some (.int x1), some (.int x2), some (.int (byV σ x2)), none, none, none, none, none]) (st' := [.int (-1)]) (h' := hs σ) [(.iconst (-1), 1, 0, 0, 0, 0, (-1), 0)] (by decide +kernel) rfl rfl ?_
        refine XA.drop (ls := [some (.ref 136), some (.int x1), some (.int x2), none, none, none, none, none, none]) (by simp [leL]) ?_
        simpa only [if_pos c3] using hJ29
      · refine XA.blk (e9 := 37) (ok := true) (ls' := [some (.ref 136), some (.int x1), some (.int x2), some (.int (byV σ x2)), none, none, none, none, none]) (st' := [.int 2]) (h' := hs σ) [(.iconst 2, 1, 0, 0, 0, 0, 2, 0), (.goto 4, 3, 37, 0, 0, 0, 0, 0)] (by decide +kernel) rfl rfl ?_
        refine XA.drop (ls := [some (.ref 136), some (.int x1), some (.int x2), none, none, none, none, none, none]) (by simp [leL]) ?_
        simpa only [if_neg (not_not_intro c3)] using hJ29
    · refine XA.blk (e9 := 37) (ok := true) (ls' := [some (.ref 136), some (.int x1), some (.int x2), some (.int (byV σ x2)), none, none, none, none, none]) (st' := [.int 1]) (h' := hs σ) [(.iconst 1, 1, 0, 0, 0, 0, 1, 0), (.goto 14, 3, 37, 0, 0, 0, 0, 0)] (by decide +kernel) rfl rfl ?_
      refine XA.drop (ls := [some (.ref 136), some (.int x1), some (.int x2), none, none, none, none, none, none]) (by simp [leL]) ?_
      simpa only [if_neg (not_not_intro c2)] using hJ19
  · refine XA.blk (e9 := 37) (ok := true) (ls' := [some (.ref 136), some (.int x1), some (.int x2), some (.int (byV σ x2)), none, none, none, none, none]) (st' := [.int 0]) (h' := hs σ) [(.iconst 0, 1, 0, 0, 0, 0, 0, 0), (.goto 24, 3, 37, 0, 0, 0, 0, 0)] (by decide +kernel) rfl rfl ?_
    refine XA.drop (ls := [some (.ref 136), some (.int x1), some (.int x2), none, none, none, none, none, none]) (by simp [leL]) ?_
    simpa only [if_neg (not_not_intro c1)] using hJ9
set_option maxRecDepth 20000 in
theorem W_X11_readsOne_152 {scr : ScA}   {x1 : Int32} {x4 : Int32} {x5 : Int32} {x6 : Int32} {x7 : Int32} {x8 : Int32} {y0 : Int32}  {σ : Nat → Nat → Int32} {P : Int32 → (Nat → Nat → Int32) → Prop} (H : (y0 = 0 → (inB x1 11 = true) ∧ (∀ σ1, σ1 = (su σ 138 (Int32.toNatClampNeg x1) x4) → ∀ σ2, σ2 = (su σ1 139 (Int32.toNatClampNeg x1) x5) → ∀ σ3, σ3 = (su σ2 140 (Int32.toNatClampNeg x1) x6) → ∀ σ4, σ4 = (su σ3 141 (Int32.toNatClampNeg x1) x7) → ∀ σ5, σ5 = (su σ4 142 (Int32.toNatClampNeg x1) x8) → P 5 σ5)) ∧ (¬ y0 = 0 → P 4 σ)) : K_X11_readsOne_152 scr x1 x4 x5 x6 x7 x8 y0 σ P := by
  show XA scr 2 mX11_readsOne 172 4705 152 [some (.ref 136), some (.int x1), none, none, some (.int x4), some (.int x5), some (.int x6), some (.int x7), some (.int x8)] [.int y0] (hs σ) (pI P)
  refine XA.if_eq (5) 157 (by decide +kernel) (fun c1 => ?_) (fun c1 => ?_)
  · have H := H.1 c1
    obtain ⟨o1, H⟩ := H
    refine XA.blk (e9 := 165) (ok := inB x1 11 && (true)) (ls' := [some (.ref 136), some (.int x1), none, none, some (.int x4), some (.int x5), some (.int x6), some (.int x7), some (.int x8)]) (st' := []) (h' := hs (su σ 138 (Int32.toNatClampNeg x1) x4)) [(.aload_n 0, 1, 0, 0, 0, 0, 0, 0), (.getfield 13, 3, 11, 3, 3, 896, 0, 0), (.iload_n 1, 1, 1, 0, 0, 0, 0, 0), (.iload 4, 2, 4, 0, 0, 0, 0, 0), (.iastore, 1, 0, 0, 0, 0, 0, 0)] (by decide +kernel) rfl (by simp only [o1, Bool.and_true, Bool.true_and]) ?_
    obtain ⟨σ1, hσ1⟩ : ∃ s9, s9 = (su σ 138 (Int32.toNatClampNeg x1) x4) := ⟨_, rfl⟩
    rw [← hσ1]
    have H := H σ1 hσ1
    refine XA.blk (e9 := 173) (ok := inB x1 11 && (true)) (ls' := [some (.ref 136), some (.int x1), none, none, some (.int x4), some (.int x5), some (.int x6), some (.int x7), some (.int x8)]) (st' := []) (h' := hs (su σ1 139 (Int32.toNatClampNeg x1) x5)) [(.aload_n 0, 1, 0, 0, 0, 0, 0, 0), (.getfield 16, 3, 11, 4, 4, 897, 0, 0), (.iload_n 1, 1, 1, 0, 0, 0, 0, 0), (.iload 5, 2, 5, 0, 0, 0, 0, 0), (.iastore, 1, 0, 0, 0, 0, 0, 0)] (by decide +kernel) rfl (by simp only [o1, Bool.and_true, Bool.true_and]) ?_
    obtain ⟨σ2, hσ2⟩ : ∃ s9, s9 = (su σ1 139 (Int32.toNatClampNeg x1) x5) := ⟨_, rfl⟩
    rw [← hσ2]
    have H := H σ2 hσ2
    refine XA.blk (e9 := 181) (ok := inB x1 11 && (true)) (ls' := [some (.ref 136), some (.int x1), none, none, some (.int x4), some (.int x5), some (.int x6), some (.int x7), some (.int x8)]) (st' := []) (h' := hs (su σ2 140 (Int32.toNatClampNeg x1) x6)) [(.aload_n 0, 1, 0, 0, 0, 0, 0, 0), (.getfield 19, 3, 11, 5, 5, 898, 0, 0), (.iload_n 1, 1, 1, 0, 0, 0, 0, 0), (.iload 6, 2, 6, 0, 0, 0, 0, 0), (.iastore, 1, 0, 0, 0, 0, 0, 0)] (by decide +kernel) rfl (by simp only [o1, Bool.and_true, Bool.true_and]) ?_
    obtain ⟨σ3, hσ3⟩ : ∃ s9, s9 = (su σ2 140 (Int32.toNatClampNeg x1) x6) := ⟨_, rfl⟩
    rw [← hσ3]
    have H := H σ3 hσ3
    refine XA.blk (e9 := 189) (ok := inB x1 11 && (true)) (ls' := [some (.ref 136), some (.int x1), none, none, some (.int x4), some (.int x5), some (.int x6), some (.int x7), some (.int x8)]) (st' := []) (h' := hs (su σ3 141 (Int32.toNatClampNeg x1) x7)) [(.aload_n 0, 1, 0, 0, 0, 0, 0, 0), (.getfield 22, 3, 11, 6, 6, 899, 0, 0), (.iload_n 1, 1, 1, 0, 0, 0, 0, 0), (.iload 7, 2, 7, 0, 0, 0, 0, 0), (.iastore, 1, 0, 0, 0, 0, 0, 0)] (by decide +kernel) rfl (by simp only [o1, Bool.and_true, Bool.true_and]) ?_
    obtain ⟨σ4, hσ4⟩ : ∃ s9, s9 = (su σ3 141 (Int32.toNatClampNeg x1) x7) := ⟨_, rfl⟩
    rw [← hσ4]
    have H := H σ4 hσ4
    refine XA.blk (e9 := 197) (ok := inB x1 11 && (true)) (ls' := [some (.ref 136), some (.int x1), none, none, some (.int x4), some (.int x5), some (.int x6), some (.int x7), some (.int x8)]) (st' := []) (h' := hs (su σ4 142 (Int32.toNatClampNeg x1) x8)) [(.aload_n 0, 1, 0, 0, 0, 0, 0, 0), (.getfield 25, 3, 11, 7, 7, 900, 0, 0), (.iload_n 1, 1, 1, 0, 0, 0, 0, 0), (.iload 8, 2, 8, 0, 0, 0, 0, 0), (.iastore, 1, 0, 0, 0, 0, 0, 0)] (by decide +kernel) rfl (by simp only [o1, Bool.and_true, Bool.true_and]) ?_
    obtain ⟨σ5, hσ5⟩ : ∃ s9, s9 = (su σ4 142 (Int32.toNatClampNeg x1) x8) := ⟨_, rfl⟩
    rw [← hσ5]
    have H := H σ5 hσ5
    refine XA.blk (e9 := 198) (ok := true) (ls' := [some (.ref 136), some (.int x1), none, none, some (.int x4), some (.int x5), some (.int x6), some (.int x7), some (.int x8)]) (st' := [.int 5]) (h' := hs σ5) [(.iconst 5, 1, 0, 0, 0, 0, 5, 0)] (by decide +kernel) rfl rfl ?_
    exact XA.ret (some (.int 5)) rfl (show ckRt mX11_readsOne 198 .ireturn = true by decide +kernel) trivial (Nat.le_of_ble_eq_true rfl) (Nat.le_of_ble_eq_true rfl) ⟨_, _, rfl, rfl, H⟩
  · have H := H.2 c1
    refine XA.blk (e9 := 156) (ok := true) (ls' := [some (.ref 136), some (.int x1), none, none, some (.int x4), some (.int x5), some (.int x6), some (.int x7), some (.int x8)]) (st' := [.int 4]) (h' := hs σ) [(.iconst 4, 1, 0, 0, 0, 0, 4, 0)] (by decide +kernel) rfl rfl ?_
    exact XA.ret (some (.int 4)) rfl (show ckRt mX11_readsOne 156 .ireturn = true by decide +kernel) trivial (Nat.le_of_ble_eq_true rfl) (Nat.le_of_ble_eq_true rfl) ⟨_, _, rfl, rfl, H⟩
theorem E_X11_readsOne {scr : ScA}  {x1 : Int32} {x2 : Int32} {σ : Nat → Nat → Int32} {P : Int32 → (Nat → Nat → Int32) → Prop} (h : K_X11_readsOne_0 scr x1 x2 σ P) : CiA scr 2 mX11_readsOne [.ref 136, .int x1, .int x2] σ P := CtA.of (by decide) (Nat.le_of_ble_eq_true rfl) (XA.drop (by simp [leL, enL]) h)
def K_X11_faultOf_0 (scr : ScA)   (σ : Nat → Nat → Int32) (P : Int32 → (Nat → Nat → Int32) → Prop) : Prop := XA scr 3 mX11_faultOf 172 4705 0 [some (.ref 136), none, none, none] [] (hs σ) (pI P)
def K_X11_faultOf_9 (scr : ScA)  (x1 : Int32) (x2 : Int32) (σ : Nat → Nat → Int32) (P : Int32 → (Nat → Nat → Int32) → Prop) : Prop := XA scr 3 mX11_faultOf 172 4705 9 [some (.ref 136), some (.int x1), some (.int x2), none] [] (hs σ) (pI P)
def K_X11_faultOf_27 (scr : ScA)  (x1 : Int32) (x2 : Int32) (y0 : Int32) (σ : Nat → Nat → Int32) (P : Int32 → (Nat → Nat → Int32) → Prop) : Prop := XA scr 3 mX11_faultOf 172 4705 27 [some (.ref 136), some (.int x1), some (.int x2), none] [.int y0] (hs σ) (pI P)
set_option maxRecDepth 20000 in
theorem W_X11_faultOf_0 {scr : ScA}     {σ : Nat → Nat → Int32} {P : Int32 → (Nat → Nat → Int32) → Prop} (H : ∀ σ1, σ1 = (su σ 136 2 0) → K_X11_faultOf_9 scr 0 0 σ1 P) : K_X11_faultOf_0 scr σ P := by
  show XA scr 3 mX11_faultOf 172 4705 0 [some (.ref 136), none, none, none] [] (hs σ) (pI P)
  refine XA.blk (e9 := 9) (ok := true) (ls' := [some (.ref 136), some (.int 0), some (.int 0), none]) (st' := []) (h' := hs (su σ 136 2 0)) [(.iconst 0, 1, 0, 0, 0, 0, 0, 0), (.istore_n 1, 1, 1, 0, 0, 0, 0, 0), (.iconst 0, 1, 0, 0, 0, 0, 0, 0), (.istore_n 2, 1, 2, 0, 0, 0, 0, 0), (.aload_n 0, 1, 0, 0, 0, 0, 0, 0), (.iconst 0, 1, 0, 0, 0, 0, 0, 0), (.putfield 141, 3, 11, 2, 0, 895, 0, 0)] (by decide +kernel) rfl rfl ?_
  obtain ⟨σ1, hσ1⟩ : ∃ s9, s9 = (su σ 136 2 0) := ⟨_, rfl⟩
  rw [← hσ1]
  have H := H σ1 hσ1
  exact H
set_option maxRecDepth 20000 in
theorem W_X11_faultOf_9 {scr : ScA}   {x1 : Int32} {x2 : Int32}  {σ : Nat → Nat → Int32} {P : Int32 → (Nat → Nat → Int32) → Prop} (H : (x2 < (σ 136 0) → CiA scr 2 mX11_readsOne [.ref 136, .int x1, .int x2] σ (fun r9 σ' => K_X11_faultOf_27 scr x1 x2 r9 σ' P)) ∧ (¬ x2 < (σ 136 0) → (x2 ≤ 0 → P (-1) σ) ∧ (¬ x2 ≤ 0 → CiA scr 2 mX11_readsOne [.ref 136, .int x1, .int x2] σ (fun r9 σ' => K_X11_faultOf_27 scr x1 x2 r9 σ' P)))) : K_X11_faultOf_9 scr x1 x2 σ P := by
  show XA scr 3 mX11_faultOf 172 4705 9 [some (.ref 136), some (.int x1), some (.int x2), none] [] (hs σ) (pI P)
  refine XA.blk (e9 := 14) (ok := true) (ls' := [some (.ref 136), some (.int x1), some (.int x2), none]) (st' := [.int (σ 136 0), .int x2]) (h' := hs σ) [(.iload_n 2, 1, 2, 0, 0, 0, 0, 0), (.aload_n 0, 1, 0, 0, 0, 0, 0, 0), (.getfield 122, 3, 11, 0, 0, 893, 0, 0)] (by decide +kernel) rfl rfl ?_
  refine XA.icmp_lt (7) 21 (by decide +kernel) (fun c1 => ?_) (fun c1 => ?_)
  · have H := H.1 c1
    refine XA.blk (e9 := 24) (ok := true) (ls' := [some (.ref 136), some (.int x1), some (.int x2), none]) (st' := [.int x2, .int x1, .ref 136]) (h' := hs σ) [(.aload_n 0, 1, 0, 0, 0, 0, 0, 0), (.iload_n 1, 1, 1, 0, 0, 0, 0, 0), (.iload_n 2, 1, 2, 0, 0, 0, 0, 0)] (by decide +kernel) rfl rfl ?_
    refine XA.callV (as := [.int x1, .int x2]) (rest := []) (mc' := 0) (ms' := 0) (idx := 144) (t := 1080) cv_X11_readsOne (by decide +kernel) rfl rfl rfl (Nat.le_of_ble_eq_true rfl) (Nat.le_of_ble_eq_true rfl) (Nat.le_of_ble_eq_true rfl) (Nat.le_of_ble_eq_true rfl) (H) (fun rv h' hp => ?_)
    obtain ⟨r9, s9, rfl, rfl, hK⟩ := hp
    exact ⟨rfl, rfl, hK⟩
  · have H := H.2 c1
    refine XA.blk (e9 := 18) (ok := true) (ls' := [some (.ref 136), some (.int x1), some (.int x2), none]) (st' := [.int x2]) (h' := hs σ) [(.iload_n 2, 1, 2, 0, 0, 0, 0, 0)] (by decide +kernel) rfl rfl ?_
    refine XA.if_le (58) 76 (by decide +kernel) (fun c2 => ?_) (fun c2 => ?_)
    · have H := H.1 c2
      refine XA.blk (e9 := 77) (ok := true) (ls' := [some (.ref 136), some (.int x1), some (.int x2), none]) (st' := [.int (-1)]) (h' := hs σ) [(.iconst (-1), 1, 0, 0, 0, 0, (-1), 0)] (by decide +kernel) rfl rfl ?_
      exact XA.ret (some (.int (-1))) rfl (show ckRt mX11_faultOf 77 .ireturn = true by decide +kernel) trivial (Nat.le_of_ble_eq_true rfl) (Nat.le_of_ble_eq_true rfl) ⟨_, _, rfl, rfl, H⟩
    · have H := H.2 c2
      refine XA.blk (e9 := 24) (ok := true) (ls' := [some (.ref 136), some (.int x1), some (.int x2), none]) (st' := [.int x2, .int x1, .ref 136]) (h' := hs σ) [(.aload_n 0, 1, 0, 0, 0, 0, 0, 0), (.iload_n 1, 1, 1, 0, 0, 0, 0, 0), (.iload_n 2, 1, 2, 0, 0, 0, 0, 0)] (by decide +kernel) rfl rfl ?_
      refine XA.callV (as := [.int x1, .int x2]) (rest := []) (mc' := 0) (ms' := 0) (idx := 144) (t := 1080) cv_X11_readsOne (by decide +kernel) rfl rfl rfl (Nat.le_of_ble_eq_true rfl) (Nat.le_of_ble_eq_true rfl) (Nat.le_of_ble_eq_true rfl) (Nat.le_of_ble_eq_true rfl) (H) (fun rv h' hp => ?_)
      obtain ⟨r9, s9, rfl, rfl, hK⟩ := hp
      exact ⟨rfl, rfl, hK⟩
set_option maxRecDepth 20000 in
theorem W_X11_faultOf_27 {scr : ScA}   {x1 : Int32} {x2 : Int32} {y0 : Int32}  {σ : Nat → Nat → Int32} {P : Int32 → (Nat → Nat → Int32) → Prop} (H : (5 ≤ y0 → (¬ (x2 + 5) = (σ 136 0) → (¬ (σ 136 0) ≤ (x2 + 5) → inB (x2 + 5) 59 = true) ∧ (((byV σ (x2 + 5)) = 59 → K_X11_faultOf_9 scr (x1 + 1) ((x2 + 5) + 1) σ P) ∧ (¬ (byV σ (x2 + 5)) = 59 → P (x2 + 5) σ))) ∧ ((x2 + 5) = (σ 136 0) → ∀ σ1, σ1 = (su σ 136 2 (x1 + 1)) → P (-1) σ1)) ∧ (¬ 5 ≤ y0 → P (x2 + y0) σ)) : K_X11_faultOf_27 scr x1 x2 y0 σ P := by
  show XA scr 3 mX11_faultOf 172 4705 27 [some (.ref 136), some (.int x1), some (.int x2), none] [.int y0] (hs σ) (pI P)
  refine XA.blk (e9 := 30) (ok := true) (ls' := [some (.ref 136), some (.int x1), some (.int x2), some (.int y0)]) (st' := [.int 5, .int y0]) (h' := hs σ) [(.istore_n 3, 1, 3, 0, 0, 0, 0, 0), (.iload_n 3, 1, 3, 0, 0, 0, 0, 0), (.iconst 5, 1, 0, 0, 0, 0, 5, 0)] (by decide +kernel) rfl rfl ?_
  refine XA.icmp_ge (7) 37 (by decide +kernel) (fun c1 => ?_) (fun c1 => ?_)
  · have H := H.1 c1
    refine XA.blk (e9 := 48) (ok := true) (ls' := [some (.ref 136), some (.int (x1 + 1)), some (.int (x2 + 5)), some (.int y0)]) (st' := [.int (σ 136 0), .int (x2 + 5)]) (h' := hs σ) [(.iinc 1 1, 3, 1, 0, 0, 0, 1, 0), (.iinc 2 5, 3, 2, 0, 0, 0, 5, 0), (.iload_n 2, 1, 2, 0, 0, 0, 0, 0), (.aload_n 0, 1, 0, 0, 0, 0, 0, 0), (.getfield 122, 3, 11, 0, 0, 893, 0, 0)] (by decide +kernel) rfl rfl ?_
    refine XA.icmp_ne (10) 58 (by decide +kernel) (fun c2 => ?_) (fun c2 => ?_)
    · have H := H.1 c2
      refine XA.blk (e9 := 60) (ok := true) (ls' := [some (.ref 136), some (.int (x1 + 1)), some (.int (x2 + 5)), some (.int y0)]) (st' := [.int (x2 + 5), .ref 136]) (h' := hs σ) [(.aload_n 0, 1, 0, 0, 0, 0, 0, 0), (.iload_n 2, 1, 2, 0, 0, 0, 0, 0)] (by decide +kernel) rfl rfl ?_
      obtain ⟨o1, H⟩ := H
      refine XA.callV (as := [.int (x2 + 5)]) (rest := []) (mc' := 0) (ms' := 0) (idx := 126) (t := 1084) cv_X11_byteAt (by decide +kernel) rfl rfl rfl (Nat.le_of_ble_eq_true rfl) (Nat.le_of_ble_eq_true rfl) (Nat.le_of_ble_eq_true rfl) (Nat.le_of_ble_eq_true rfl) (pu_X11_byteAt scr σ (x2 + 5) o1) (fun rv h' hp => ?_)
      obtain ⟨rfl, rfl⟩ := hp
      refine ⟨rfl, rfl, ?_⟩
      show XA scr 3 mX11_faultOf 172 4705 63 [some (.ref 136), some (.int (x1 + 1)), some (.int (x2 + 5)), some (.int y0)] [.int (byV σ (x2 + 5))] (hs σ) (pI P)
      refine XA.blk (e9 := 65) (ok := true) (ls' := [some (.ref 136), some (.int (x1 + 1)), some (.int (x2 + 5)), some (.int y0)]) (st' := [.int 59, .int (byV σ (x2 + 5))]) (h' := hs σ) [(.bipush 59, 2, 0, 0, 0, 0, 59, 0)] (by decide +kernel) rfl rfl ?_
      refine XA.icmp_eq (5) 70 (by decide +kernel) (fun c3 => ?_) (fun c3 => ?_)
      · have H := H.1 c3
        refine XA.blk (e9 := 9) (ok := true) (ls' := [some (.ref 136), some (.int (x1 + 1)), some (.int ((x2 + 5) + 1)), some (.int y0)]) (st' := []) (h' := hs σ) [(.iinc 2 1, 3, 2, 0, 0, 0, 1, 0), (.goto (-64), 3, 9, 0, 0, 0, 0, 0)] (by decide +kernel) rfl rfl ?_
        exact XA.drop (by simp [leL]) H
      · have H := H.2 c3
        refine XA.blk (e9 := 69) (ok := true) (ls' := [some (.ref 136), some (.int (x1 + 1)), some (.int (x2 + 5)), some (.int y0)]) (st' := [.int (x2 + 5)]) (h' := hs σ) [(.iload_n 2, 1, 2, 0, 0, 0, 0, 0)] (by decide +kernel) rfl rfl ?_
        exact XA.ret (some (.int (x2 + 5))) rfl (show ckRt mX11_faultOf 69 .ireturn = true by decide +kernel) trivial (Nat.le_of_ble_eq_true rfl) (Nat.le_of_ble_eq_true rfl) ⟨_, _, rfl, rfl, H⟩
    · have H := H.2 c2
      refine XA.blk (e9 := 56) (ok := true) (ls' := [some (.ref 136), some (.int (x1 + 1)), some (.int (x2 + 5)), some (.int y0)]) (st' := []) (h' := hs (su σ 136 2 (x1 + 1))) [(.aload_n 0, 1, 0, 0, 0, 0, 0, 0), (.iload_n 1, 1, 1, 0, 0, 0, 0, 0), (.putfield 141, 3, 11, 2, 0, 895, 0, 0)] (by decide +kernel) rfl rfl ?_
      obtain ⟨σ1, hσ1⟩ : ∃ s9, s9 = (su σ 136 2 (x1 + 1)) := ⟨_, rfl⟩
      rw [← hσ1]
      have H := H σ1 hσ1
      refine XA.blk (e9 := 57) (ok := true) (ls' := [some (.ref 136), some (.int (x1 + 1)), some (.int (x2 + 5)), some (.int y0)]) (st' := [.int (-1)]) (h' := hs σ1) [(.iconst (-1), 1, 0, 0, 0, 0, (-1), 0)] (by decide +kernel) rfl rfl ?_
      exact XA.ret (some (.int (-1))) rfl (show ckRt mX11_faultOf 57 .ireturn = true by decide +kernel) trivial (Nat.le_of_ble_eq_true rfl) (Nat.le_of_ble_eq_true rfl) ⟨_, _, rfl, rfl, H⟩
  · have H := H.2 c1
    refine XA.blk (e9 := 36) (ok := true) (ls' := [some (.ref 136), some (.int x1), some (.int x2), some (.int y0)]) (st' := [.int (x2 + y0)]) (h' := hs σ) [(.iload_n 2, 1, 2, 0, 0, 0, 0, 0), (.iload_n 3, 1, 3, 0, 0, 0, 0, 0), (.iadd, 1, 0, 0, 0, 0, 0, 0)] (by decide +kernel) rfl rfl ?_
    exact XA.ret (some (.int (x2 + y0))) rfl (show ckRt mX11_faultOf 36 .ireturn = true by decide +kernel) trivial (Nat.le_of_ble_eq_true rfl) (Nat.le_of_ble_eq_true rfl) ⟨_, _, rfl, rfl, H⟩
theorem E_X11_faultOf {scr : ScA}   {σ : Nat → Nat → Int32} {P : Int32 → (Nat → Nat → Int32) → Prop} (h : K_X11_faultOf_0 scr σ P) : CiA scr 3 mX11_faultOf [.ref 136] σ P := CtA.of (by decide) (Nat.le_of_ble_eq_true rfl) (XA.drop (by simp [leL, enL]) h)
def K_X11_reads_0 (scr : ScA)   (σ : Nat → Nat → Int32) (P : (Nat → Nat → Int32) → Prop) : Prop := XA scr 4 mX11_reads 172 4705 0 [some (.ref 136), none] [] (hs σ) (pV P)
def K_X11_reads_4 (scr : ScA)  (y0 : Int32) (σ : Nat → Nat → Int32) (P : (Nat → Nat → Int32) → Prop) : Prop := XA scr 4 mX11_reads 172 4705 4 [none, none] [.int y0] (hs σ) (pV P)
set_option maxRecDepth 20000 in
theorem W_X11_reads_0 {scr : ScA}     {σ : Nat → Nat → Int32} {P : (Nat → Nat → Int32) → Prop} (H : CiA scr 3 mX11_faultOf [.ref 136] σ (fun r9 σ' => K_X11_reads_4 scr r9 σ' P)) : K_X11_reads_0 scr σ P := by
  show XA scr 4 mX11_reads 172 4705 0 [some (.ref 136), none] [] (hs σ) (pV P)
  refine XA.blk (e9 := 1) (ok := true) (ls' := [some (.ref 136), none]) (st' := [.ref 136]) (h' := hs σ) [(.aload_n 0, 1, 0, 0, 0, 0, 0, 0)] (by decide +kernel) rfl rfl ?_
  refine XA.callV (as := []) (rest := []) (mc' := 0) (ms' := 0) (idx := 148) (t := 1076) cv_X11_faultOf (by decide +kernel) rfl rfl rfl (Nat.le_of_ble_eq_true rfl) (Nat.le_of_ble_eq_true rfl) (Nat.le_of_ble_eq_true rfl) (Nat.le_of_ble_eq_true rfl) (H) (fun rv h' hp => ?_)
  obtain ⟨r9, s9, rfl, rfl, hK⟩ := hp
  exact ⟨rfl, rfl, XA.drop (by simp [leL]) hK⟩
set_option maxRecDepth 20000 in
theorem W_X11_reads_4 {scr : ScA}   {y0 : Int32}  {σ : Nat → Nat → Int32} {P : (Nat → Nat → Int32) → Prop} (H : P σ) : K_X11_reads_4 scr y0 σ P := by
  show XA scr 4 mX11_reads 172 4705 4 [none, none] [.int y0] (hs σ) (pV P)
  refine XA.blk (e9 := 5) (ok := true) (ls' := [none, some (.int y0)]) (st' := []) (h' := hs σ) [(.istore_n 1, 1, 1, 0, 0, 0, 0, 0)] (by decide +kernel) rfl rfl ?_
  exact XA.ret none rfl (show ckRt mX11_reads 5 .return_ = true by decide +kernel) trivial (Nat.le_of_ble_eq_true rfl) (Nat.le_of_ble_eq_true rfl) ⟨_, rfl, rfl, H⟩
theorem E_X11_reads {scr : ScA}   {σ : Nat → Nat → Int32} {P : (Nat → Nat → Int32) → Prop} (h : K_X11_reads_0 scr σ P) : CvA scr 4 mX11_reads [.ref 136] σ P := CtA.of (by decide) (Nat.le_of_ble_eq_true rfl) (XA.drop (by simp [leL, enL]) h)
def K_X11_fault_0 (scr : ScA)   (σ : Nat → Nat → Int32) (P : Int32 → (Nat → Nat → Int32) → Prop) : Prop := XA scr 4 mX11_fault 172 4705 0 [some (.ref 136)] [] (hs σ) (pI P)
def K_X11_fault_4 (scr : ScA)  (y0 : Int32) (σ : Nat → Nat → Int32) (P : Int32 → (Nat → Nat → Int32) → Prop) : Prop := XA scr 4 mX11_fault 172 4705 4 [none] [.int y0] (hs σ) (pI P)
set_option maxRecDepth 20000 in
theorem W_X11_fault_0 {scr : ScA}     {σ : Nat → Nat → Int32} {P : Int32 → (Nat → Nat → Int32) → Prop} (H : CiA scr 3 mX11_faultOf [.ref 136] σ (fun r9 σ' => K_X11_fault_4 scr r9 σ' P)) : K_X11_fault_0 scr σ P := by
  show XA scr 4 mX11_fault 172 4705 0 [some (.ref 136)] [] (hs σ) (pI P)
  refine XA.blk (e9 := 1) (ok := true) (ls' := [some (.ref 136)]) (st' := [.ref 136]) (h' := hs σ) [(.aload_n 0, 1, 0, 0, 0, 0, 0, 0)] (by decide +kernel) rfl rfl ?_
  refine XA.callV (as := []) (rest := []) (mc' := 0) (ms' := 0) (idx := 148) (t := 1076) cv_X11_faultOf (by decide +kernel) rfl rfl rfl (Nat.le_of_ble_eq_true rfl) (Nat.le_of_ble_eq_true rfl) (Nat.le_of_ble_eq_true rfl) (Nat.le_of_ble_eq_true rfl) (H) (fun rv h' hp => ?_)
  obtain ⟨r9, s9, rfl, rfl, hK⟩ := hp
  exact ⟨rfl, rfl, XA.drop (by simp [leL]) hK⟩
set_option maxRecDepth 20000 in
theorem W_X11_fault_4 {scr : ScA}   {y0 : Int32}  {σ : Nat → Nat → Int32} {P : Int32 → (Nat → Nat → Int32) → Prop} (H : P y0 σ) : K_X11_fault_4 scr y0 σ P := by
  show XA scr 4 mX11_fault 172 4705 4 [none] [.int y0] (hs σ) (pI P)
  exact XA.ret (some (.int y0)) rfl (show ckRt mX11_fault 4 .ireturn = true by decide +kernel) trivial (Nat.le_of_ble_eq_true rfl) (Nat.le_of_ble_eq_true rfl) ⟨_, _, rfl, rfl, H⟩
theorem E_X11_fault {scr : ScA}   {σ : Nat → Nat → Int32} {P : Int32 → (Nat → Nat → Int32) → Prop} (h : K_X11_fault_0 scr σ P) : CiA scr 4 mX11_fault [.ref 136] σ P := CtA.of (by decide) (Nat.le_of_ble_eq_true rfl) (XA.drop (by simp [leL, enL]) h)
def K_X11_isAcrobat_0 (scr : ScA)  (x1 : Int32) (σ : Nat → Nat → Int32) (P : Int32 → (Nat → Nat → Int32) → Prop) : Prop := XA scr 5 mX11_isAcrobat 172 4705 0 [some (.ref 136), some (.int x1)] [] (hs σ) (pI P)
def K_X11_isAcrobat_4 (scr : ScA)  (x1 : Int32) (σ : Nat → Nat → Int32) (P : Int32 → (Nat → Nat → Int32) → Prop) : Prop := XA scr 5 mX11_isAcrobat 172 4705 4 [some (.ref 136), some (.int x1)] [] (hs σ) (pI P)
set_option maxRecDepth 20000 in
theorem W_X11_isAcrobat_0 {scr : ScA}   {x1 : Int32}  {σ : Nat → Nat → Int32} {P : Int32 → (Nat → Nat → Int32) → Prop} (H : CvA scr 4 mX11_reads [.ref 136] σ (fun σ' => K_X11_isAcrobat_4 scr x1 σ' P)) : K_X11_isAcrobat_0 scr x1 σ P := by
  show XA scr 5 mX11_isAcrobat 172 4705 0 [some (.ref 136), some (.int x1)] [] (hs σ) (pI P)
  refine XA.blk (e9 := 1) (ok := true) (ls' := [some (.ref 136), some (.int x1)]) (st' := [.ref 136]) (h' := hs σ) [(.aload_n 0, 1, 0, 0, 0, 0, 0, 0)] (by decide +kernel) rfl rfl ?_
  refine XA.callV (as := []) (rest := []) (mc' := 0) (ms' := 0) (idx := 152) (t := 1106) cv_X11_reads (by decide +kernel) rfl rfl rfl (Nat.le_of_ble_eq_true rfl) (Nat.le_of_ble_eq_true rfl) (Nat.le_of_ble_eq_true rfl) (Nat.le_of_ble_eq_true rfl) (H) (fun rv h' hp => ?_)
  obtain ⟨s9, rfl, rfl, hK⟩ := hp
  exact ⟨rfl, rfl, hK⟩
set_option maxRecDepth 20000 in
theorem W_X11_isAcrobat_4 {scr : ScA}   {x1 : Int32}  {σ : Nat → Nat → Int32} {P : Int32 → (Nat → Nat → Int32) → Prop} (H : ((inV x1 0 ((σ 136 2) - 1) : Int32) = 0 ∨ (inV x1 0 ((σ 136 2) - 1) : Int32) = 1) ∧ P (inV x1 0 ((σ 136 2) - 1)) σ) : K_X11_isAcrobat_4 scr x1 σ P := by
  show XA scr 5 mX11_isAcrobat 172 4705 4 [some (.ref 136), some (.int x1)] [] (hs σ) (pI P)
  refine XA.blk (e9 := 12) (ok := true) (ls' := [some (.ref 136), some (.int x1)]) (st' := [.int ((σ 136 2) - 1), .int 0, .int x1]) (h' := hs σ) [(.iload_n 1, 1, 1, 0, 0, 0, 0, 0), (.iconst 0, 1, 0, 0, 0, 0, 0, 0), (.aload_n 0, 1, 0, 0, 0, 0, 0, 0), (.getfield 141, 3, 11, 2, 0, 895, 0, 0), (.iconst 1, 1, 0, 0, 0, 0, 1, 0), (.isub, 1, 0, 0, 0, 0, 0, 0)] (by decide +kernel) rfl rfl ?_
  refine XA.callS (as := [.int x1, .int 0, .int ((σ 136 2) - 1)]) (rest := []) (mc' := 0) (ms' := 0) (idx := 118) (t := 1061) cs_X11_in (by decide +kernel) rfl rfl (Nat.le_of_ble_eq_true rfl) (Nat.le_of_ble_eq_true rfl) (Nat.le_of_ble_eq_true rfl) (Nat.le_of_ble_eq_true rfl) (pu_X11_in scr σ x1 0 ((σ 136 2) - 1)) (fun rv h' hp => ?_)
  obtain ⟨rfl, rfl⟩ := hp
  refine ⟨rfl, rfl, ?_⟩
  show XA scr 5 mX11_isAcrobat 172 4705 15 [some (.ref 136), some (.int x1)] [.int (inV x1 0 ((σ 136 2) - 1))] (hs σ) (pI P)
  exact XA.ret (some (.int (inV x1 0 ((σ 136 2) - 1)))) rfl (show ckRt mX11_isAcrobat 15 .ireturn = true by decide +kernel) H.1 (Nat.le_of_ble_eq_true rfl) (Nat.le_of_ble_eq_true rfl) ⟨_, _, rfl, rfl, H.2⟩
theorem E_X11_isAcrobat {scr : ScA}  {x1 : Int32} {σ : Nat → Nat → Int32} {P : Int32 → (Nat → Nat → Int32) → Prop} (h : K_X11_isAcrobat_0 scr x1 σ P) : CiA scr 5 mX11_isAcrobat [.ref 136, .int x1] σ P := CtA.of (by decide) (Nat.le_of_ble_eq_true rfl) (XA.drop (by simp [leL, enL]) h)
def K_X11_acrobat_0 (scr : ScA)  (x1 : Int32) (x2 : Int32) (σ : Nat → Nat → Int32) (P : Int32 → (Nat → Nat → Int32) → Prop) : Prop := XA scr 6 mX11_acrobat 172 4705 0 [some (.ref 136), some (.int x1), some (.int x2)] [] (hs σ) (pI P)
def K_X11_acrobat_5 (scr : ScA)  (x1 : Int32) (x2 : Int32) (y0 : Int32) (σ : Nat → Nat → Int32) (P : Int32 → (Nat → Nat → Int32) → Prop) : Prop := XA scr 6 mX11_acrobat 172 4705 5 [some (.ref 136), some (.int x1), some (.int x2)] [.int y0] (hs σ) (pI P)
set_option maxRecDepth 20000 in
theorem W_X11_acrobat_0 {scr : ScA}   {x1 : Int32} {x2 : Int32}  {σ : Nat → Nat → Int32} {P : Int32 → (Nat → Nat → Int32) → Prop} (H : CiA scr 5 mX11_isAcrobat [.ref 136, .int x1] σ (fun r9 σ' => K_X11_acrobat_5 scr x1 x2 r9 σ' P)) : K_X11_acrobat_0 scr x1 x2 σ P := by
  show XA scr 6 mX11_acrobat 172 4705 0 [some (.ref 136), some (.int x1), some (.int x2)] [] (hs σ) (pI P)
  refine XA.blk (e9 := 2) (ok := true) (ls' := [some (.ref 136), some (.int x1), some (.int x2)]) (st' := [.int x1, .ref 136]) (h' := hs σ) [(.aload_n 0, 1, 0, 0, 0, 0, 0, 0), (.iload_n 1, 1, 1, 0, 0, 0, 0, 0)] (by decide +kernel) rfl rfl ?_
  refine XA.callV (as := [.int x1]) (rest := []) (mc' := 0) (ms' := 0) (idx := 155) (t := 1102) cv_X11_isAcrobat (by decide +kernel) rfl rfl rfl (Nat.le_of_ble_eq_true rfl) (Nat.le_of_ble_eq_true rfl) (Nat.le_of_ble_eq_true rfl) (Nat.le_of_ble_eq_true rfl) (H) (fun rv h' hp => ?_)
  obtain ⟨r9, s9, rfl, rfl, hK⟩ := hp
  exact ⟨rfl, rfl, hK⟩
set_option maxRecDepth 20000 in
theorem W_X11_acrobat_5 {scr : ScA}   {x1 : Int32} {x2 : Int32} {y0 : Int32}  {σ : Nat → Nat → Int32} {P : Int32 → (Nat → Nat → Int32) → Prop} (H : (¬ y0 = 0 → (¬ (inV x2 0 4) = 0 → (inB x1 11 = true))) ∧ (P (if y0 = 0 then (-2) else (if (inV x2 0 4) = 0 then (-2) else aoV σ x1 x2 : Int32) : Int32) σ)) : K_X11_acrobat_5 scr x1 x2 y0 σ P := by
  show XA scr 6 mX11_acrobat 172 4705 5 [some (.ref 136), some (.int x1), some (.int x2)] [.int y0] (hs σ) (pI P)
  obtain ⟨hF5, H⟩ := H
  have hJ5 : XA scr 6 mX11_acrobat 172 4705 28 [none, none, none] [.int (if y0 = 0 then (-2) else (if (inV x2 0 4) = 0 then (-2) else aoV σ x1 x2 : Int32) : Int32)] (hs σ) (pI P) := by
    exact XA.ret (some (.int (if y0 = 0 then (-2) else (if (inV x2 0 4) = 0 then (-2) else aoV σ x1 x2 : Int32) : Int32))) rfl (show ckRt mX11_acrobat 28 .ireturn = true by decide +kernel) trivial (Nat.le_of_ble_eq_true rfl) (Nat.le_of_ble_eq_true rfl) ⟨_, _, rfl, rfl, H⟩
  refine XA.if_eq (21) 26 (by decide +kernel) (fun c1 => ?_) (fun c1 => ?_)
  · refine XA.blk (e9 := 28) (ok := true) (ls' := [some (.ref 136), some (.int x1), some (.int x2)]) (st' := [.int (-2)]) (h' := hs σ) [(.bipush (-2), 2, 0, 0, 0, 0, (-2), 0)] (by decide +kernel) rfl rfl ?_
    refine XA.drop (ls := [none, none, none]) (by simp [leL]) ?_
    simpa only [if_pos c1] using hJ5
  · have H := hF5 c1
    refine XA.blk (e9 := 11) (ok := true) (ls' := [some (.ref 136), some (.int x1), some (.int x2)]) (st' := [.int 4, .int 0, .int x2]) (h' := hs σ) [(.iload_n 2, 1, 2, 0, 0, 0, 0, 0), (.iconst 0, 1, 0, 0, 0, 0, 0, 0), (.iconst 4, 1, 0, 0, 0, 0, 4, 0)] (by decide +kernel) rfl rfl ?_
    refine XA.callS (as := [.int x2, .int 0, .int 4]) (rest := []) (mc' := 0) (ms' := 0) (idx := 118) (t := 1061) cs_X11_in (by decide +kernel) rfl rfl (Nat.le_of_ble_eq_true rfl) (Nat.le_of_ble_eq_true rfl) (Nat.le_of_ble_eq_true rfl) (Nat.le_of_ble_eq_true rfl) (pu_X11_in scr σ x2 0 4) (fun rv h' hp => ?_)
    obtain ⟨rfl, rfl⟩ := hp
    refine ⟨rfl, rfl, ?_⟩
    show XA scr 6 mX11_acrobat 172 4705 14 [some (.ref 136), some (.int x1), some (.int x2)] [.int (inV x2 0 4)] (hs σ) (pI P)
    have hF14 := H
    have hJ14 : XA scr 6 mX11_acrobat 172 4705 28 [none, none, none] [.int (if (inV x2 0 4) = 0 then (-2) else aoV σ x1 x2 : Int32)] (hs σ) (pI P) := by
      simpa only [if_neg c1] using hJ5
    refine XA.if_eq (12) 26 (by decide +kernel) (fun c2 => ?_) (fun c2 => ?_)
    · refine XA.blk (e9 := 28) (ok := true) (ls' := [some (.ref 136), some (.int x1), some (.int x2)]) (st' := [.int (-2)]) (h' := hs σ) [(.bipush (-2), 2, 0, 0, 0, 0, (-2), 0)] (by decide +kernel) rfl rfl ?_
      refine XA.drop (ls := [none, none, none]) (by simp [leL]) ?_
      simpa only [if_pos c2] using hJ14
    · have H := hF14 c2
      refine XA.blk (e9 := 20) (ok := true) (ls' := [some (.ref 136), some (.int x1), some (.int x2)]) (st' := [.int x2, .int x1, .ref 136]) (h' := hs σ) [(.aload_n 0, 1, 0, 0, 0, 0, 0, 0), (.iload_n 1, 1, 1, 0, 0, 0, 0, 0), (.iload_n 2, 1, 2, 0, 0, 0, 0, 0)] (by decide +kernel) rfl rfl ?_
      have o1 := H
      refine XA.callV (as := [.int x1, .int x2]) (rest := []) (mc' := 0) (ms' := 0) (idx := 158) (t := 1110) cv_X11_acrobatOf (by decide +kernel) rfl rfl rfl (Nat.le_of_ble_eq_true rfl) (Nat.le_of_ble_eq_true rfl) (Nat.le_of_ble_eq_true rfl) (Nat.le_of_ble_eq_true rfl) (pu_X11_acrobatOf scr σ x1 x2 o1) (fun rv h' hp => ?_)
      obtain ⟨rfl, rfl⟩ := hp
      refine ⟨rfl, rfl, ?_⟩
      show XA scr 6 mX11_acrobat 172 4705 23 [some (.ref 136), some (.int x1), some (.int x2)] [.int (aoV σ x1 x2)] (hs σ) (pI P)
      refine XA.blk (e9 := 28) (ok := true) (ls' := [some (.ref 136), some (.int x1), some (.int x2)]) (st' := [.int (aoV σ x1 x2)]) (h' := hs σ) [(.goto 5, 3, 28, 0, 0, 0, 0, 0)] (by decide +kernel) rfl rfl ?_
      refine XA.drop (ls := [none, none, none]) (by simp [leL]) ?_
      simpa only [if_neg c2] using hJ14
theorem E_X11_acrobat {scr : ScA}  {x1 : Int32} {x2 : Int32} {σ : Nat → Nat → Int32} {P : Int32 → (Nat → Nat → Int32) → Prop} (h : K_X11_acrobat_0 scr x1 x2 σ P) : CiA scr 6 mX11_acrobat [.ref 136, .int x1, .int x2] σ P := CtA.of (by decide) (Nat.le_of_ble_eq_true rfl) (XA.drop (by simp [leL, enL]) h)
def K_X11_event_0 (scr : ScA)  (x1 : Int32) (x2 : Int32) (x3 : Int32) (σ : Nat → Nat → Int32) (P : Int32 → (Nat → Nat → Int32) → Prop) : Prop := XA scr 2 mX11_event 172 4705 0 [some (.ref 136), some (.int x1), some (.int x2), some (.int x3)] [] (hs σ) (pI P)
set_option maxRecDepth 20000 in
theorem W_X11_event_0 {scr : ScA}   {x1 : Int32} {x2 : Int32} {x3 : Int32}  {σ : Nat → Nat → Int32} {P : Int32 → (Nat → Nat → Int32) → Prop} (H : ((inV x1 0 2) = 0 → P (-2) σ) ∧ (¬ (inV x1 0 2) = 0 → ((inV x2 0 23) = 0 → P (-2) σ) ∧ (¬ (inV x2 0 23) = 0 → (¬ (inV x3 0 9) = 0 → (¬ (σ 136 8) = 8 → (inB (σ 136 8) 8 = true) ∧ (∀ σ1, σ1 = (su σ 143 (Int32.toNatClampNeg (σ 136 8)) x1) → (inB (σ1 136 8) 8 = true) ∧ (∀ σ2, σ2 = (su σ1 144 (Int32.toNatClampNeg (σ1 136 8)) x2) → (inB (σ2 136 8) 8 = true) ∧ (∀ σ3, σ3 = (su σ2 145 (Int32.toNatClampNeg (σ2 136 8)) x3) → ∀ σ4, σ4 = (su σ3 136 8 ((σ3 136 8) + 1)) → P (σ4 136 8) σ4)))) ∧ ((σ 136 8) = 8 → P (-4) σ)) ∧ ((inV x3 0 9) = 0 → P (-2) σ)))) : K_X11_event_0 scr x1 x2 x3 σ P := by
  show XA scr 2 mX11_event 172 4705 0 [some (.ref 136), some (.int x1), some (.int x2), some (.int x3)] [] (hs σ) (pI P)
  refine XA.blk (e9 := 1) (ok := true) (ls' := [some (.ref 136), some (.int x1), some (.int x2), some (.int x3)]) (st' := [.int x1]) (h' := hs σ) [(.iload_n 1, 1, 1, 0, 0, 0, 0, 0)] (by decide +kernel) rfl rfl ?_
  refine XA.callS (as := [.int x1]) (rest := []) (mc' := 0) (ms' := 0) (idx := 161) (t := 1118) cs_X11_isThree (by decide +kernel) rfl rfl (Nat.le_of_ble_eq_true rfl) (Nat.le_of_ble_eq_true rfl) (Nat.le_of_ble_eq_true rfl) (Nat.le_of_ble_eq_true rfl) (pu_X11_isThree scr σ x1) (fun rv h' hp => ?_)
  obtain ⟨rfl, rfl⟩ := hp
  refine ⟨rfl, rfl, ?_⟩
  show XA scr 2 mX11_event 172 4705 4 [some (.ref 136), some (.int x1), some (.int x2), some (.int x3)] [.int (inV x1 0 2)] (hs σ) (pI P)
  refine XA.if_eq (17) 21 (by decide +kernel) (fun c1 => ?_) (fun c1 => ?_)
  · have H := H.1 c1
    refine XA.blk (e9 := 23) (ok := true) (ls' := [some (.ref 136), some (.int x1), some (.int x2), some (.int x3)]) (st' := [.int (-2)]) (h' := hs σ) [(.bipush (-2), 2, 0, 0, 0, 0, (-2), 0)] (by decide +kernel) rfl rfl ?_
    exact XA.ret (some (.int (-2))) rfl (show ckRt mX11_event 23 .ireturn = true by decide +kernel) trivial (Nat.le_of_ble_eq_true rfl) (Nat.le_of_ble_eq_true rfl) ⟨_, _, rfl, rfl, H⟩
  · have H := H.2 c1
    refine XA.blk (e9 := 8) (ok := true) (ls' := [some (.ref 136), some (.int x1), some (.int x2), some (.int x3)]) (st' := [.int x2]) (h' := hs σ) [(.iload_n 2, 1, 2, 0, 0, 0, 0, 0)] (by decide +kernel) rfl rfl ?_
    refine XA.callS (as := [.int x2]) (rest := []) (mc' := 0) (ms' := 0) (idx := 130) (t := 1088) cs_X11_isMoment (by decide +kernel) rfl rfl (Nat.le_of_ble_eq_true rfl) (Nat.le_of_ble_eq_true rfl) (Nat.le_of_ble_eq_true rfl) (Nat.le_of_ble_eq_true rfl) (pu_X11_isMoment scr σ x2) (fun rv h' hp => ?_)
    obtain ⟨rfl, rfl⟩ := hp
    refine ⟨rfl, rfl, ?_⟩
    show XA scr 2 mX11_event 172 4705 11 [some (.ref 136), some (.int x1), some (.int x2), some (.int x3)] [.int (inV x2 0 23)] (hs σ) (pI P)
    refine XA.if_eq (10) 21 (by decide +kernel) (fun c2 => ?_) (fun c2 => ?_)
    · have H := H.1 c2
      refine XA.blk (e9 := 23) (ok := true) (ls' := [some (.ref 136), some (.int x1), some (.int x2), some (.int x3)]) (st' := [.int (-2)]) (h' := hs σ) [(.bipush (-2), 2, 0, 0, 0, 0, (-2), 0)] (by decide +kernel) rfl rfl ?_
      exact XA.ret (some (.int (-2))) rfl (show ckRt mX11_event 23 .ireturn = true by decide +kernel) trivial (Nat.le_of_ble_eq_true rfl) (Nat.le_of_ble_eq_true rfl) ⟨_, _, rfl, rfl, H⟩
    · have H := H.2 c2
      refine XA.blk (e9 := 15) (ok := true) (ls' := [some (.ref 136), some (.int x1), some (.int x2), some (.int x3)]) (st' := [.int x3]) (h' := hs σ) [(.iload_n 3, 1, 3, 0, 0, 0, 0, 0)] (by decide +kernel) rfl rfl ?_
      refine XA.callS (as := [.int x3]) (rest := []) (mc' := 0) (ms' := 0) (idx := 134) (t := 1091) cs_X11_isTen (by decide +kernel) rfl rfl (Nat.le_of_ble_eq_true rfl) (Nat.le_of_ble_eq_true rfl) (Nat.le_of_ble_eq_true rfl) (Nat.le_of_ble_eq_true rfl) (pu_X11_isTen scr σ x3) (fun rv h' hp => ?_)
      obtain ⟨rfl, rfl⟩ := hp
      refine ⟨rfl, rfl, ?_⟩
      show XA scr 2 mX11_event 172 4705 18 [some (.ref 136), some (.int x1), some (.int x2), some (.int x3)] [.int (inV x3 0 9)] (hs σ) (pI P)
      refine XA.if_ne (6) 24 (by decide +kernel) (fun c3 => ?_) (fun c3 => ?_)
      · have H := H.1 c3
        refine XA.blk (e9 := 30) (ok := true) (ls' := [some (.ref 136), some (.int x1), some (.int x2), some (.int x3)]) (st' := [.int 8, .int (σ 136 8)]) (h' := hs σ) [(.aload_n 0, 1, 0, 0, 0, 0, 0, 0), (.getfield 164, 3, 11, 8, 0, 901, 0, 0), (.bipush 8, 2, 0, 0, 0, 0, 8, 0)] (by decide +kernel) rfl rfl ?_
        refine XA.icmp_ne (6) 36 (by decide +kernel) (fun c4 => ?_) (fun c4 => ?_)
        · have H := H.1 c4
          obtain ⟨o1, H⟩ := H
          refine XA.blk (e9 := 46) (ok := inB (σ 136 8) 8 && (true)) (ls' := [some (.ref 136), some (.int x1), some (.int x2), some (.int x3)]) (st' := []) (h' := hs (su σ 143 (Int32.toNatClampNeg (σ 136 8)) x1)) [(.aload_n 0, 1, 0, 0, 0, 0, 0, 0), (.getfield 28, 3, 11, 9, 8, 902, 0, 0), (.aload_n 0, 1, 0, 0, 0, 0, 0, 0), (.getfield 164, 3, 11, 8, 0, 901, 0, 0), (.iload_n 1, 1, 1, 0, 0, 0, 0, 0), (.iastore, 1, 0, 0, 0, 0, 0, 0)] (by decide +kernel) rfl (by simp only [o1, Bool.and_true, Bool.true_and]) ?_
          obtain ⟨σ1, hσ1⟩ : ∃ s9, s9 = (su σ 143 (Int32.toNatClampNeg (σ 136 8)) x1) := ⟨_, rfl⟩
          rw [← hσ1]
          have H := H σ1 hσ1
          obtain ⟨o2, H⟩ := H
          refine XA.blk (e9 := 56) (ok := inB (σ1 136 8) 8 && (true)) (ls' := [some (.ref 136), some (.int x1), some (.int x2), some (.int x3)]) (st' := []) (h' := hs (su σ1 144 (Int32.toNatClampNeg (σ1 136 8)) x2)) [(.aload_n 0, 1, 0, 0, 0, 0, 0, 0), (.getfield 31, 3, 11, 10, 9, 903, 0, 0), (.aload_n 0, 1, 0, 0, 0, 0, 0, 0), (.getfield 164, 3, 11, 8, 0, 901, 0, 0), (.iload_n 2, 1, 2, 0, 0, 0, 0, 0), (.iastore, 1, 0, 0, 0, 0, 0, 0)] (by decide +kernel) rfl (by simp only [o2, Bool.and_true, Bool.true_and]) ?_
          obtain ⟨σ2, hσ2⟩ : ∃ s9, s9 = (su σ1 144 (Int32.toNatClampNeg (σ1 136 8)) x2) := ⟨_, rfl⟩
          rw [← hσ2]
          have H := H σ2 hσ2
          obtain ⟨o3, H⟩ := H
          refine XA.blk (e9 := 66) (ok := inB (σ2 136 8) 8 && (true)) (ls' := [some (.ref 136), some (.int x1), some (.int x2), some (.int x3)]) (st' := []) (h' := hs (su σ2 145 (Int32.toNatClampNeg (σ2 136 8)) x3)) [(.aload_n 0, 1, 0, 0, 0, 0, 0, 0), (.getfield 34, 3, 11, 11, 10, 904, 0, 0), (.aload_n 0, 1, 0, 0, 0, 0, 0, 0), (.getfield 164, 3, 11, 8, 0, 901, 0, 0), (.iload_n 3, 1, 3, 0, 0, 0, 0, 0), (.iastore, 1, 0, 0, 0, 0, 0, 0)] (by decide +kernel) rfl (by simp only [o3, Bool.and_true, Bool.true_and]) ?_
          obtain ⟨σ3, hσ3⟩ : ∃ s9, s9 = (su σ2 145 (Int32.toNatClampNeg (σ2 136 8)) x3) := ⟨_, rfl⟩
          rw [← hσ3]
          have H := H σ3 hσ3
          refine XA.blk (e9 := 76) (ok := true) (ls' := [some (.ref 136), some (.int x1), some (.int x2), some (.int x3)]) (st' := []) (h' := hs (su σ3 136 8 ((σ3 136 8) + 1))) [(.aload_n 0, 1, 0, 0, 0, 0, 0, 0), (.dup, 1, 0, 0, 0, 0, 0, 0), (.getfield 164, 3, 11, 8, 0, 901, 0, 0), (.iconst 1, 1, 0, 0, 0, 0, 1, 0), (.iadd, 1, 0, 0, 0, 0, 0, 0), (.putfield 164, 3, 11, 8, 0, 901, 0, 0)] (by decide +kernel) rfl rfl ?_
          obtain ⟨σ4, hσ4⟩ : ∃ s9, s9 = (su σ3 136 8 ((σ3 136 8) + 1)) := ⟨_, rfl⟩
          rw [← hσ4]
          have H := H σ4 hσ4
          refine XA.blk (e9 := 80) (ok := true) (ls' := [some (.ref 136), some (.int x1), some (.int x2), some (.int x3)]) (st' := [.int (σ4 136 8)]) (h' := hs σ4) [(.aload_n 0, 1, 0, 0, 0, 0, 0, 0), (.getfield 164, 3, 11, 8, 0, 901, 0, 0)] (by decide +kernel) rfl rfl ?_
          exact XA.ret (some (.int (σ4 136 8))) rfl (show ckRt mX11_event 80 .ireturn = true by decide +kernel) trivial (Nat.le_of_ble_eq_true rfl) (Nat.le_of_ble_eq_true rfl) ⟨_, _, rfl, rfl, H⟩
        · have H := H.2 c4
          refine XA.blk (e9 := 35) (ok := true) (ls' := [some (.ref 136), some (.int x1), some (.int x2), some (.int x3)]) (st' := [.int (-4)]) (h' := hs σ) [(.bipush (-4), 2, 0, 0, 0, 0, (-4), 0)] (by decide +kernel) rfl rfl ?_
          exact XA.ret (some (.int (-4))) rfl (show ckRt mX11_event 35 .ireturn = true by decide +kernel) trivial (Nat.le_of_ble_eq_true rfl) (Nat.le_of_ble_eq_true rfl) ⟨_, _, rfl, rfl, H⟩
      · have H := H.2 c3
        refine XA.blk (e9 := 23) (ok := true) (ls' := [some (.ref 136), some (.int x1), some (.int x2), some (.int x3)]) (st' := [.int (-2)]) (h' := hs σ) [(.bipush (-2), 2, 0, 0, 0, 0, (-2), 0)] (by decide +kernel) rfl rfl ?_
        exact XA.ret (some (.int (-2))) rfl (show ckRt mX11_event 23 .ireturn = true by decide +kernel) trivial (Nat.le_of_ble_eq_true rfl) (Nat.le_of_ble_eq_true rfl) ⟨_, _, rfl, rfl, H⟩
theorem E_X11_event {scr : ScA}  {x1 : Int32} {x2 : Int32} {x3 : Int32} {σ : Nat → Nat → Int32} {P : Int32 → (Nat → Nat → Int32) → Prop} (h : K_X11_event_0 scr x1 x2 x3 σ P) : CiA scr 2 mX11_event [.ref 136, .int x1, .int x2, .int x3] σ P := CtA.of (by decide) (Nat.le_of_ble_eq_true rfl) (XA.drop (by simp [leL, enL]) h)
def K_X11_read_0 (scr : ScA)  (x1 : Int32) (σ : Nat → Nat → Int32) (P : Int32 → (Nat → Nat → Int32) → Prop) : Prop := XA scr 3 mX11_read 172 4705 0 [some (.ref 136), some (.int x1), none, none] [] (hs σ) (pI P)
def K_X11_read_24 (scr : ScA)  (y0 : Int32) (σ : Nat → Nat → Int32) (P : Int32 → (Nat → Nat → Int32) → Prop) : Prop := XA scr 3 mX11_read 172 4705 24 [none, none, none, none] [.int y0] (hs σ) (pI P)
def K_X11_read_32 (scr : ScA)  (x1 : Int32) (x2 : Int32) (x3 : Int32) (σ : Nat → Nat → Int32) (P : Int32 → (Nat → Nat → Int32) → Prop) : Prop := XA scr 3 mX11_read 172 4705 32 [some (.ref 136), some (.int x1), some (.int x2), some (.int x3)] [] (hs σ) (pI P)
def K_X11_read_84 (scr : ScA)  (x1 : Int32) (x2 : Int32) (x3 : Int32) (y0 : Int32) (σ : Nat → Nat → Int32) (P : Int32 → (Nat → Nat → Int32) → Prop) : Prop := XA scr 3 mX11_read 172 4705 84 [some (.ref 136), some (.int x1), some (.int x2), some (.int x3)] [.int y0] (hs σ) (pI P)
set_option maxRecDepth 20000 in
theorem W_X11_read_0 {scr : ScA}   {x1 : Int32}  {σ : Nat → Nat → Int32} {P : Int32 → (Nat → Nat → Int32) → Prop} (H : (¬ (inV x1 0 3) = 0 → (inB x1 4 = true) ∧ ((¬ (σ 167 (Int32.toNatClampNeg x1)) = 0 → K_X11_read_32 scr x1 0 (60 * x1) σ P) ∧ ((σ 167 (Int32.toNatClampNeg x1)) = 0 → CiA scr 0 mX11_meets [.ref 136, .int 1] σ (fun r9 σ' => K_X11_read_24 scr r9 σ' P)))) ∧ ((inV x1 0 3) = 0 → P (-2) σ)) : K_X11_read_0 scr x1 σ P := by
  show XA scr 3 mX11_read 172 4705 0 [some (.ref 136), some (.int x1), none, none] [] (hs σ) (pI P)
  refine XA.blk (e9 := 1) (ok := true) (ls' := [some (.ref 136), some (.int x1), none, none]) (st' := [.int x1]) (h' := hs σ) [(.iload_n 1, 1, 1, 0, 0, 0, 0, 0)] (by decide +kernel) rfl rfl ?_
  refine XA.callS (as := [.int x1]) (rest := []) (mc' := 0) (ms' := 0) (idx := 167) (t := 1129) cs_X11_isSheet (by decide +kernel) rfl rfl (Nat.le_of_ble_eq_true rfl) (Nat.le_of_ble_eq_true rfl) (Nat.le_of_ble_eq_true rfl) (Nat.le_of_ble_eq_true rfl) (pu_X11_isSheet scr σ x1) (fun rv h' hp => ?_)
  obtain ⟨rfl, rfl⟩ := hp
  refine ⟨rfl, rfl, ?_⟩
  show XA scr 3 mX11_read 172 4705 4 [some (.ref 136), some (.int x1), none, none] [.int (inV x1 0 3)] (hs σ) (pI P)
  refine XA.if_ne (6) 10 (by decide +kernel) (fun c1 => ?_) (fun c1 => ?_)
  · have H := H.1 c1
    obtain ⟨o1, H⟩ := H
    refine XA.blk (e9 := 16) (ok := inB x1 4 && (true)) (ls' := [some (.ref 136), some (.int x1), none, none]) (st' := [.int (σ 167 (Int32.toNatClampNeg x1))]) (h' := hs σ) [(.aload_n 0, 1, 0, 0, 0, 0, 0, 0), (.getfield 100, 3, 11, 48, 32, 941, 0, 0), (.iload_n 1, 1, 1, 0, 0, 0, 0, 0), (.baload, 1, 0, 0, 0, 0, 0, 0)] (by decide +kernel) rfl (by simp only [o1, Bool.and_true, Bool.true_and]) ?_
    refine XA.if_ne (9) 25 (by decide +kernel) (fun c2 => ?_) (fun c2 => ?_)
    · have H := H.1 c2
      refine XA.blk (e9 := 32) (ok := true) (ls' := [some (.ref 136), some (.int x1), some (.int 0), some (.int (60 * x1))]) (st' := []) (h' := hs σ) [(.iconst 0, 1, 0, 0, 0, 0, 0, 0), (.istore_n 2, 1, 2, 0, 0, 0, 0, 0), (.bipush 60, 2, 0, 0, 0, 0, 60, 0), (.iload_n 1, 1, 1, 0, 0, 0, 0, 0), (.imul, 1, 0, 0, 0, 0, 0, 0), (.istore_n 3, 1, 3, 0, 0, 0, 0, 0)] (by decide +kernel) rfl rfl ?_
      exact H
    · have H := H.2 c2
      refine XA.blk (e9 := 21) (ok := true) (ls' := [some (.ref 136), some (.int x1), none, none]) (st' := [.int 1, .ref 136]) (h' := hs σ) [(.aload_n 0, 1, 0, 0, 0, 0, 0, 0), (.iconst 1, 1, 0, 0, 0, 0, 1, 0)] (by decide +kernel) rfl rfl ?_
      refine XA.callV (as := [.int 1]) (rest := []) (mc' := 0) (ms' := 0) (idx := 170) (t := 1132) cv_X11_meets (by decide +kernel) rfl rfl rfl (Nat.le_of_ble_eq_true rfl) (Nat.le_of_ble_eq_true rfl) (Nat.le_of_ble_eq_true rfl) (Nat.le_of_ble_eq_true rfl) (H) (fun rv h' hp => ?_)
      obtain ⟨r9, s9, rfl, rfl, hK⟩ := hp
      exact ⟨rfl, rfl, XA.drop (by simp [leL]) hK⟩
  · have H := H.2 c1
    refine XA.blk (e9 := 9) (ok := true) (ls' := [some (.ref 136), some (.int x1), none, none]) (st' := [.int (-2)]) (h' := hs σ) [(.bipush (-2), 2, 0, 0, 0, 0, (-2), 0)] (by decide +kernel) rfl rfl ?_
    exact XA.ret (some (.int (-2))) rfl (show ckRt mX11_read 9 .ireturn = true by decide +kernel) trivial (Nat.le_of_ble_eq_true rfl) (Nat.le_of_ble_eq_true rfl) ⟨_, _, rfl, rfl, H⟩
set_option maxRecDepth 20000 in
theorem W_X11_read_24 {scr : ScA}   {y0 : Int32}  {σ : Nat → Nat → Int32} {P : Int32 → (Nat → Nat → Int32) → Prop} (H : P y0 σ) : K_X11_read_24 scr y0 σ P := by
  show XA scr 3 mX11_read 172 4705 24 [none, none, none, none] [.int y0] (hs σ) (pI P)
  exact XA.ret (some (.int y0)) rfl (show ckRt mX11_read 24 .ireturn = true by decide +kernel) trivial (Nat.le_of_ble_eq_true rfl) (Nat.le_of_ble_eq_true rfl) ⟨_, _, rfl, rfl, H⟩
set_option maxRecDepth 20000 in
theorem W_X11_read_32 {scr : ScA}   {x1 : Int32} {x2 : Int32} {x3 : Int32}  {σ : Nat → Nat → Int32} {P : Int32 → (Nat → Nat → Int32) → Prop} (H : (inB x1 4 = true) ∧ (((σ 169 (Int32.toNatClampNeg x1)) ≤ ((3 * x2) + 2) → P x2 σ) ∧ (¬ (σ 169 (Int32.toNatClampNeg x1)) ≤ ((3 * x2) + 2) → (inB (x3 + (3 * x2)) 240 = true) ∧ (inB ((x3 + (3 * x2)) + 1) 240 = true) ∧ (inB ((x3 + (3 * x2)) + 2) 240 = true) ∧ (CiA scr 2 mX11_event [.ref 136, .int (σ 170 (Int32.toNatClampNeg (x3 + (3 * x2)))), .int (σ 170 (Int32.toNatClampNeg ((x3 + (3 * x2)) + 1))), .int (σ 170 (Int32.toNatClampNeg ((x3 + (3 * x2)) + 2)))] σ (fun r9 σ' => K_X11_read_84 scr x1 x2 x3 r9 σ' P))))) : K_X11_read_32 scr x1 x2 x3 σ P := by
  show XA scr 3 mX11_read 172 4705 32 [some (.ref 136), some (.int x1), some (.int x2), some (.int x3)] [] (hs σ) (pI P)
  obtain ⟨o1, H⟩ := H
  refine XA.blk (e9 := 43) (ok := inB x1 4 && (true)) (ls' := [some (.ref 136), some (.int x1), some (.int x2), some (.int x3)]) (st' := [.int (σ 169 (Int32.toNatClampNeg x1)), .int ((3 * x2) + 2)]) (h' := hs σ) [(.iconst 3, 1, 0, 0, 0, 0, 3, 0), (.iload_n 2, 1, 2, 0, 0, 0, 0, 0), (.imul, 1, 0, 0, 0, 0, 0, 0), (.iconst 2, 1, 0, 0, 0, 0, 2, 0), (.iadd, 1, 0, 0, 0, 0, 0, 0), (.aload_n 0, 1, 0, 0, 0, 0, 0, 0), (.getfield 107, 3, 11, 50, 34, 943, 0, 0), (.iload_n 1, 1, 1, 0, 0, 0, 0, 0), (.iaload, 1, 0, 0, 0, 0, 0, 0)] (by decide +kernel) rfl (by simp only [o1, Bool.and_true, Bool.true_and]) ?_
  refine XA.icmp_ge (50) 93 (by decide +kernel) (fun c1 => ?_) (fun c1 => ?_)
  · have H := H.1 c1
    refine XA.blk (e9 := 94) (ok := true) (ls' := [some (.ref 136), some (.int x1), some (.int x2), some (.int x3)]) (st' := [.int x2]) (h' := hs σ) [(.iload_n 2, 1, 2, 0, 0, 0, 0, 0)] (by decide +kernel) rfl rfl ?_
    exact XA.ret (some (.int x2)) rfl (show ckRt mX11_read 94 .ireturn = true by decide +kernel) trivial (Nat.le_of_ble_eq_true rfl) (Nat.le_of_ble_eq_true rfl) ⟨_, _, rfl, rfl, H⟩
  · have H := H.2 c1
    obtain ⟨o2, o3, o4, H⟩ := H
    refine XA.blk (e9 := 81) (ok := inB (x3 + (3 * x2)) 240 && (inB ((x3 + (3 * x2)) + 1) 240 && (inB ((x3 + (3 * x2)) + 2) 240 && (true)))) (ls' := [some (.ref 136), some (.int x1), some (.int x2), some (.int x3)]) (st' := [.int (σ 170 (Int32.toNatClampNeg ((x3 + (3 * x2)) + 2))), .int (σ 170 (Int32.toNatClampNeg ((x3 + (3 * x2)) + 1))), .int (σ 170 (Int32.toNatClampNeg (x3 + (3 * x2)))), .ref 136]) (h' := hs σ) [(.aload_n 0, 1, 0, 0, 0, 0, 0, 0), (.aload_n 0, 1, 0, 0, 0, 0, 0, 0), (.getfield 110, 3, 11, 51, 35, 944, 0, 0), (.iload_n 3, 1, 3, 0, 0, 0, 0, 0), (.iconst 3, 1, 0, 0, 0, 0, 3, 0), (.iload_n 2, 1, 2, 0, 0, 0, 0, 0), (.imul, 1, 0, 0, 0, 0, 0, 0), (.iadd, 1, 0, 0, 0, 0, 0, 0), (.iaload, 1, 0, 0, 0, 0, 0, 0), (.aload_n 0, 1, 0, 0, 0, 0, 0, 0), (.getfield 110, 3, 11, 51, 35, 944, 0, 0), (.iload_n 3, 1, 3, 0, 0, 0, 0, 0), (.iconst 3, 1, 0, 0, 0, 0, 3, 0), (.iload_n 2, 1, 2, 0, 0, 0, 0, 0), (.imul, 1, 0, 0, 0, 0, 0, 0), (.iadd, 1, 0, 0, 0, 0, 0, 0), (.iconst 1, 1, 0, 0, 0, 0, 1, 0), (.iadd, 1, 0, 0, 0, 0, 0, 0), (.iaload, 1, 0, 0, 0, 0, 0, 0), (.aload_n 0, 1, 0, 0, 0, 0, 0, 0), (.getfield 110, 3, 11, 51, 35, 944, 0, 0), (.iload_n 3, 1, 3, 0, 0, 0, 0, 0), (.iconst 3, 1, 0, 0, 0, 0, 3, 0), (.iload_n 2, 1, 2, 0, 0, 0, 0, 0), (.imul, 1, 0, 0, 0, 0, 0, 0), (.iadd, 1, 0, 0, 0, 0, 0, 0), (.iconst 2, 1, 0, 0, 0, 0, 2, 0), (.iadd, 1, 0, 0, 0, 0, 0, 0), (.iaload, 1, 0, 0, 0, 0, 0, 0)] (by decide +kernel) rfl (by simp only [o2, o3, o4, Bool.and_true, Bool.true_and]) ?_
    refine XA.callV (as := [.int (σ 170 (Int32.toNatClampNeg (x3 + (3 * x2)))), .int (σ 170 (Int32.toNatClampNeg ((x3 + (3 * x2)) + 1))), .int (σ 170 (Int32.toNatClampNeg ((x3 + (3 * x2)) + 2)))]) (rest := []) (mc' := 0) (ms' := 0) (idx := 173) (t := 1136) cv_X11_event (by decide +kernel) rfl rfl rfl (Nat.le_of_ble_eq_true rfl) (Nat.le_of_ble_eq_true rfl) (Nat.le_of_ble_eq_true rfl) (Nat.le_of_ble_eq_true rfl) (H) (fun rv h' hp => ?_)
    obtain ⟨r9, s9, rfl, rfl, hK⟩ := hp
    exact ⟨rfl, rfl, hK⟩
set_option maxRecDepth 20000 in
theorem W_X11_read_84 {scr : ScA}   {x1 : Int32} {x2 : Int32} {x3 : Int32} {y0 : Int32}  {σ : Nat → Nat → Int32} {P : Int32 → (Nat → Nat → Int32) → Prop} (H : (y0 ≤ 0 → P x2 σ) ∧ (¬ y0 ≤ 0 → K_X11_read_32 scr x1 (x2 + 1) x3 σ P)) : K_X11_read_84 scr x1 x2 x3 y0 σ P := by
  show XA scr 3 mX11_read 172 4705 84 [some (.ref 136), some (.int x1), some (.int x2), some (.int x3)] [.int y0] (hs σ) (pI P)
  refine XA.if_le (9) 93 (by decide +kernel) (fun c1 => ?_) (fun c1 => ?_)
  · have H := H.1 c1
    refine XA.blk (e9 := 94) (ok := true) (ls' := [some (.ref 136), some (.int x1), some (.int x2), some (.int x3)]) (st' := [.int x2]) (h' := hs σ) [(.iload_n 2, 1, 2, 0, 0, 0, 0, 0)] (by decide +kernel) rfl rfl ?_
    exact XA.ret (some (.int x2)) rfl (show ckRt mX11_read 94 .ireturn = true by decide +kernel) trivial (Nat.le_of_ble_eq_true rfl) (Nat.le_of_ble_eq_true rfl) ⟨_, _, rfl, rfl, H⟩
  · have H := H.2 c1
    refine XA.blk (e9 := 32) (ok := true) (ls' := [some (.ref 136), some (.int x1), some (.int (x2 + 1)), some (.int x3)]) (st' := []) (h' := hs σ) [(.iinc 2 1, 3, 2, 0, 0, 0, 1, 0), (.goto (-58), 3, 32, 0, 0, 0, 0, 0)] (by decide +kernel) rfl rfl ?_
    exact H
theorem E_X11_read {scr : ScA}  {x1 : Int32} {σ : Nat → Nat → Int32} {P : Int32 → (Nat → Nat → Int32) → Prop} (h : K_X11_read_0 scr x1 σ P) : CiA scr 3 mX11_read [.ref 136, .int x1] σ P := CtA.of (by decide) (Nat.le_of_ble_eq_true rfl) (XA.drop (by simp [leL, enL]) h)
def K_X11_asTold_0 (scr : ScA)   (σ : Nat → Nat → Int32) (P : (Nat → Nat → Int32) → Prop) : Prop := XA scr 5 mX11_asTold 172 4705 0 [some (.ref 136), none] [] (hs σ) (pV P)
def K_X11_asTold_4 (scr : ScA)   (σ : Nat → Nat → Int32) (P : (Nat → Nat → Int32) → Prop) : Prop := XA scr 5 mX11_asTold 172 4705 4 [some (.ref 136), none] [] (hs σ) (pV P)
def K_X11_asTold_14 (scr : ScA)  (x1 : Int32) (σ : Nat → Nat → Int32) (P : (Nat → Nat → Int32) → Prop) : Prop := XA scr 5 mX11_asTold 172 4705 14 [some (.ref 136), some (.int x1)] [] (hs σ) (pV P)
set_option maxRecDepth 20000 in
theorem W_X11_asTold_0 {scr : ScA}     {σ : Nat → Nat → Int32} {P : (Nat → Nat → Int32) → Prop} (H : CvA scr 4 mX11_reads [.ref 136] σ (fun σ' => K_X11_asTold_4 scr σ' P)) : K_X11_asTold_0 scr σ P := by
  show XA scr 5 mX11_asTold 172 4705 0 [some (.ref 136), none] [] (hs σ) (pV P)
  refine XA.blk (e9 := 1) (ok := true) (ls' := [some (.ref 136), none]) (st' := [.ref 136]) (h' := hs σ) [(.aload_n 0, 1, 0, 0, 0, 0, 0, 0)] (by decide +kernel) rfl rfl ?_
  refine XA.callV (as := []) (rest := []) (mc' := 0) (ms' := 0) (idx := 152) (t := 1106) cv_X11_reads (by decide +kernel) rfl rfl rfl (Nat.le_of_ble_eq_true rfl) (Nat.le_of_ble_eq_true rfl) (Nat.le_of_ble_eq_true rfl) (Nat.le_of_ble_eq_true rfl) (H) (fun rv h' hp => ?_)
  obtain ⟨s9, rfl, rfl, hK⟩ := hp
  exact ⟨rfl, rfl, hK⟩
set_option maxRecDepth 20000 in
theorem W_X11_asTold_4 {scr : ScA}     {σ : Nat → Nat → Int32} {P : (Nat → Nat → Int32) → Prop} (H : ∀ σ1, σ1 = (su σ 136 12 (σ 136 8)) → K_X11_asTold_14 scr 0 σ1 P) : K_X11_asTold_4 scr σ P := by
  show XA scr 5 mX11_asTold 172 4705 4 [some (.ref 136), none] [] (hs σ) (pV P)
  refine XA.blk (e9 := 12) (ok := true) (ls' := [some (.ref 136), none]) (st' := []) (h' := hs (su σ 136 12 (σ 136 8))) [(.aload_n 0, 1, 0, 0, 0, 0, 0, 0), (.aload_n 0, 1, 0, 0, 0, 0, 0, 0), (.getfield 164, 3, 11, 8, 0, 901, 0, 0), (.putfield 177, 3, 11, 12, 0, 905, 0, 0)] (by decide +kernel) rfl rfl ?_
  obtain ⟨σ1, hσ1⟩ : ∃ s9, s9 = (su σ 136 12 (σ 136 8)) := ⟨_, rfl⟩
  rw [← hσ1]
  have H := H σ1 hσ1
  refine XA.blk (e9 := 14) (ok := true) (ls' := [some (.ref 136), some (.int 0)]) (st' := []) (h' := hs σ1) [(.iconst 0, 1, 0, 0, 0, 0, 0, 0), (.istore_n 1, 1, 1, 0, 0, 0, 0, 0)] (by decide +kernel) rfl rfl ?_
  exact H
set_option maxRecDepth 20000 in
theorem W_X11_asTold_14 {scr : ScA}   {x1 : Int32}  {σ : Nat → Nat → Int32} {P : (Nat → Nat → Int32) → Prop} (H : ((σ 136 8) ≤ x1 → ∀ σ1, σ1 = (su σ 136 16 0) → P σ1) ∧ (¬ (σ 136 8) ≤ x1 → (inB x1 8 = true) ∧ (∀ σ2, σ2 = (su σ 146 (Int32.toNatClampNeg x1) (σ 143 (Int32.toNatClampNeg x1))) → ∀ σ3, σ3 = (su σ2 147 (Int32.toNatClampNeg x1) (σ2 144 (Int32.toNatClampNeg x1))) → ∀ σ4, σ4 = (su σ3 148 (Int32.toNatClampNeg x1) (σ3 145 (Int32.toNatClampNeg x1))) → K_X11_asTold_14 scr (x1 + 1) σ4 P))) : K_X11_asTold_14 scr x1 σ P := by
  show XA scr 5 mX11_asTold 172 4705 14 [some (.ref 136), some (.int x1)] [] (hs σ) (pV P)
  refine XA.blk (e9 := 19) (ok := true) (ls' := [some (.ref 136), some (.int x1)]) (st' := [.int (σ 136 8), .int x1]) (h' := hs σ) [(.iload_n 1, 1, 1, 0, 0, 0, 0, 0), (.aload_n 0, 1, 0, 0, 0, 0, 0, 0), (.getfield 164, 3, 11, 8, 0, 901, 0, 0)] (by decide +kernel) rfl rfl ?_
  refine XA.icmp_ge (45) 64 (by decide +kernel) (fun c1 => ?_) (fun c1 => ?_)
  · have H := H.1 c1
    refine XA.blk (e9 := 69) (ok := true) (ls' := [some (.ref 136), some (.int x1)]) (st' := []) (h' := hs (su σ 136 16 0)) [(.aload_n 0, 1, 0, 0, 0, 0, 0, 0), (.iconst 0, 1, 0, 0, 0, 0, 0, 0), (.putfield 180, 3, 11, 16, 0, 909, 0, 0)] (by decide +kernel) rfl rfl ?_
    obtain ⟨σ1, hσ1⟩ : ∃ s9, s9 = (su σ 136 16 0) := ⟨_, rfl⟩
    rw [← hσ1]
    have H := H σ1 hσ1
    exact XA.ret none rfl (show ckRt mX11_asTold 69 .return_ = true by decide +kernel) trivial (Nat.le_of_ble_eq_true rfl) (Nat.le_of_ble_eq_true rfl) ⟨_, rfl, rfl, H⟩
  · have H := H.2 c1
    obtain ⟨o1, H⟩ := H
    refine XA.blk (e9 := 34) (ok := inB x1 8 && (inB x1 8 && (true))) (ls' := [some (.ref 136), some (.int x1)]) (st' := []) (h' := hs (su σ 146 (Int32.toNatClampNeg x1) (σ 143 (Int32.toNatClampNeg x1)))) [(.aload_n 0, 1, 0, 0, 0, 0, 0, 0), (.getfield 37, 3, 11, 13, 11, 906, 0, 0), (.iload_n 1, 1, 1, 0, 0, 0, 0, 0), (.aload_n 0, 1, 0, 0, 0, 0, 0, 0), (.getfield 28, 3, 11, 9, 8, 902, 0, 0), (.iload_n 1, 1, 1, 0, 0, 0, 0, 0), (.iaload, 1, 0, 0, 0, 0, 0, 0), (.iastore, 1, 0, 0, 0, 0, 0, 0)] (by decide +kernel) rfl (by simp only [o1, Bool.and_true, Bool.true_and]) ?_
    obtain ⟨σ2, hσ2⟩ : ∃ s9, s9 = (su σ 146 (Int32.toNatClampNeg x1) (σ 143 (Int32.toNatClampNeg x1))) := ⟨_, rfl⟩
    rw [← hσ2]
    have H := H σ2 hσ2
    refine XA.blk (e9 := 46) (ok := inB x1 8 && (inB x1 8 && (true))) (ls' := [some (.ref 136), some (.int x1)]) (st' := []) (h' := hs (su σ2 147 (Int32.toNatClampNeg x1) (σ2 144 (Int32.toNatClampNeg x1)))) [(.aload_n 0, 1, 0, 0, 0, 0, 0, 0), (.getfield 40, 3, 11, 14, 12, 907, 0, 0), (.iload_n 1, 1, 1, 0, 0, 0, 0, 0), (.aload_n 0, 1, 0, 0, 0, 0, 0, 0), (.getfield 31, 3, 11, 10, 9, 903, 0, 0), (.iload_n 1, 1, 1, 0, 0, 0, 0, 0), (.iaload, 1, 0, 0, 0, 0, 0, 0), (.iastore, 1, 0, 0, 0, 0, 0, 0)] (by decide +kernel) rfl (by simp only [o1, Bool.and_true, Bool.true_and]) ?_
    obtain ⟨σ3, hσ3⟩ : ∃ s9, s9 = (su σ2 147 (Int32.toNatClampNeg x1) (σ2 144 (Int32.toNatClampNeg x1))) := ⟨_, rfl⟩
    rw [← hσ3]
    have H := H σ3 hσ3
    refine XA.blk (e9 := 58) (ok := inB x1 8 && (inB x1 8 && (true))) (ls' := [some (.ref 136), some (.int x1)]) (st' := []) (h' := hs (su σ3 148 (Int32.toNatClampNeg x1) (σ3 145 (Int32.toNatClampNeg x1)))) [(.aload_n 0, 1, 0, 0, 0, 0, 0, 0), (.getfield 43, 3, 11, 15, 13, 908, 0, 0), (.iload_n 1, 1, 1, 0, 0, 0, 0, 0), (.aload_n 0, 1, 0, 0, 0, 0, 0, 0), (.getfield 34, 3, 11, 11, 10, 904, 0, 0), (.iload_n 1, 1, 1, 0, 0, 0, 0, 0), (.iaload, 1, 0, 0, 0, 0, 0, 0), (.iastore, 1, 0, 0, 0, 0, 0, 0)] (by decide +kernel) rfl (by simp only [o1, Bool.and_true, Bool.true_and]) ?_
    obtain ⟨σ4, hσ4⟩ : ∃ s9, s9 = (su σ3 148 (Int32.toNatClampNeg x1) (σ3 145 (Int32.toNatClampNeg x1))) := ⟨_, rfl⟩
    rw [← hσ4]
    have H := H σ4 hσ4
    refine XA.blk (e9 := 14) (ok := true) (ls' := [some (.ref 136), some (.int (x1 + 1))]) (st' := []) (h' := hs σ4) [(.iinc 1 1, 3, 1, 0, 0, 0, 1, 0), (.goto (-47), 3, 14, 0, 0, 0, 0, 0)] (by decide +kernel) rfl rfl ?_
    exact H
theorem E_X11_asTold {scr : ScA}   {σ : Nat → Nat → Int32} {P : (Nat → Nat → Int32) → Prop} (h : K_X11_asTold_0 scr σ P) : CvA scr 5 mX11_asTold [.ref 136] σ P := CtA.of (by decide) (Nat.le_of_ble_eq_true rfl) (XA.drop (by simp [leL, enL]) h)
def K_X11_allFall_0 (scr : ScA)  (x1 : Int32) (σ : Nat → Nat → Int32) (P : (Nat → Nat → Int32) → Prop) : Prop := XA scr 1 mX11_allFall 172 4705 0 [some (.ref 136), some (.int x1), none, none, none, none] [] (hs σ) (pV P)
def K_X11_allFall_2 (scr : ScA)  (x1 : Int32) (x2 : Int32) (σ : Nat → Nat → Int32) (P : (Nat → Nat → Int32) → Prop) : Prop := XA scr 1 mX11_allFall 172 4705 2 [some (.ref 136), some (.int x1), some (.int x2), none, none, none] [] (hs σ) (pV P)
def K_X11_allFall_93 (scr : ScA)  (x1 : Int32) (x2 : Int32) (σ : Nat → Nat → Int32) (P : (Nat → Nat → Int32) → Prop) : Prop := XA scr 1 mX11_allFall 172 4705 93 [some (.ref 136), some (.int x1), some (.int x2), none, none, none] [] (hs σ) (pV P)
set_option maxRecDepth 20000 in
theorem W_X11_allFall_0 {scr : ScA}   {x1 : Int32}  {σ : Nat → Nat → Int32} {P : (Nat → Nat → Int32) → Prop} (H : K_X11_allFall_2 scr x1 4 σ P) : K_X11_allFall_0 scr x1 σ P := by
  show XA scr 1 mX11_allFall 172 4705 0 [some (.ref 136), some (.int x1), none, none, none, none] [] (hs σ) (pV P)
  refine XA.blk (e9 := 2) (ok := true) (ls' := [some (.ref 136), some (.int x1), some (.int 4), none, none, none]) (st' := []) (h' := hs σ) [(.iconst 4, 1, 0, 0, 0, 0, 4, 0), (.istore_n 2, 1, 2, 0, 0, 0, 0, 0)] (by decide +kernel) rfl rfl ?_
  exact H
set_option maxRecDepth 20000 in
theorem W_X11_allFall_2 {scr : ScA}   {x1 : Int32} {x2 : Int32}  {σ : Nat → Nat → Int32} {P : (Nat → Nat → Int32) → Prop} (H : (10 ≤ x2 → K_X11_allFall_93 scr x1 0 σ P) ∧ (¬ 10 ≤ x2 → (inB x2 10 = true) ∧ ((inB (blV x2) 10 = true) ∧ ((inB ((blV x2) + 1) 10 = true) ∧ (((σ 149 (Int32.toNatClampNeg x2)) = (-1) → K_X11_allFall_2 scr x1 (x2 + 1) σ P) ∧ (¬ (σ 149 (Int32.toNatClampNeg x2)) = (-1) → ((σ 149 (Int32.toNatClampNeg (blV x2))) = (-1) → ((σ 149 (Int32.toNatClampNeg ((blV x2) + 1))) = (-1) → K_X11_allFall_2 scr x1 (x2 + 1) σ P) ∧ (¬ (σ 149 (Int32.toNatClampNeg ((blV x2) + 1))) = (-1) → (inB (σ 149 (Int32.toNatClampNeg ((blV x2) + 1))) 10 = true) ∧ ((¬ (σ 154 (Int32.toNatClampNeg (σ 149 (Int32.toNatClampNeg ((blV x2) + 1))))) = 1 → K_X11_allFall_2 scr x1 (x2 + 1) σ P) ∧ ((σ 154 (Int32.toNatClampNeg (σ 149 (Int32.toNatClampNeg ((blV x2) + 1))))) = 1 → (inB (σ 149 (Int32.toNatClampNeg x2)) 10 = true) ∧ (∀ σ1, σ1 = (su σ 154 (Int32.toNatClampNeg (σ 149 (Int32.toNatClampNeg x2))) 1) → K_X11_allFall_2 scr x1 (x2 + 1) σ1 P))))) ∧ (¬ (σ 149 (Int32.toNatClampNeg (blV x2))) = (-1) → (inB (σ 149 (Int32.toNatClampNeg (blV x2))) 10 = true) ∧ (((σ 154 (Int32.toNatClampNeg (σ 149 (Int32.toNatClampNeg (blV x2))))) = 1 → (inB (σ 149 (Int32.toNatClampNeg x2)) 10 = true) ∧ (∀ σ2, σ2 = (su σ 154 (Int32.toNatClampNeg (σ 149 (Int32.toNatClampNeg x2))) 1) → K_X11_allFall_2 scr x1 (x2 + 1) σ2 P)) ∧ (¬ (σ 154 (Int32.toNatClampNeg (σ 149 (Int32.toNatClampNeg (blV x2))))) = 1 → ((σ 149 (Int32.toNatClampNeg ((blV x2) + 1))) = (-1) → K_X11_allFall_2 scr x1 (x2 + 1) σ P) ∧ (¬ (σ 149 (Int32.toNatClampNeg ((blV x2) + 1))) = (-1) → (inB (σ 149 (Int32.toNatClampNeg ((blV x2) + 1))) 10 = true) ∧ ((¬ (σ 154 (Int32.toNatClampNeg (σ 149 (Int32.toNatClampNeg ((blV x2) + 1))))) = 1 → K_X11_allFall_2 scr x1 (x2 + 1) σ P) ∧ ((σ 154 (Int32.toNatClampNeg (σ 149 (Int32.toNatClampNeg ((blV x2) + 1))))) = 1 → (inB (σ 149 (Int32.toNatClampNeg x2)) 10 = true) ∧ (∀ σ3, σ3 = (su σ 154 (Int32.toNatClampNeg (σ 149 (Int32.toNatClampNeg x2))) 1) → K_X11_allFall_2 scr x1 (x2 + 1) σ3 P))))))))))))) : K_X11_allFall_2 scr x1 x2 σ P := by
  show XA scr 1 mX11_allFall 172 4705 2 [some (.ref 136), some (.int x1), some (.int x2), none, none, none] [] (hs σ) (pV P)
  refine XA.blk (e9 := 5) (ok := true) (ls' := [some (.ref 136), some (.int x1), some (.int x2), none, none, none]) (st' := [.int 10, .int x2]) (h' := hs σ) [(.iload_n 2, 1, 2, 0, 0, 0, 0, 0), (.bipush 10, 2, 0, 0, 0, 0, 10, 0)] (by decide +kernel) rfl rfl ?_
  refine XA.icmp_ge (86) 91 (by decide +kernel) (fun c1 => ?_) (fun c1 => ?_)
  · have H := H.1 c1
    refine XA.blk (e9 := 93) (ok := true) (ls' := [some (.ref 136), some (.int x1), some (.int 0), none, none, none]) (st' := []) (h' := hs σ) [(.iconst 0, 1, 0, 0, 0, 0, 0, 0), (.istore_n 2, 1, 2, 0, 0, 0, 0, 0)] (by decide +kernel) rfl rfl ?_
    exact H
  · have H := H.2 c1
    obtain ⟨o1, H⟩ := H
    refine XA.blk (e9 := 20) (ok := inB x2 10 && (true)) (ls' := [some (.ref 136), some (.int x1), some (.int x2), some (.int (σ 149 (Int32.toNatClampNeg x2))), none, none]) (st' := [.int x2, .ref 149]) (h' := hs σ) [(.aload_n 0, 1, 0, 0, 0, 0, 0, 0), (.getfield 46, 3, 11, 27, 14, 920, 0, 0), (.iload_n 2, 1, 2, 0, 0, 0, 0, 0), (.iaload, 1, 0, 0, 0, 0, 0, 0), (.istore_n 3, 1, 3, 0, 0, 0, 0, 0), (.aload_n 0, 1, 0, 0, 0, 0, 0, 0), (.getfield 46, 3, 11, 27, 14, 920, 0, 0), (.iload_n 2, 1, 2, 0, 0, 0, 0, 0)] (by decide +kernel) rfl (by simp only [o1, Bool.and_true, Bool.true_and]) ?_
    refine XA.callS (as := [.int x2]) (rest := [.ref 149]) (mc' := 0) (ms' := 0) (idx := 189) (t := 1172) cs_X11_below (by decide +kernel) rfl rfl (Nat.le_of_ble_eq_true rfl) (Nat.le_of_ble_eq_true rfl) (Nat.le_of_ble_eq_true rfl) (Nat.le_of_ble_eq_true rfl) (pu_X11_below scr σ x2) (fun rv h' hp => ?_)
    obtain ⟨rfl, rfl⟩ := hp
    refine ⟨rfl, rfl, ?_⟩
    show XA scr 1 mX11_allFall 172 4705 23 [some (.ref 136), some (.int x1), some (.int x2), some (.int (σ 149 (Int32.toNatClampNeg x2))), none, none] [.int (blV x2), .ref 149] (hs σ) (pV P)
    obtain ⟨o2, H⟩ := H
    refine XA.blk (e9 := 31) (ok := inB (blV x2) 10 && (true)) (ls' := [some (.ref 136), some (.int x1), some (.int x2), some (.int (σ 149 (Int32.toNatClampNeg x2))), some (.int (σ 149 (Int32.toNatClampNeg (blV x2)))), none]) (st' := [.int x2, .ref 149]) (h' := hs σ) [(.iaload, 1, 0, 0, 0, 0, 0, 0), (.istore 4, 2, 4, 0, 0, 0, 0, 0), (.aload_n 0, 1, 0, 0, 0, 0, 0, 0), (.getfield 46, 3, 11, 27, 14, 920, 0, 0), (.iload_n 2, 1, 2, 0, 0, 0, 0, 0)] (by decide +kernel) rfl (by simp only [o2, Bool.and_true, Bool.true_and]) ?_
    refine XA.callS (as := [.int x2]) (rest := [.ref 149]) (mc' := 0) (ms' := 0) (idx := 189) (t := 1172) cs_X11_below (by decide +kernel) rfl rfl (Nat.le_of_ble_eq_true rfl) (Nat.le_of_ble_eq_true rfl) (Nat.le_of_ble_eq_true rfl) (Nat.le_of_ble_eq_true rfl) (pu_X11_below scr σ x2) (fun rv h' hp => ?_)
    obtain ⟨rfl, rfl⟩ := hp
    refine ⟨rfl, rfl, ?_⟩
    show XA scr 1 mX11_allFall 172 4705 34 [some (.ref 136), some (.int x1), some (.int x2), some (.int (σ 149 (Int32.toNatClampNeg x2))), some (.int (σ 149 (Int32.toNatClampNeg (blV x2)))), none] [.int (blV x2), .ref 149] (hs σ) (pV P)
    obtain ⟨o3, H⟩ := H
    refine XA.blk (e9 := 41) (ok := inB ((blV x2) + 1) 10 && (true)) (ls' := [some (.ref 136), some (.int x1), some (.int x2), some (.int (σ 149 (Int32.toNatClampNeg x2))), some (.int (σ 149 (Int32.toNatClampNeg (blV x2)))), some (.int (σ 149 (Int32.toNatClampNeg ((blV x2) + 1))))]) (st' := [.int (-1), .int (σ 149 (Int32.toNatClampNeg x2))]) (h' := hs σ) [(.iconst 1, 1, 0, 0, 0, 0, 1, 0), (.iadd, 1, 0, 0, 0, 0, 0, 0), (.iaload, 1, 0, 0, 0, 0, 0, 0), (.istore 5, 2, 5, 0, 0, 0, 0, 0), (.iload_n 3, 1, 3, 0, 0, 0, 0, 0), (.iconst (-1), 1, 0, 0, 0, 0, (-1), 0)] (by decide +kernel) rfl (by simp only [o3, Bool.and_true, Bool.true_and]) ?_
    refine XA.icmp_eq (44) 85 (by decide +kernel) (fun c2 => ?_) (fun c2 => ?_)
    · have H := H.1 c2
      refine XA.blk (e9 := 2) (ok := true) (ls' := [some (.ref 136), some (.int x1), some (.int (x2 + 1)), some (.int (σ 149 (Int32.toNatClampNeg x2))), some (.int (σ 149 (Int32.toNatClampNeg (blV x2)))), some (.int (σ 149 (Int32.toNatClampNeg ((blV x2) + 1))))]) (st' := []) (h' := hs σ) [(.iinc 2 1, 3, 2, 0, 0, 0, 1, 0), (.goto (-86), 3, 2, 0, 0, 0, 0, 0)] (by decide +kernel) rfl rfl ?_
      exact XA.drop (by simp [leL]) H
    · have H := H.2 c2
      refine XA.blk (e9 := 47) (ok := true) (ls' := [some (.ref 136), some (.int x1), some (.int x2), some (.int (σ 149 (Int32.toNatClampNeg x2))), some (.int (σ 149 (Int32.toNatClampNeg (blV x2)))), some (.int (σ 149 (Int32.toNatClampNeg ((blV x2) + 1))))]) (st' := [.int (-1), .int (σ 149 (Int32.toNatClampNeg (blV x2)))]) (h' := hs σ) [(.iload 4, 2, 4, 0, 0, 0, 0, 0), (.iconst (-1), 1, 0, 0, 0, 0, (-1), 0)] (by decide +kernel) rfl rfl ?_
      refine XA.icmp_eq (14) 61 (by decide +kernel) (fun c3 => ?_) (fun c3 => ?_)
      · have H := H.1 c3
        refine XA.blk (e9 := 64) (ok := true) (ls' := [some (.ref 136), some (.int x1), some (.int x2), some (.int (σ 149 (Int32.toNatClampNeg x2))), some (.int (σ 149 (Int32.toNatClampNeg (blV x2)))), some (.int (σ 149 (Int32.toNatClampNeg ((blV x2) + 1))))]) (st' := [.int (-1), .int (σ 149 (Int32.toNatClampNeg ((blV x2) + 1)))]) (h' := hs σ) [(.iload 5, 2, 5, 0, 0, 0, 0, 0), (.iconst (-1), 1, 0, 0, 0, 0, (-1), 0)] (by decide +kernel) rfl rfl ?_
        refine XA.icmp_eq (21) 85 (by decide +kernel) (fun c4 => ?_) (fun c4 => ?_)
        · have H := H.1 c4
          refine XA.blk (e9 := 2) (ok := true) (ls' := [some (.ref 136), some (.int x1), some (.int (x2 + 1)), some (.int (σ 149 (Int32.toNatClampNeg x2))), some (.int (σ 149 (Int32.toNatClampNeg (blV x2)))), some (.int (σ 149 (Int32.toNatClampNeg ((blV x2) + 1))))]) (st' := []) (h' := hs σ) [(.iinc 2 1, 3, 2, 0, 0, 0, 1, 0), (.goto (-86), 3, 2, 0, 0, 0, 0, 0)] (by decide +kernel) rfl rfl ?_
          exact XA.drop (by simp [leL]) H
        · have H := H.2 c4
          obtain ⟨o4, H⟩ := H
          refine XA.blk (e9 := 75) (ok := inB (σ 149 (Int32.toNatClampNeg ((blV x2) + 1))) 10 && (true)) (ls' := [some (.ref 136), some (.int x1), some (.int x2), some (.int (σ 149 (Int32.toNatClampNeg x2))), some (.int (σ 149 (Int32.toNatClampNeg (blV x2)))), some (.int (σ 149 (Int32.toNatClampNeg ((blV x2) + 1))))]) (st' := [.int 1, .int (σ 154 (Int32.toNatClampNeg (σ 149 (Int32.toNatClampNeg ((blV x2) + 1)))))]) (h' := hs σ) [(.aload_n 0, 1, 0, 0, 0, 0, 0, 0), (.getfield 61, 3, 11, 32, 19, 925, 0, 0), (.iload 5, 2, 5, 0, 0, 0, 0, 0), (.iaload, 1, 0, 0, 0, 0, 0, 0), (.iconst 1, 1, 0, 0, 0, 0, 1, 0)] (by decide +kernel) rfl (by simp only [o4, Bool.and_true, Bool.true_and]) ?_
          refine XA.icmp_ne (10) 85 (by decide +kernel) (fun c5 => ?_) (fun c5 => ?_)
          · have H := H.1 c5
            refine XA.blk (e9 := 2) (ok := true) (ls' := [some (.ref 136), some (.int x1), some (.int (x2 + 1)), some (.int (σ 149 (Int32.toNatClampNeg x2))), some (.int (σ 149 (Int32.toNatClampNeg (blV x2)))), some (.int (σ 149 (Int32.toNatClampNeg ((blV x2) + 1))))]) (st' := []) (h' := hs σ) [(.iinc 2 1, 3, 2, 0, 0, 0, 1, 0), (.goto (-86), 3, 2, 0, 0, 0, 0, 0)] (by decide +kernel) rfl rfl ?_
            exact XA.drop (by simp [leL]) H
          · have H := H.2 c5
            obtain ⟨o5, H⟩ := H
            refine XA.blk (e9 := 85) (ok := inB (σ 149 (Int32.toNatClampNeg x2)) 10 && (true)) (ls' := [some (.ref 136), some (.int x1), some (.int x2), some (.int (σ 149 (Int32.toNatClampNeg x2))), some (.int (σ 149 (Int32.toNatClampNeg (blV x2)))), some (.int (σ 149 (Int32.toNatClampNeg ((blV x2) + 1))))]) (st' := []) (h' := hs (su σ 154 (Int32.toNatClampNeg (σ 149 (Int32.toNatClampNeg x2))) 1)) [(.aload_n 0, 1, 0, 0, 0, 0, 0, 0), (.getfield 61, 3, 11, 32, 19, 925, 0, 0), (.iload_n 3, 1, 3, 0, 0, 0, 0, 0), (.iconst 1, 1, 0, 0, 0, 0, 1, 0), (.iastore, 1, 0, 0, 0, 0, 0, 0)] (by decide +kernel) rfl (by simp only [o5, Bool.and_true, Bool.true_and]) ?_
            obtain ⟨σ1, hσ1⟩ : ∃ s9, s9 = (su σ 154 (Int32.toNatClampNeg (σ 149 (Int32.toNatClampNeg x2))) 1) := ⟨_, rfl⟩
            rw [← hσ1]
            have H := H σ1 hσ1
            refine XA.blk (e9 := 2) (ok := true) (ls' := [some (.ref 136), some (.int x1), some (.int (x2 + 1)), some (.int (σ 149 (Int32.toNatClampNeg x2))), some (.int (σ 149 (Int32.toNatClampNeg (blV x2)))), some (.int (σ 149 (Int32.toNatClampNeg ((blV x2) + 1))))]) (st' := []) (h' := hs σ1) [(.iinc 2 1, 3, 2, 0, 0, 0, 1, 0), (.goto (-86), 3, 2, 0, 0, 0, 0, 0)] (by decide +kernel) rfl rfl ?_
            exact XA.drop (by simp [leL]) H
      · have H := H.2 c3
        obtain ⟨o4, H⟩ := H
        refine XA.blk (e9 := 58) (ok := inB (σ 149 (Int32.toNatClampNeg (blV x2))) 10 && (true)) (ls' := [some (.ref 136), some (.int x1), some (.int x2), some (.int (σ 149 (Int32.toNatClampNeg x2))), some (.int (σ 149 (Int32.toNatClampNeg (blV x2)))), some (.int (σ 149 (Int32.toNatClampNeg ((blV x2) + 1))))]) (st' := [.int 1, .int (σ 154 (Int32.toNatClampNeg (σ 149 (Int32.toNatClampNeg (blV x2)))))]) (h' := hs σ) [(.aload_n 0, 1, 0, 0, 0, 0, 0, 0), (.getfield 61, 3, 11, 32, 19, 925, 0, 0), (.iload 4, 2, 4, 0, 0, 0, 0, 0), (.iaload, 1, 0, 0, 0, 0, 0, 0), (.iconst 1, 1, 0, 0, 0, 0, 1, 0)] (by decide +kernel) rfl (by simp only [o4, Bool.and_true, Bool.true_and]) ?_
        refine XA.icmp_eq (20) 78 (by decide +kernel) (fun c4 => ?_) (fun c4 => ?_)
        · have H := H.1 c4
          obtain ⟨o5, H⟩ := H
          refine XA.blk (e9 := 85) (ok := inB (σ 149 (Int32.toNatClampNeg x2)) 10 && (true)) (ls' := [some (.ref 136), some (.int x1), some (.int x2), some (.int (σ 149 (Int32.toNatClampNeg x2))), some (.int (σ 149 (Int32.toNatClampNeg (blV x2)))), some (.int (σ 149 (Int32.toNatClampNeg ((blV x2) + 1))))]) (st' := []) (h' := hs (su σ 154 (Int32.toNatClampNeg (σ 149 (Int32.toNatClampNeg x2))) 1)) [(.aload_n 0, 1, 0, 0, 0, 0, 0, 0), (.getfield 61, 3, 11, 32, 19, 925, 0, 0), (.iload_n 3, 1, 3, 0, 0, 0, 0, 0), (.iconst 1, 1, 0, 0, 0, 0, 1, 0), (.iastore, 1, 0, 0, 0, 0, 0, 0)] (by decide +kernel) rfl (by simp only [o5, Bool.and_true, Bool.true_and]) ?_
          obtain ⟨σ2, hσ2⟩ : ∃ s9, s9 = (su σ 154 (Int32.toNatClampNeg (σ 149 (Int32.toNatClampNeg x2))) 1) := ⟨_, rfl⟩
          rw [← hσ2]
          have H := H σ2 hσ2
          refine XA.blk (e9 := 2) (ok := true) (ls' := [some (.ref 136), some (.int x1), some (.int (x2 + 1)), some (.int (σ 149 (Int32.toNatClampNeg x2))), some (.int (σ 149 (Int32.toNatClampNeg (blV x2)))), some (.int (σ 149 (Int32.toNatClampNeg ((blV x2) + 1))))]) (st' := []) (h' := hs σ2) [(.iinc 2 1, 3, 2, 0, 0, 0, 1, 0), (.goto (-86), 3, 2, 0, 0, 0, 0, 0)] (by decide +kernel) rfl rfl ?_
          exact XA.drop (by simp [leL]) H
        · have H := H.2 c4
          refine XA.blk (e9 := 64) (ok := true) (ls' := [some (.ref 136), some (.int x1), some (.int x2), some (.int (σ 149 (Int32.toNatClampNeg x2))), some (.int (σ 149 (Int32.toNatClampNeg (blV x2)))), some (.int (σ 149 (Int32.toNatClampNeg ((blV x2) + 1))))]) (st' := [.int (-1), .int (σ 149 (Int32.toNatClampNeg ((blV x2) + 1)))]) (h' := hs σ) [(.iload 5, 2, 5, 0, 0, 0, 0, 0), (.iconst (-1), 1, 0, 0, 0, 0, (-1), 0)] (by decide +kernel) rfl rfl ?_
          refine XA.icmp_eq (21) 85 (by decide +kernel) (fun c5 => ?_) (fun c5 => ?_)
          · have H := H.1 c5
            refine XA.blk (e9 := 2) (ok := true) (ls' := [some (.ref 136), some (.int x1), some (.int (x2 + 1)), some (.int (σ 149 (Int32.toNatClampNeg x2))), some (.int (σ 149 (Int32.toNatClampNeg (blV x2)))), some (.int (σ 149 (Int32.toNatClampNeg ((blV x2) + 1))))]) (st' := []) (h' := hs σ) [(.iinc 2 1, 3, 2, 0, 0, 0, 1, 0), (.goto (-86), 3, 2, 0, 0, 0, 0, 0)] (by decide +kernel) rfl rfl ?_
            exact XA.drop (by simp [leL]) H
          · have H := H.2 c5
            obtain ⟨o5, H⟩ := H
            refine XA.blk (e9 := 75) (ok := inB (σ 149 (Int32.toNatClampNeg ((blV x2) + 1))) 10 && (true)) (ls' := [some (.ref 136), some (.int x1), some (.int x2), some (.int (σ 149 (Int32.toNatClampNeg x2))), some (.int (σ 149 (Int32.toNatClampNeg (blV x2)))), some (.int (σ 149 (Int32.toNatClampNeg ((blV x2) + 1))))]) (st' := [.int 1, .int (σ 154 (Int32.toNatClampNeg (σ 149 (Int32.toNatClampNeg ((blV x2) + 1)))))]) (h' := hs σ) [(.aload_n 0, 1, 0, 0, 0, 0, 0, 0), (.getfield 61, 3, 11, 32, 19, 925, 0, 0), (.iload 5, 2, 5, 0, 0, 0, 0, 0), (.iaload, 1, 0, 0, 0, 0, 0, 0), (.iconst 1, 1, 0, 0, 0, 0, 1, 0)] (by decide +kernel) rfl (by simp only [o5, Bool.and_true, Bool.true_and]) ?_
            refine XA.icmp_ne (10) 85 (by decide +kernel) (fun c6 => ?_) (fun c6 => ?_)
            · have H := H.1 c6
              refine XA.blk (e9 := 2) (ok := true) (ls' := [some (.ref 136), some (.int x1), some (.int (x2 + 1)), some (.int (σ 149 (Int32.toNatClampNeg x2))), some (.int (σ 149 (Int32.toNatClampNeg (blV x2)))), some (.int (σ 149 (Int32.toNatClampNeg ((blV x2) + 1))))]) (st' := []) (h' := hs σ) [(.iinc 2 1, 3, 2, 0, 0, 0, 1, 0), (.goto (-86), 3, 2, 0, 0, 0, 0, 0)] (by decide +kernel) rfl rfl ?_
              exact XA.drop (by simp [leL]) H
            · have H := H.2 c6
              obtain ⟨o6, H⟩ := H
              refine XA.blk (e9 := 85) (ok := inB (σ 149 (Int32.toNatClampNeg x2)) 10 && (true)) (ls' := [some (.ref 136), some (.int x1), some (.int x2), some (.int (σ 149 (Int32.toNatClampNeg x2))), some (.int (σ 149 (Int32.toNatClampNeg (blV x2)))), some (.int (σ 149 (Int32.toNatClampNeg ((blV x2) + 1))))]) (st' := []) (h' := hs (su σ 154 (Int32.toNatClampNeg (σ 149 (Int32.toNatClampNeg x2))) 1)) [(.aload_n 0, 1, 0, 0, 0, 0, 0, 0), (.getfield 61, 3, 11, 32, 19, 925, 0, 0), (.iload_n 3, 1, 3, 0, 0, 0, 0, 0), (.iconst 1, 1, 0, 0, 0, 0, 1, 0), (.iastore, 1, 0, 0, 0, 0, 0, 0)] (by decide +kernel) rfl (by simp only [o6, Bool.and_true, Bool.true_and]) ?_
              obtain ⟨σ3, hσ3⟩ : ∃ s9, s9 = (su σ 154 (Int32.toNatClampNeg (σ 149 (Int32.toNatClampNeg x2))) 1) := ⟨_, rfl⟩
              rw [← hσ3]
              have H := H σ3 hσ3
              refine XA.blk (e9 := 2) (ok := true) (ls' := [some (.ref 136), some (.int x1), some (.int (x2 + 1)), some (.int (σ 149 (Int32.toNatClampNeg x2))), some (.int (σ 149 (Int32.toNatClampNeg (blV x2)))), some (.int (σ 149 (Int32.toNatClampNeg ((blV x2) + 1))))]) (st' := []) (h' := hs σ3) [(.iinc 2 1, 3, 2, 0, 0, 0, 1, 0), (.goto (-86), 3, 2, 0, 0, 0, 0, 0)] (by decide +kernel) rfl rfl ?_
              exact XA.drop (by simp [leL]) H
set_option maxRecDepth 20000 in
theorem W_X11_allFall_93 {scr : ScA}   {x1 : Int32} {x2 : Int32}  {σ : Nat → Nat → Int32} {P : (Nat → Nat → Int32) → Prop} (H : ((σ 136 2) ≤ x2 → P σ) ∧ (¬ (σ 136 2) ≤ x2 → (inB x2 10 = true) ∧ ((¬ (σ 154 (Int32.toNatClampNeg x2)) = 1 → K_X11_allFall_93 scr x1 (x2 + 1) σ P) ∧ ((σ 154 (Int32.toNatClampNeg x2)) = 1 → ∀ σ1, σ1 = (su σ 154 (Int32.toNatClampNeg x2) 0) → (inB x2 11 = true) ∧ (inB (σ1 142 (Int32.toNatClampNeg x2)) 10 = true) ∧ (∀ σ2, σ2 = (su σ1 149 (Int32.toNatClampNeg (σ1 142 (Int32.toNatClampNeg x2))) (-1)) → ∀ σ3, σ3 = (su σ2 136 25 ((σ2 136 25) &&& (((1 : Int32) <<< (x2 &&& 31)) ^^^ (-1)))) → ∀ σ4, σ4 = (su σ3 150 (Int32.toNatClampNeg x2) 0) → ∀ σ5, σ5 = (su σ4 152 (Int32.toNatClampNeg x2) ((σ4 152 (Int32.toNatClampNeg x2)) + 1)) → ∀ σ6, σ6 = (su σ5 153 (Int32.toNatClampNeg x2) x1) → ∀ σ7, σ7 = (su σ6 136 18 ((σ6 136 18) + 1)) → ∀ σ8, σ8 = (su σ7 136 19 (if ¬ (σ7 136 19) = (-1) then σ7 136 19 else x1 : Int32)) → K_X11_allFall_93 scr x1 (x2 + 1) σ8 P))))) : K_X11_allFall_93 scr x1 x2 σ P := by
  show XA scr 1 mX11_allFall 172 4705 93 [some (.ref 136), some (.int x1), some (.int x2), none, none, none] [] (hs σ) (pV P)
  refine XA.blk (e9 := 98) (ok := true) (ls' := [some (.ref 136), some (.int x1), some (.int x2), none, none, none]) (st' := [.int (σ 136 2), .int x2]) (h' := hs σ) [(.iload_n 2, 1, 2, 0, 0, 0, 0, 0), (.aload_n 0, 1, 0, 0, 0, 0, 0, 0), (.getfield 141, 3, 11, 2, 0, 895, 0, 0)] (by decide +kernel) rfl rfl ?_
  refine XA.icmp_ge (106) 204 (by decide +kernel) (fun c1 => ?_) (fun c1 => ?_)
  · have H := H.1 c1
    exact XA.ret none rfl (show ckRt mX11_allFall 204 .return_ = true by decide +kernel) trivial (Nat.le_of_ble_eq_true rfl) (Nat.le_of_ble_eq_true rfl) ⟨_, rfl, rfl, H⟩
  · have H := H.2 c1
    obtain ⟨o1, H⟩ := H
    refine XA.blk (e9 := 108) (ok := inB x2 10 && (true)) (ls' := [some (.ref 136), some (.int x1), some (.int x2), none, none, none]) (st' := [.int 1, .int (σ 154 (Int32.toNatClampNeg x2))]) (h' := hs σ) [(.aload_n 0, 1, 0, 0, 0, 0, 0, 0), (.getfield 61, 3, 11, 32, 19, 925, 0, 0), (.iload_n 2, 1, 2, 0, 0, 0, 0, 0), (.iaload, 1, 0, 0, 0, 0, 0, 0), (.iconst 1, 1, 0, 0, 0, 0, 1, 0)] (by decide +kernel) rfl (by simp only [o1, Bool.and_true, Bool.true_and]) ?_
    refine XA.icmp_ne (90) 198 (by decide +kernel) (fun c2 => ?_) (fun c2 => ?_)
    · have H := H.1 c2
      refine XA.blk (e9 := 93) (ok := true) (ls' := [some (.ref 136), some (.int x1), some (.int (x2 + 1)), none, none, none]) (st' := []) (h' := hs σ) [(.iinc 2 1, 3, 2, 0, 0, 0, 1, 0), (.goto (-108), 3, 93, 0, 0, 0, 0, 0)] (by decide +kernel) rfl rfl ?_
      exact H
    · have H := H.2 c2
      refine XA.blk (e9 := 118) (ok := inB x2 10 && (true)) (ls' := [some (.ref 136), some (.int x1), some (.int x2), none, none, none]) (st' := []) (h' := hs (su σ 154 (Int32.toNatClampNeg x2) 0)) [(.aload_n 0, 1, 0, 0, 0, 0, 0, 0), (.getfield 61, 3, 11, 32, 19, 925, 0, 0), (.iload_n 2, 1, 2, 0, 0, 0, 0, 0), (.iconst 0, 1, 0, 0, 0, 0, 0, 0), (.iastore, 1, 0, 0, 0, 0, 0, 0)] (by decide +kernel) rfl (by simp only [o1, Bool.and_true, Bool.true_and]) ?_
      obtain ⟨σ1, hσ1⟩ : ∃ s9, s9 = (su σ 154 (Int32.toNatClampNeg x2) 0) := ⟨_, rfl⟩
      rw [← hσ1]
      have H := H σ1 hσ1
      obtain ⟨o2, o3, H⟩ := H
      refine XA.blk (e9 := 130) (ok := inB x2 11 && (inB (σ1 142 (Int32.toNatClampNeg x2)) 10 && (true))) (ls' := [some (.ref 136), some (.int x1), some (.int x2), none, none, none]) (st' := []) (h' := hs (su σ1 149 (Int32.toNatClampNeg (σ1 142 (Int32.toNatClampNeg x2))) (-1))) [(.aload_n 0, 1, 0, 0, 0, 0, 0, 0), (.getfield 46, 3, 11, 27, 14, 920, 0, 0), (.aload_n 0, 1, 0, 0, 0, 0, 0, 0), (.getfield 25, 3, 11, 7, 7, 900, 0, 0), (.iload_n 2, 1, 2, 0, 0, 0, 0, 0), (.iaload, 1, 0, 0, 0, 0, 0, 0), (.iconst (-1), 1, 0, 0, 0, 0, (-1), 0), (.iastore, 1, 0, 0, 0, 0, 0, 0)] (by decide +kernel) rfl (by simp only [o2, o3, Bool.and_true, Bool.true_and]) ?_
      obtain ⟨σ2, hσ2⟩ : ∃ s9, s9 = (su σ1 149 (Int32.toNatClampNeg (σ1 142 (Int32.toNatClampNeg x2))) (-1)) := ⟨_, rfl⟩
      rw [← hσ2]
      have H := H σ2 hσ2
      refine XA.blk (e9 := 144) (ok := true) (ls' := [some (.ref 136), some (.int x1), some (.int x2), none, none, none]) (st' := []) (h' := hs (su σ2 136 25 ((σ2 136 25) &&& (((1 : Int32) <<< (x2 &&& 31)) ^^^ (-1))))) [(.aload_n 0, 1, 0, 0, 0, 0, 0, 0), (.dup, 1, 0, 0, 0, 0, 0, 0), (.getfield 183, 3, 11, 25, 0, 918, 0, 0), (.iconst 1, 1, 0, 0, 0, 0, 1, 0), (.iload_n 2, 1, 2, 0, 0, 0, 0, 0), (.ishl, 1, 0, 0, 0, 0, 0, 0), (.iconst (-1), 1, 0, 0, 0, 0, (-1), 0), (.ixor, 1, 0, 0, 0, 0, 0, 0), (.iand, 1, 0, 0, 0, 0, 0, 0), (.putfield 183, 3, 11, 25, 0, 918, 0, 0)] (by decide +kernel) rfl rfl ?_
      obtain ⟨σ3, hσ3⟩ : ∃ s9, s9 = (su σ2 136 25 ((σ2 136 25) &&& (((1 : Int32) <<< (x2 &&& 31)) ^^^ (-1)))) := ⟨_, rfl⟩
      rw [← hσ3]
      have H := H σ3 hσ3
      refine XA.blk (e9 := 151) (ok := inB x2 10 && (true)) (ls' := [some (.ref 136), some (.int x1), some (.int x2), none, none, none]) (st' := []) (h' := hs (su σ3 150 (Int32.toNatClampNeg x2) 0)) [(.aload_n 0, 1, 0, 0, 0, 0, 0, 0), (.getfield 49, 3, 11, 28, 15, 921, 0, 0), (.iload_n 2, 1, 2, 0, 0, 0, 0, 0), (.iconst 0, 1, 0, 0, 0, 0, 0, 0), (.iastore, 1, 0, 0, 0, 0, 0, 0)] (by decide +kernel) rfl (by simp only [o1, Bool.and_true, Bool.true_and]) ?_
      obtain ⟨σ4, hσ4⟩ : ∃ s9, s9 = (su σ3 150 (Int32.toNatClampNeg x2) 0) := ⟨_, rfl⟩
      rw [← hσ4]
      have H := H σ4 hσ4
      refine XA.blk (e9 := 161) (ok := inB x2 10 && (inB x2 10 && (true))) (ls' := [some (.ref 136), some (.int x1), some (.int x2), none, none, none]) (st' := []) (h' := hs (su σ4 152 (Int32.toNatClampNeg x2) ((σ4 152 (Int32.toNatClampNeg x2)) + 1))) [(.aload_n 0, 1, 0, 0, 0, 0, 0, 0), (.getfield 55, 3, 11, 30, 17, 923, 0, 0), (.iload_n 2, 1, 2, 0, 0, 0, 0, 0), (.dup2, 1, 0, 0, 0, 0, 0, 0), (.iaload, 1, 0, 0, 0, 0, 0, 0), (.iconst 1, 1, 0, 0, 0, 0, 1, 0), (.iadd, 1, 0, 0, 0, 0, 0, 0), (.iastore, 1, 0, 0, 0, 0, 0, 0)] (by decide +kernel) rfl (by simp only [o1, Bool.and_true, Bool.true_and]) ?_
      obtain ⟨σ5, hσ5⟩ : ∃ s9, s9 = (su σ4 152 (Int32.toNatClampNeg x2) ((σ4 152 (Int32.toNatClampNeg x2)) + 1)) := ⟨_, rfl⟩
      rw [← hσ5]
      have H := H σ5 hσ5
      refine XA.blk (e9 := 168) (ok := inB x2 10 && (true)) (ls' := [some (.ref 136), some (.int x1), some (.int x2), none, none, none]) (st' := []) (h' := hs (su σ5 153 (Int32.toNatClampNeg x2) x1)) [(.aload_n 0, 1, 0, 0, 0, 0, 0, 0), (.getfield 58, 3, 11, 31, 18, 924, 0, 0), (.iload_n 2, 1, 2, 0, 0, 0, 0, 0), (.iload_n 1, 1, 1, 0, 0, 0, 0, 0), (.iastore, 1, 0, 0, 0, 0, 0, 0)] (by decide +kernel) rfl (by simp only [o1, Bool.and_true, Bool.true_and]) ?_
      obtain ⟨σ6, hσ6⟩ : ∃ s9, s9 = (su σ5 153 (Int32.toNatClampNeg x2) x1) := ⟨_, rfl⟩
      rw [← hσ6]
      have H := H σ6 hσ6
      refine XA.blk (e9 := 178) (ok := true) (ls' := [some (.ref 136), some (.int x1), some (.int x2), none, none, none]) (st' := []) (h' := hs (su σ6 136 18 ((σ6 136 18) + 1))) [(.aload_n 0, 1, 0, 0, 0, 0, 0, 0), (.dup, 1, 0, 0, 0, 0, 0, 0), (.getfield 192, 3, 11, 18, 0, 911, 0, 0), (.iconst 1, 1, 0, 0, 0, 0, 1, 0), (.iadd, 1, 0, 0, 0, 0, 0, 0), (.putfield 192, 3, 11, 18, 0, 911, 0, 0)] (by decide +kernel) rfl rfl ?_
      obtain ⟨σ7, hσ7⟩ : ∃ s9, s9 = (su σ6 136 18 ((σ6 136 18) + 1)) := ⟨_, rfl⟩
      rw [← hσ7]
      have H := H σ7 hσ7
      refine XA.blk (e9 := 184) (ok := true) (ls' := [some (.ref 136), some (.int x1), some (.int x2), none, none, none]) (st' := [.int (-1), .int (σ7 136 19), .ref 136]) (h' := hs σ7) [(.aload_n 0, 1, 0, 0, 0, 0, 0, 0), (.aload_n 0, 1, 0, 0, 0, 0, 0, 0), (.getfield 195, 3, 11, 19, 0, 912, 0, 0), (.iconst (-1), 1, 0, 0, 0, 0, (-1), 0)] (by decide +kernel) rfl rfl ?_
      have hJ184 : XA scr 1 mX11_allFall 172 4705 195 [some (.ref 136), some (.int x1), some (.int x2), none, none, none] [.int (if ¬ (σ7 136 19) = (-1) then σ7 136 19 else x1 : Int32), .ref 136] (hs σ7) (pV P) := by
        refine XA.blk (e9 := 198) (ok := true) (ls' := [some (.ref 136), some (.int x1), some (.int x2), none, none, none]) (st' := []) (h' := hs (su σ7 136 19 (if ¬ (σ7 136 19) = (-1) then σ7 136 19 else x1 : Int32))) [(.putfield 195, 3, 11, 19, 0, 912, 0, 0)] (by decide +kernel) rfl rfl ?_
        obtain ⟨σ8, hσ8⟩ : ∃ s9, s9 = (su σ7 136 19 (if ¬ (σ7 136 19) = (-1) then σ7 136 19 else x1 : Int32)) := ⟨_, rfl⟩
        rw [← hσ8]
        have H := H σ8 hσ8
        refine XA.blk (e9 := 93) (ok := true) (ls' := [some (.ref 136), some (.int x1), some (.int (x2 + 1)), none, none, none]) (st' := []) (h' := hs σ8) [(.iinc 2 1, 3, 2, 0, 0, 0, 1, 0), (.goto (-108), 3, 93, 0, 0, 0, 0, 0)] (by decide +kernel) rfl rfl ?_
        exact H
      refine XA.icmp_ne (7) 191 (by decide +kernel) (fun c3 => ?_) (fun c3 => ?_)
      · refine XA.blk (e9 := 195) (ok := true) (ls' := [some (.ref 136), some (.int x1), some (.int x2), none, none, none]) (st' := [.int (σ7 136 19), .ref 136]) (h' := hs σ7) [(.aload_n 0, 1, 0, 0, 0, 0, 0, 0), (.getfield 195, 3, 11, 19, 0, 912, 0, 0)] (by decide +kernel) rfl rfl ?_
        simpa only [if_pos c3] using hJ184
      · refine XA.blk (e9 := 195) (ok := true) (ls' := [some (.ref 136), some (.int x1), some (.int x2), none, none, none]) (st' := [.int x1, .ref 136]) (h' := hs σ7) [(.iload_n 1, 1, 1, 0, 0, 0, 0, 0), (.goto 7, 3, 195, 0, 0, 0, 0, 0)] (by decide +kernel) rfl rfl ?_
        simpa only [if_neg (not_not_intro c3)] using hJ184
theorem E_X11_allFall {scr : ScA}  {x1 : Int32} {σ : Nat → Nat → Int32} {P : (Nat → Nat → Int32) → Prop} (h : K_X11_allFall_0 scr x1 σ P) : CvA scr 1 mX11_allFall [.ref 136, .int x1] σ P := CtA.of (by decide) (Nat.le_of_ble_eq_true rfl) (XA.drop (by simp [leL, enL]) h)
def K_X11_befalls_0 (scr : ScA)  (x1 : Int32) (σ : Nat → Nat → Int32) (P : (Nat → Nat → Int32) → Prop) : Prop := XA scr 2 mX11_befalls 172 4705 0 [some (.ref 136), some (.int x1), none, none, none] [] (hs σ) (pV P)
def K_X11_befalls_7 (scr : ScA)  (x1 : Int32) (x2 : Int32) (σ : Nat → Nat → Int32) (P : (Nat → Nat → Int32) → Prop) : Prop := XA scr 2 mX11_befalls 172 4705 7 [some (.ref 136), some (.int x1), some (.int x2), none, none] [] (hs σ) (pV P)
def K_X11_befalls_80 (scr : ScA)  (x1 : Int32) (x2 : Int32) (x3 : Int32) (σ : Nat → Nat → Int32) (P : (Nat → Nat → Int32) → Prop) : Prop := XA scr 2 mX11_befalls 172 4705 80 [some (.ref 136), some (.int x1), some (.int x2), some (.int x3), none] [] (hs σ) (pV P)
def K_X11_befalls_109 (scr : ScA)  (x1 : Int32) (x2 : Int32) (x4 : Int32) (σ : Nat → Nat → Int32) (P : (Nat → Nat → Int32) → Prop) : Prop := XA scr 2 mX11_befalls 172 4705 109 [some (.ref 136), some (.int x1), some (.int x2), none, some (.int x4)] [] (hs σ) (pV P)
set_option maxRecDepth 20000 in
theorem W_X11_befalls_0 {scr : ScA}   {x1 : Int32}  {σ : Nat → Nat → Int32} {P : (Nat → Nat → Int32) → Prop} (H : ∀ σ1, σ1 = (su σ 136 26 0) → K_X11_befalls_7 scr x1 0 σ1 P) : K_X11_befalls_0 scr x1 σ P := by
  show XA scr 2 mX11_befalls 172 4705 0 [some (.ref 136), some (.int x1), none, none, none] [] (hs σ) (pV P)
  refine XA.blk (e9 := 5) (ok := true) (ls' := [some (.ref 136), some (.int x1), none, none, none]) (st' := []) (h' := hs (su σ 136 26 0)) [(.aload_n 0, 1, 0, 0, 0, 0, 0, 0), (.iconst 0, 1, 0, 0, 0, 0, 0, 0), (.putfield 198, 3, 11, 26, 0, 919, 0, 0)] (by decide +kernel) rfl rfl ?_
  obtain ⟨σ1, hσ1⟩ : ∃ s9, s9 = (su σ 136 26 0) := ⟨_, rfl⟩
  rw [← hσ1]
  have H := H σ1 hσ1
  refine XA.blk (e9 := 7) (ok := true) (ls' := [some (.ref 136), some (.int x1), some (.int 0), none, none]) (st' := []) (h' := hs σ1) [(.iconst 0, 1, 0, 0, 0, 0, 0, 0), (.istore_n 2, 1, 2, 0, 0, 0, 0, 0)] (by decide +kernel) rfl rfl ?_
  exact H
set_option maxRecDepth 20000 in
theorem W_X11_befalls_7 {scr : ScA}   {x1 : Int32} {x2 : Int32}  {σ : Nat → Nat → Int32} {P : (Nat → Nat → Int32) → Prop} (H : ((σ 136 12) ≤ x2 → P σ) ∧ (¬ (σ 136 12) ≤ x2 → (inB x2 8 = true) ∧ ((¬ (σ 147 (Int32.toNatClampNeg x2)) = x1 → K_X11_befalls_7 scr x1 (x2 + 1) σ P) ∧ ((σ 147 (Int32.toNatClampNeg x2)) = x1 → (¬ (iiV (σ 136 16) x2) = 0 → K_X11_befalls_7 scr x1 (x2 + 1) σ P) ∧ ((iiV (σ 136 16) x2) = 0 → (¬ (σ 146 (Int32.toNatClampNeg x2)) = 0 → ∀ σ1, σ1 = (su σ 136 26 ((σ 136 26) ||| (if ¬ (σ 146 (Int32.toNatClampNeg x2)) = 2 then 0 else (1 : Int32) <<< ((σ 148 (Int32.toNatClampNeg x2)) &&& 31) : Int32))) → K_X11_befalls_109 scr x1 x2 0 σ1 P) ∧ ((σ 146 (Int32.toNatClampNeg x2)) = 0 → ((σ 136 2) ≤ (σ 148 (Int32.toNatClampNeg x2)) → ∀ σ2, σ2 = (su σ 136 26 ((σ 136 26) ||| (if ¬ (σ 146 (Int32.toNatClampNeg x2)) = 2 then 0 else (1 : Int32) <<< ((σ 148 (Int32.toNatClampNeg x2)) &&& 31) : Int32))) → K_X11_befalls_109 scr x1 x2 0 σ2 P) ∧ (¬ (σ 136 2) ≤ (σ 148 (Int32.toNatClampNeg x2)) → ((iiV (σ 136 25) (σ 148 (Int32.toNatClampNeg x2))) = 0 → ∀ σ3, σ3 = (su σ 136 26 ((σ 136 26) ||| (if ¬ (σ 146 (Int32.toNatClampNeg x2)) = 2 then 0 else (1 : Int32) <<< ((σ 148 (Int32.toNatClampNeg x2)) &&& 31) : Int32))) → K_X11_befalls_109 scr x1 x2 0 σ3 P) ∧ (¬ (iiV (σ 136 25) (σ 148 (Int32.toNatClampNeg x2))) = 0 → (inB (σ 148 (Int32.toNatClampNeg x2)) 10 = true) ∧ (∀ σ4, σ4 = (su σ 154 (Int32.toNatClampNeg (σ 148 (Int32.toNatClampNeg x2))) 1) → CvA scr 1 mX11_allFall [.ref 136, .int x1] σ4 (fun σ' => K_X11_befalls_80 scr x1 x2 (σ 148 (Int32.toNatClampNeg x2)) σ' P)))))))))) : K_X11_befalls_7 scr x1 x2 σ P := by
  show XA scr 2 mX11_befalls 172 4705 7 [some (.ref 136), some (.int x1), some (.int x2), none, none] [] (hs σ) (pV P)
  refine XA.blk (e9 := 12) (ok := true) (ls' := [some (.ref 136), some (.int x1), some (.int x2), none, none]) (st' := [.int (σ 136 12), .int x2]) (h' := hs σ) [(.iload_n 2, 1, 2, 0, 0, 0, 0, 0), (.aload_n 0, 1, 0, 0, 0, 0, 0, 0), (.getfield 177, 3, 11, 12, 0, 905, 0, 0)] (by decide +kernel) rfl rfl ?_
  refine XA.icmp_ge (173) 185 (by decide +kernel) (fun c1 => ?_) (fun c1 => ?_)
  · have H := H.1 c1
    exact XA.ret none rfl (show ckRt mX11_befalls 185 .return_ = true by decide +kernel) trivial (Nat.le_of_ble_eq_true rfl) (Nat.le_of_ble_eq_true rfl) ⟨_, rfl, rfl, H⟩
  · have H := H.2 c1
    obtain ⟨o1, H⟩ := H
    refine XA.blk (e9 := 29) (ok := inB x2 8 && (inB x2 8 && (true))) (ls' := [some (.ref 136), some (.int x1), some (.int x2), some (.int (σ 148 (Int32.toNatClampNeg x2))), none]) (st' := [.int x1, .int (σ 147 (Int32.toNatClampNeg x2))]) (h' := hs σ) [(.aload_n 0, 1, 0, 0, 0, 0, 0, 0), (.getfield 43, 3, 11, 15, 13, 908, 0, 0), (.iload_n 2, 1, 2, 0, 0, 0, 0, 0), (.iaload, 1, 0, 0, 0, 0, 0, 0), (.istore_n 3, 1, 3, 0, 0, 0, 0, 0), (.aload_n 0, 1, 0, 0, 0, 0, 0, 0), (.getfield 40, 3, 11, 14, 12, 907, 0, 0), (.iload_n 2, 1, 2, 0, 0, 0, 0, 0), (.iaload, 1, 0, 0, 0, 0, 0, 0), (.iload_n 1, 1, 1, 0, 0, 0, 0, 0)] (by decide +kernel) rfl (by simp only [o1, Bool.and_true, Bool.true_and]) ?_
    refine XA.icmp_ne (150) 179 (by decide +kernel) (fun c2 => ?_) (fun c2 => ?_)
    · have H := H.1 c2
      refine XA.blk (e9 := 7) (ok := true) (ls' := [some (.ref 136), some (.int x1), some (.int (x2 + 1)), some (.int (σ 148 (Int32.toNatClampNeg x2))), none]) (st' := []) (h' := hs σ) [(.iinc 2 1, 3, 2, 0, 0, 0, 1, 0), (.goto (-175), 3, 7, 0, 0, 0, 0, 0)] (by decide +kernel) rfl rfl ?_
      exact XA.drop (by simp [leL]) H
    · have H := H.2 c2
      refine XA.blk (e9 := 37) (ok := true) (ls' := [some (.ref 136), some (.int x1), some (.int x2), some (.int (σ 148 (Int32.toNatClampNeg x2))), none]) (st' := [.int x2, .int (σ 136 16)]) (h' := hs σ) [(.aload_n 0, 1, 0, 0, 0, 0, 0, 0), (.getfield 180, 3, 11, 16, 0, 909, 0, 0), (.iload_n 2, 1, 2, 0, 0, 0, 0, 0)] (by decide +kernel) rfl rfl ?_
      refine XA.callS (as := [.int (σ 136 16), .int x2]) (rest := []) (mc' := 0) (ms' := 0) (idx := 186) (t := 1161) cs_X11_isIn (by decide +kernel) rfl rfl (Nat.le_of_ble_eq_true rfl) (Nat.le_of_ble_eq_true rfl) (Nat.le_of_ble_eq_true rfl) (Nat.le_of_ble_eq_true rfl) (pu_X11_isIn scr σ (σ 136 16) x2) (fun rv h' hp => ?_)
      obtain ⟨rfl, rfl⟩ := hp
      refine ⟨rfl, rfl, ?_⟩
      show XA scr 2 mX11_befalls 172 4705 40 [some (.ref 136), some (.int x1), some (.int x2), some (.int (σ 148 (Int32.toNatClampNeg x2))), none] [.int (iiV (σ 136 16) x2)] (hs σ) (pV P)
      refine XA.if_ne (139) 179 (by decide +kernel) (fun c3 => ?_) (fun c3 => ?_)
      · have H := H.1 c3
        refine XA.blk (e9 := 7) (ok := true) (ls' := [some (.ref 136), some (.int x1), some (.int (x2 + 1)), some (.int (σ 148 (Int32.toNatClampNeg x2))), none]) (st' := []) (h' := hs σ) [(.iinc 2 1, 3, 2, 0, 0, 0, 1, 0), (.goto (-175), 3, 7, 0, 0, 0, 0, 0)] (by decide +kernel) rfl rfl ?_
        exact XA.drop (by simp [leL]) H
      · have H := H.2 c3
        refine XA.blk (e9 := 49) (ok := inB x2 8 && (true)) (ls' := [some (.ref 136), some (.int x1), some (.int x2), some (.int (σ 148 (Int32.toNatClampNeg x2))), none]) (st' := [.int (σ 146 (Int32.toNatClampNeg x2))]) (h' := hs σ) [(.aload_n 0, 1, 0, 0, 0, 0, 0, 0), (.getfield 37, 3, 11, 13, 11, 906, 0, 0), (.iload_n 2, 1, 2, 0, 0, 0, 0, 0), (.iaload, 1, 0, 0, 0, 0, 0, 0)] (by decide +kernel) rfl (by simp only [o1, Bool.and_true, Bool.true_and]) ?_
        refine XA.if_ne (31) 80 (by decide +kernel) (fun c4 => ?_) (fun c4 => ?_)
        · have H := H.1 c4
          refine XA.blk (e9 := 92) (ok := inB x2 8 && (true)) (ls' := [some (.ref 136), some (.int x1), some (.int x2), some (.int (σ 148 (Int32.toNatClampNeg x2))), none]) (st' := [.int 2, .int (σ 146 (Int32.toNatClampNeg x2)), .int (σ 136 26), .ref 136]) (h' := hs σ) [(.aload_n 0, 1, 0, 0, 0, 0, 0, 0), (.dup, 1, 0, 0, 0, 0, 0, 0), (.getfield 198, 3, 11, 26, 0, 919, 0, 0), (.aload_n 0, 1, 0, 0, 0, 0, 0, 0), (.getfield 37, 3, 11, 13, 11, 906, 0, 0), (.iload_n 2, 1, 2, 0, 0, 0, 0, 0), (.iaload, 1, 0, 0, 0, 0, 0, 0), (.iconst 2, 1, 0, 0, 0, 0, 2, 0)] (by decide +kernel) rfl (by simp only [o1, Bool.and_true, Bool.true_and]) ?_
          have hJ92 : XA scr 2 mX11_befalls 172 4705 102 [some (.ref 136), some (.int x1), some (.int x2), none, none] [.int (if ¬ (σ 146 (Int32.toNatClampNeg x2)) = 2 then 0 else (1 : Int32) <<< ((σ 148 (Int32.toNatClampNeg x2)) &&& 31) : Int32), .int (σ 136 26), .ref 136] (hs σ) (pV P) := by
            refine XA.blk (e9 := 106) (ok := true) (ls' := [some (.ref 136), some (.int x1), some (.int x2), none, none]) (st' := []) (h' := hs (su σ 136 26 ((σ 136 26) ||| (if ¬ (σ 146 (Int32.toNatClampNeg x2)) = 2 then 0 else (1 : Int32) <<< ((σ 148 (Int32.toNatClampNeg x2)) &&& 31) : Int32)))) [(.ior, 1, 0, 0, 0, 0, 0, 0), (.putfield 198, 3, 11, 26, 0, 919, 0, 0)] (by decide +kernel) rfl rfl ?_
            obtain ⟨σ1, hσ1⟩ : ∃ s9, s9 = (su σ 136 26 ((σ 136 26) ||| (if ¬ (σ 146 (Int32.toNatClampNeg x2)) = 2 then 0 else (1 : Int32) <<< ((σ 148 (Int32.toNatClampNeg x2)) &&& 31) : Int32))) := ⟨_, rfl⟩
            rw [← hσ1]
            have H := H σ1 hσ1
            refine XA.blk (e9 := 109) (ok := true) (ls' := [some (.ref 136), some (.int x1), some (.int x2), none, some (.int 0)]) (st' := []) (h' := hs σ1) [(.iconst 0, 1, 0, 0, 0, 0, 0, 0), (.istore 4, 2, 4, 0, 0, 0, 0, 0)] (by decide +kernel) rfl rfl ?_
            exact H
          refine XA.icmp_ne (9) 101 (by decide +kernel) (fun c5 => ?_) (fun c5 => ?_)
          · refine XA.blk (e9 := 102) (ok := true) (ls' := [some (.ref 136), some (.int x1), some (.int x2), some (.int (σ 148 (Int32.toNatClampNeg x2))), none]) (st' := [.int 0, .int (σ 136 26), .ref 136]) (h' := hs σ) [(.iconst 0, 1, 0, 0, 0, 0, 0, 0)] (by decide +kernel) rfl rfl ?_
            refine XA.drop (ls := [some (.ref 136), some (.int x1), some (.int x2), none, none]) (by simp [leL]) ?_
            simpa only [if_pos c5] using hJ92
          · refine XA.blk (e9 := 102) (ok := true) (ls' := [some (.ref 136), some (.int x1), some (.int x2), some (.int (σ 148 (Int32.toNatClampNeg x2))), none]) (st' := [.int ((1 : Int32) <<< ((σ 148 (Int32.toNatClampNeg x2)) &&& 31)), .int (σ 136 26), .ref 136]) (h' := hs σ) [(.iconst 1, 1, 0, 0, 0, 0, 1, 0), (.iload_n 3, 1, 3, 0, 0, 0, 0, 0), (.ishl, 1, 0, 0, 0, 0, 0, 0), (.goto 4, 3, 102, 0, 0, 0, 0, 0)] (by decide +kernel) rfl rfl ?_
            refine XA.drop (ls := [some (.ref 136), some (.int x1), some (.int x2), none, none]) (by simp [leL]) ?_
            simpa only [if_neg (not_not_intro c5)] using hJ92
        · have H := H.2 c4
          refine XA.blk (e9 := 57) (ok := true) (ls' := [some (.ref 136), some (.int x1), some (.int x2), some (.int (σ 148 (Int32.toNatClampNeg x2))), none]) (st' := [.int (σ 136 2), .int (σ 148 (Int32.toNatClampNeg x2))]) (h' := hs σ) [(.iload_n 3, 1, 3, 0, 0, 0, 0, 0), (.aload_n 0, 1, 0, 0, 0, 0, 0, 0), (.getfield 141, 3, 11, 2, 0, 895, 0, 0)] (by decide +kernel) rfl rfl ?_
          refine XA.icmp_ge (23) 80 (by decide +kernel) (fun c5 => ?_) (fun c5 => ?_)
          · have H := H.1 c5
            refine XA.blk (e9 := 92) (ok := inB x2 8 && (true)) (ls' := [some (.ref 136), some (.int x1), some (.int x2), some (.int (σ 148 (Int32.toNatClampNeg x2))), none]) (st' := [.int 2, .int (σ 146 (Int32.toNatClampNeg x2)), .int (σ 136 26), .ref 136]) (h' := hs σ) [(.aload_n 0, 1, 0, 0, 0, 0, 0, 0), (.dup, 1, 0, 0, 0, 0, 0, 0), (.getfield 198, 3, 11, 26, 0, 919, 0, 0), (.aload_n 0, 1, 0, 0, 0, 0, 0, 0), (.getfield 37, 3, 11, 13, 11, 906, 0, 0), (.iload_n 2, 1, 2, 0, 0, 0, 0, 0), (.iaload, 1, 0, 0, 0, 0, 0, 0), (.iconst 2, 1, 0, 0, 0, 0, 2, 0)] (by decide +kernel) rfl (by simp only [o1, Bool.and_true, Bool.true_and]) ?_
            have hJ92 : XA scr 2 mX11_befalls 172 4705 102 [some (.ref 136), some (.int x1), some (.int x2), none, none] [.int (if ¬ (σ 146 (Int32.toNatClampNeg x2)) = 2 then 0 else (1 : Int32) <<< ((σ 148 (Int32.toNatClampNeg x2)) &&& 31) : Int32), .int (σ 136 26), .ref 136] (hs σ) (pV P) := by
              refine XA.blk (e9 := 106) (ok := true) (ls' := [some (.ref 136), some (.int x1), some (.int x2), none, none]) (st' := []) (h' := hs (su σ 136 26 ((σ 136 26) ||| (if ¬ (σ 146 (Int32.toNatClampNeg x2)) = 2 then 0 else (1 : Int32) <<< ((σ 148 (Int32.toNatClampNeg x2)) &&& 31) : Int32)))) [(.ior, 1, 0, 0, 0, 0, 0, 0), (.putfield 198, 3, 11, 26, 0, 919, 0, 0)] (by decide +kernel) rfl rfl ?_
              obtain ⟨σ2, hσ2⟩ : ∃ s9, s9 = (su σ 136 26 ((σ 136 26) ||| (if ¬ (σ 146 (Int32.toNatClampNeg x2)) = 2 then 0 else (1 : Int32) <<< ((σ 148 (Int32.toNatClampNeg x2)) &&& 31) : Int32))) := ⟨_, rfl⟩
              rw [← hσ2]
              have H := H σ2 hσ2
              refine XA.blk (e9 := 109) (ok := true) (ls' := [some (.ref 136), some (.int x1), some (.int x2), none, some (.int 0)]) (st' := []) (h' := hs σ2) [(.iconst 0, 1, 0, 0, 0, 0, 0, 0), (.istore 4, 2, 4, 0, 0, 0, 0, 0)] (by decide +kernel) rfl rfl ?_
              exact H
            refine XA.icmp_ne (9) 101 (by decide +kernel) (fun c6 => ?_) (fun c6 => ?_)
            · refine XA.blk (e9 := 102) (ok := true) (ls' := [some (.ref 136), some (.int x1), some (.int x2), some (.int (σ 148 (Int32.toNatClampNeg x2))), none]) (st' := [.int 0, .int (σ 136 26), .ref 136]) (h' := hs σ) [(.iconst 0, 1, 0, 0, 0, 0, 0, 0)] (by decide +kernel) rfl rfl ?_
              refine XA.drop (ls := [some (.ref 136), some (.int x1), some (.int x2), none, none]) (by simp [leL]) ?_
              simpa only [if_pos c6] using hJ92
            · refine XA.blk (e9 := 102) (ok := true) (ls' := [some (.ref 136), some (.int x1), some (.int x2), some (.int (σ 148 (Int32.toNatClampNeg x2))), none]) (st' := [.int ((1 : Int32) <<< ((σ 148 (Int32.toNatClampNeg x2)) &&& 31)), .int (σ 136 26), .ref 136]) (h' := hs σ) [(.iconst 1, 1, 0, 0, 0, 0, 1, 0), (.iload_n 3, 1, 3, 0, 0, 0, 0, 0), (.ishl, 1, 0, 0, 0, 0, 0, 0), (.goto 4, 3, 102, 0, 0, 0, 0, 0)] (by decide +kernel) rfl rfl ?_
              refine XA.drop (ls := [some (.ref 136), some (.int x1), some (.int x2), none, none]) (by simp [leL]) ?_
              simpa only [if_neg (not_not_intro c6)] using hJ92
          · have H := H.2 c5
            refine XA.blk (e9 := 62) (ok := true) (ls' := [some (.ref 136), some (.int x1), some (.int x2), some (.int (σ 148 (Int32.toNatClampNeg x2))), none]) (st' := [.int (σ 148 (Int32.toNatClampNeg x2)), .ref 136]) (h' := hs σ) [(.aload_n 0, 1, 0, 0, 0, 0, 0, 0), (.iload_n 3, 1, 3, 0, 0, 0, 0, 0)] (by decide +kernel) rfl rfl ?_
            refine XA.callV (as := [.int (σ 148 (Int32.toNatClampNeg x2))]) (rest := []) (mc' := 0) (ms' := 0) (idx := 201) (t := 1164) cv_X11_isUp (by decide +kernel) rfl rfl rfl (Nat.le_of_ble_eq_true rfl) (Nat.le_of_ble_eq_true rfl) (Nat.le_of_ble_eq_true rfl) (Nat.le_of_ble_eq_true rfl) (pu_X11_isUp scr σ (σ 148 (Int32.toNatClampNeg x2))) (fun rv h' hp => ?_)
            obtain ⟨rfl, rfl⟩ := hp
            refine ⟨rfl, rfl, ?_⟩
            show XA scr 2 mX11_befalls 172 4705 65 [some (.ref 136), some (.int x1), some (.int x2), some (.int (σ 148 (Int32.toNatClampNeg x2))), none] [.int (iiV (σ 136 25) (σ 148 (Int32.toNatClampNeg x2)))] (hs σ) (pV P)
            refine XA.if_eq (15) 80 (by decide +kernel) (fun c6 => ?_) (fun c6 => ?_)
            · have H := H.1 c6
              refine XA.blk (e9 := 92) (ok := inB x2 8 && (true)) (ls' := [some (.ref 136), some (.int x1), some (.int x2), some (.int (σ 148 (Int32.toNatClampNeg x2))), none]) (st' := [.int 2, .int (σ 146 (Int32.toNatClampNeg x2)), .int (σ 136 26), .ref 136]) (h' := hs σ) [(.aload_n 0, 1, 0, 0, 0, 0, 0, 0), (.dup, 1, 0, 0, 0, 0, 0, 0), (.getfield 198, 3, 11, 26, 0, 919, 0, 0), (.aload_n 0, 1, 0, 0, 0, 0, 0, 0), (.getfield 37, 3, 11, 13, 11, 906, 0, 0), (.iload_n 2, 1, 2, 0, 0, 0, 0, 0), (.iaload, 1, 0, 0, 0, 0, 0, 0), (.iconst 2, 1, 0, 0, 0, 0, 2, 0)] (by decide +kernel) rfl (by simp only [o1, Bool.and_true, Bool.true_and]) ?_
              have hJ92 : XA scr 2 mX11_befalls 172 4705 102 [some (.ref 136), some (.int x1), some (.int x2), none, none] [.int (if ¬ (σ 146 (Int32.toNatClampNeg x2)) = 2 then 0 else (1 : Int32) <<< ((σ 148 (Int32.toNatClampNeg x2)) &&& 31) : Int32), .int (σ 136 26), .ref 136] (hs σ) (pV P) := by
                refine XA.blk (e9 := 106) (ok := true) (ls' := [some (.ref 136), some (.int x1), some (.int x2), none, none]) (st' := []) (h' := hs (su σ 136 26 ((σ 136 26) ||| (if ¬ (σ 146 (Int32.toNatClampNeg x2)) = 2 then 0 else (1 : Int32) <<< ((σ 148 (Int32.toNatClampNeg x2)) &&& 31) : Int32)))) [(.ior, 1, 0, 0, 0, 0, 0, 0), (.putfield 198, 3, 11, 26, 0, 919, 0, 0)] (by decide +kernel) rfl rfl ?_
                obtain ⟨σ3, hσ3⟩ : ∃ s9, s9 = (su σ 136 26 ((σ 136 26) ||| (if ¬ (σ 146 (Int32.toNatClampNeg x2)) = 2 then 0 else (1 : Int32) <<< ((σ 148 (Int32.toNatClampNeg x2)) &&& 31) : Int32))) := ⟨_, rfl⟩
                rw [← hσ3]
                have H := H σ3 hσ3
                refine XA.blk (e9 := 109) (ok := true) (ls' := [some (.ref 136), some (.int x1), some (.int x2), none, some (.int 0)]) (st' := []) (h' := hs σ3) [(.iconst 0, 1, 0, 0, 0, 0, 0, 0), (.istore 4, 2, 4, 0, 0, 0, 0, 0)] (by decide +kernel) rfl rfl ?_
                exact H
              refine XA.icmp_ne (9) 101 (by decide +kernel) (fun c7 => ?_) (fun c7 => ?_)
              · refine XA.blk (e9 := 102) (ok := true) (ls' := [some (.ref 136), some (.int x1), some (.int x2), some (.int (σ 148 (Int32.toNatClampNeg x2))), none]) (st' := [.int 0, .int (σ 136 26), .ref 136]) (h' := hs σ) [(.iconst 0, 1, 0, 0, 0, 0, 0, 0)] (by decide +kernel) rfl rfl ?_
                refine XA.drop (ls := [some (.ref 136), some (.int x1), some (.int x2), none, none]) (by simp [leL]) ?_
                simpa only [if_pos c7] using hJ92
              · refine XA.blk (e9 := 102) (ok := true) (ls' := [some (.ref 136), some (.int x1), some (.int x2), some (.int (σ 148 (Int32.toNatClampNeg x2))), none]) (st' := [.int ((1 : Int32) <<< ((σ 148 (Int32.toNatClampNeg x2)) &&& 31)), .int (σ 136 26), .ref 136]) (h' := hs σ) [(.iconst 1, 1, 0, 0, 0, 0, 1, 0), (.iload_n 3, 1, 3, 0, 0, 0, 0, 0), (.ishl, 1, 0, 0, 0, 0, 0, 0), (.goto 4, 3, 102, 0, 0, 0, 0, 0)] (by decide +kernel) rfl rfl ?_
                refine XA.drop (ls := [some (.ref 136), some (.int x1), some (.int x2), none, none]) (by simp [leL]) ?_
                simpa only [if_neg (not_not_intro c7)] using hJ92
            · have H := H.2 c6
              obtain ⟨o2, H⟩ := H
              refine XA.blk (e9 := 75) (ok := inB (σ 148 (Int32.toNatClampNeg x2)) 10 && (true)) (ls' := [some (.ref 136), some (.int x1), some (.int x2), some (.int (σ 148 (Int32.toNatClampNeg x2))), none]) (st' := []) (h' := hs (su σ 154 (Int32.toNatClampNeg (σ 148 (Int32.toNatClampNeg x2))) 1)) [(.aload_n 0, 1, 0, 0, 0, 0, 0, 0), (.getfield 61, 3, 11, 32, 19, 925, 0, 0), (.iload_n 3, 1, 3, 0, 0, 0, 0, 0), (.iconst 1, 1, 0, 0, 0, 0, 1, 0), (.iastore, 1, 0, 0, 0, 0, 0, 0)] (by decide +kernel) rfl (by simp only [o2, Bool.and_true, Bool.true_and]) ?_
              obtain ⟨σ4, hσ4⟩ : ∃ s9, s9 = (su σ 154 (Int32.toNatClampNeg (σ 148 (Int32.toNatClampNeg x2))) 1) := ⟨_, rfl⟩
              rw [← hσ4]
              have H := H σ4 hσ4
              refine XA.blk (e9 := 77) (ok := true) (ls' := [some (.ref 136), some (.int x1), some (.int x2), some (.int (σ 148 (Int32.toNatClampNeg x2))), none]) (st' := [.int x1, .ref 136]) (h' := hs σ4) [(.aload_n 0, 1, 0, 0, 0, 0, 0, 0), (.iload_n 1, 1, 1, 0, 0, 0, 0, 0)] (by decide +kernel) rfl rfl ?_
              refine XA.callV (as := [.int x1]) (rest := []) (mc' := 0) (ms' := 0) (idx := 204) (t := 1168) cv_X11_allFall (by decide +kernel) rfl rfl rfl (Nat.le_of_ble_eq_true rfl) (Nat.le_of_ble_eq_true rfl) (Nat.le_of_ble_eq_true rfl) (Nat.le_of_ble_eq_true rfl) (H) (fun rv h' hp => ?_)
              obtain ⟨s9, rfl, rfl, hK⟩ := hp
              exact ⟨rfl, rfl, hK⟩
set_option maxRecDepth 20000 in
theorem W_X11_befalls_80 {scr : ScA}   {x1 : Int32} {x2 : Int32} {x3 : Int32}  {σ : Nat → Nat → Int32} {P : (Nat → Nat → Int32) → Prop} (H : (inB x2 8 = true) ∧ (∀ σ1, σ1 = (su σ 136 26 ((σ 136 26) ||| (if ¬ (σ 146 (Int32.toNatClampNeg x2)) = 2 then 0 else (1 : Int32) <<< (x3 &&& 31) : Int32))) → K_X11_befalls_109 scr x1 x2 0 σ1 P)) : K_X11_befalls_80 scr x1 x2 x3 σ P := by
  show XA scr 2 mX11_befalls 172 4705 80 [some (.ref 136), some (.int x1), some (.int x2), some (.int x3), none] [] (hs σ) (pV P)
  obtain ⟨o1, H⟩ := H
  refine XA.blk (e9 := 92) (ok := inB x2 8 && (true)) (ls' := [some (.ref 136), some (.int x1), some (.int x2), some (.int x3), none]) (st' := [.int 2, .int (σ 146 (Int32.toNatClampNeg x2)), .int (σ 136 26), .ref 136]) (h' := hs σ) [(.aload_n 0, 1, 0, 0, 0, 0, 0, 0), (.dup, 1, 0, 0, 0, 0, 0, 0), (.getfield 198, 3, 11, 26, 0, 919, 0, 0), (.aload_n 0, 1, 0, 0, 0, 0, 0, 0), (.getfield 37, 3, 11, 13, 11, 906, 0, 0), (.iload_n 2, 1, 2, 0, 0, 0, 0, 0), (.iaload, 1, 0, 0, 0, 0, 0, 0), (.iconst 2, 1, 0, 0, 0, 0, 2, 0)] (by decide +kernel) rfl (by simp only [o1, Bool.and_true, Bool.true_and]) ?_
  have hJ92 : XA scr 2 mX11_befalls 172 4705 102 [some (.ref 136), some (.int x1), some (.int x2), none, none] [.int (if ¬ (σ 146 (Int32.toNatClampNeg x2)) = 2 then 0 else (1 : Int32) <<< (x3 &&& 31) : Int32), .int (σ 136 26), .ref 136] (hs σ) (pV P) := by
    refine XA.blk (e9 := 106) (ok := true) (ls' := [some (.ref 136), some (.int x1), some (.int x2), none, none]) (st' := []) (h' := hs (su σ 136 26 ((σ 136 26) ||| (if ¬ (σ 146 (Int32.toNatClampNeg x2)) = 2 then 0 else (1 : Int32) <<< (x3 &&& 31) : Int32)))) [(.ior, 1, 0, 0, 0, 0, 0, 0), (.putfield 198, 3, 11, 26, 0, 919, 0, 0)] (by decide +kernel) rfl rfl ?_
    obtain ⟨σ1, hσ1⟩ : ∃ s9, s9 = (su σ 136 26 ((σ 136 26) ||| (if ¬ (σ 146 (Int32.toNatClampNeg x2)) = 2 then 0 else (1 : Int32) <<< (x3 &&& 31) : Int32))) := ⟨_, rfl⟩
    rw [← hσ1]
    have H := H σ1 hσ1
    refine XA.blk (e9 := 109) (ok := true) (ls' := [some (.ref 136), some (.int x1), some (.int x2), none, some (.int 0)]) (st' := []) (h' := hs σ1) [(.iconst 0, 1, 0, 0, 0, 0, 0, 0), (.istore 4, 2, 4, 0, 0, 0, 0, 0)] (by decide +kernel) rfl rfl ?_
    exact H
  refine XA.icmp_ne (9) 101 (by decide +kernel) (fun c1 => ?_) (fun c1 => ?_)
  · refine XA.blk (e9 := 102) (ok := true) (ls' := [some (.ref 136), some (.int x1), some (.int x2), some (.int x3), none]) (st' := [.int 0, .int (σ 136 26), .ref 136]) (h' := hs σ) [(.iconst 0, 1, 0, 0, 0, 0, 0, 0)] (by decide +kernel) rfl rfl ?_
    refine XA.drop (ls := [some (.ref 136), some (.int x1), some (.int x2), none, none]) (by simp [leL]) ?_
    simpa only [if_pos c1] using hJ92
  · refine XA.blk (e9 := 102) (ok := true) (ls' := [some (.ref 136), some (.int x1), some (.int x2), some (.int x3), none]) (st' := [.int ((1 : Int32) <<< (x3 &&& 31)), .int (σ 136 26), .ref 136]) (h' := hs σ) [(.iconst 1, 1, 0, 0, 0, 0, 1, 0), (.iload_n 3, 1, 3, 0, 0, 0, 0, 0), (.ishl, 1, 0, 0, 0, 0, 0, 0), (.goto 4, 3, 102, 0, 0, 0, 0, 0)] (by decide +kernel) rfl rfl ?_
    refine XA.drop (ls := [some (.ref 136), some (.int x1), some (.int x2), none, none]) (by simp [leL]) ?_
    simpa only [if_neg (not_not_intro c1)] using hJ92
set_option maxRecDepth 20000 in
theorem W_X11_befalls_109 {scr : ScA}   {x1 : Int32} {x2 : Int32} {x4 : Int32}  {σ : Nat → Nat → Int32} {P : (Nat → Nat → Int32) → Prop} (H : ((σ 136 2) ≤ x4 → K_X11_befalls_7 scr x1 (x2 + 1) σ P) ∧ (¬ (σ 136 2) ≤ x4 → (inB x4 10 = true) ∧ (inB x2 8 = true) ∧ (∀ σ1, σ1 = (su σ 150 (Int32.toNatClampNeg x4) ((σ 150 (Int32.toNatClampNeg x4)) - (if ¬ (σ 146 (Int32.toNatClampNeg x2)) = 1 then 0 else (if (iiV (σ 136 25) x4) = 0 then 0 else (if 3 ≤ (σ 150 (Int32.toNatClampNeg x4)) then 3 else σ 150 (Int32.toNatClampNeg x4) : Int32) : Int32) : Int32))) → K_X11_befalls_109 scr x1 x2 (x4 + 1) σ1 P))) : K_X11_befalls_109 scr x1 x2 x4 σ P := by
  show XA scr 2 mX11_befalls 172 4705 109 [some (.ref 136), some (.int x1), some (.int x2), none, some (.int x4)] [] (hs σ) (pV P)
  refine XA.blk (e9 := 115) (ok := true) (ls' := [some (.ref 136), some (.int x1), some (.int x2), none, some (.int x4)]) (st' := [.int (σ 136 2), .int x4]) (h' := hs σ) [(.iload 4, 2, 4, 0, 0, 0, 0, 0), (.aload_n 0, 1, 0, 0, 0, 0, 0, 0), (.getfield 141, 3, 11, 2, 0, 895, 0, 0)] (by decide +kernel) rfl rfl ?_
  refine XA.icmp_ge (64) 179 (by decide +kernel) (fun c1 => ?_) (fun c1 => ?_)
  · have H := H.1 c1
    refine XA.blk (e9 := 7) (ok := true) (ls' := [some (.ref 136), some (.int x1), some (.int (x2 + 1)), none, some (.int x4)]) (st' := []) (h' := hs σ) [(.iinc 2 1, 3, 2, 0, 0, 0, 1, 0), (.goto (-175), 3, 7, 0, 0, 0, 0, 0)] (by decide +kernel) rfl rfl ?_
    exact XA.drop (by simp [leL]) H
  · have H := H.2 c1
    obtain ⟨o1, o2, H⟩ := H
    refine XA.blk (e9 := 133) (ok := inB x4 10 && (inB x2 8 && (true))) (ls' := [some (.ref 136), some (.int x1), some (.int x2), none, some (.int x4)]) (st' := [.int 1, .int (σ 146 (Int32.toNatClampNeg x2)), .int (σ 150 (Int32.toNatClampNeg x4)), .int x4, .ref 150]) (h' := hs σ) [(.aload_n 0, 1, 0, 0, 0, 0, 0, 0), (.getfield 49, 3, 11, 28, 15, 921, 0, 0), (.iload 4, 2, 4, 0, 0, 0, 0, 0), (.dup2, 1, 0, 0, 0, 0, 0, 0), (.iaload, 1, 0, 0, 0, 0, 0, 0), (.aload_n 0, 1, 0, 0, 0, 0, 0, 0), (.getfield 37, 3, 11, 13, 11, 906, 0, 0), (.iload_n 2, 1, 2, 0, 0, 0, 0, 0), (.iaload, 1, 0, 0, 0, 0, 0, 0), (.iconst 1, 1, 0, 0, 0, 0, 1, 0)] (by decide +kernel) rfl (by simp only [o1, o2, Bool.and_true, Bool.true_and]) ?_
    have hJ133 : XA scr 2 mX11_befalls 172 4705 171 [some (.ref 136), some (.int x1), some (.int x2), none, some (.int x4)] [.int (if ¬ (σ 146 (Int32.toNatClampNeg x2)) = 1 then 0 else (if (iiV (σ 136 25) x4) = 0 then 0 else (if 3 ≤ (σ 150 (Int32.toNatClampNeg x4)) then 3 else σ 150 (Int32.toNatClampNeg x4) : Int32) : Int32) : Int32), .int (σ 150 (Int32.toNatClampNeg x4)), .int x4, .ref 150] (hs σ) (pV P) := by
      refine XA.blk (e9 := 173) (ok := inB x4 10 && (true)) (ls' := [some (.ref 136), some (.int x1), some (.int x2), none, some (.int x4)]) (st' := []) (h' := hs (su σ 150 (Int32.toNatClampNeg x4) ((σ 150 (Int32.toNatClampNeg x4)) - (if ¬ (σ 146 (Int32.toNatClampNeg x2)) = 1 then 0 else (if (iiV (σ 136 25) x4) = 0 then 0 else (if 3 ≤ (σ 150 (Int32.toNatClampNeg x4)) then 3 else σ 150 (Int32.toNatClampNeg x4) : Int32) : Int32) : Int32)))) [(.isub, 1, 0, 0, 0, 0, 0, 0), (.iastore, 1, 0, 0, 0, 0, 0, 0)] (by decide +kernel) rfl (by simp only [o1, Bool.and_true, Bool.true_and]) ?_
      obtain ⟨σ1, hσ1⟩ : ∃ s9, s9 = (su σ 150 (Int32.toNatClampNeg x4) ((σ 150 (Int32.toNatClampNeg x4)) - (if ¬ (σ 146 (Int32.toNatClampNeg x2)) = 1 then 0 else (if (iiV (σ 136 25) x4) = 0 then 0 else (if 3 ≤ (σ 150 (Int32.toNatClampNeg x4)) then 3 else σ 150 (Int32.toNatClampNeg x4) : Int32) : Int32) : Int32))) := ⟨_, rfl⟩
      rw [← hσ1]
      have H := H σ1 hσ1
      refine XA.blk (e9 := 109) (ok := true) (ls' := [some (.ref 136), some (.int x1), some (.int x2), none, some (.int (x4 + 1))]) (st' := []) (h' := hs σ1) [(.iinc 4 1, 3, 4, 0, 0, 0, 1, 0), (.goto (-67), 3, 109, 0, 0, 0, 0, 0)] (by decide +kernel) rfl rfl ?_
      exact H
    refine XA.icmp_ne (37) 170 (by decide +kernel) (fun c2 => ?_) (fun c2 => ?_)
    · refine XA.blk (e9 := 171) (ok := true) (ls' := [some (.ref 136), some (.int x1), some (.int x2), none, some (.int x4)]) (st' := [.int 0, .int (σ 150 (Int32.toNatClampNeg x4)), .int x4, .ref 150]) (h' := hs σ) [(.iconst 0, 1, 0, 0, 0, 0, 0, 0)] (by decide +kernel) rfl rfl ?_
      simpa only [if_pos c2] using hJ133
    · refine XA.blk (e9 := 139) (ok := true) (ls' := [some (.ref 136), some (.int x1), some (.int x2), none, some (.int x4)]) (st' := [.int x4, .ref 136, .int (σ 150 (Int32.toNatClampNeg x4)), .int x4, .ref 150]) (h' := hs σ) [(.aload_n 0, 1, 0, 0, 0, 0, 0, 0), (.iload 4, 2, 4, 0, 0, 0, 0, 0)] (by decide +kernel) rfl rfl ?_
      refine XA.callV (as := [.int x4]) (rest := [.int (σ 150 (Int32.toNatClampNeg x4)), .int x4, .ref 150]) (mc' := 0) (ms' := 0) (idx := 201) (t := 1164) cv_X11_isUp (by decide +kernel) rfl rfl rfl (Nat.le_of_ble_eq_true rfl) (Nat.le_of_ble_eq_true rfl) (Nat.le_of_ble_eq_true rfl) (Nat.le_of_ble_eq_true rfl) (pu_X11_isUp scr σ x4) (fun rv h' hp => ?_)
      obtain ⟨rfl, rfl⟩ := hp
      refine ⟨rfl, rfl, ?_⟩
      show XA scr 2 mX11_befalls 172 4705 142 [some (.ref 136), some (.int x1), some (.int x2), none, some (.int x4)] [.int (iiV (σ 136 25) x4), .int (σ 150 (Int32.toNatClampNeg x4)), .int x4, .ref 150] (hs σ) (pV P)
      have hJ142 : XA scr 2 mX11_befalls 172 4705 171 [some (.ref 136), some (.int x1), some (.int x2), none, some (.int x4)] [.int (if (iiV (σ 136 25) x4) = 0 then 0 else (if 3 ≤ (σ 150 (Int32.toNatClampNeg x4)) then 3 else σ 150 (Int32.toNatClampNeg x4) : Int32) : Int32), .int (σ 150 (Int32.toNatClampNeg x4)), .int x4, .ref 150] (hs σ) (pV P) := by
        simpa only [if_neg (not_not_intro c2)] using hJ133
      refine XA.if_eq (28) 170 (by decide +kernel) (fun c3 => ?_) (fun c3 => ?_)
      · refine XA.blk (e9 := 171) (ok := true) (ls' := [some (.ref 136), some (.int x1), some (.int x2), none, some (.int x4)]) (st' := [.int 0, .int (σ 150 (Int32.toNatClampNeg x4)), .int x4, .ref 150]) (h' := hs σ) [(.iconst 0, 1, 0, 0, 0, 0, 0, 0)] (by decide +kernel) rfl rfl ?_
        simpa only [if_pos c3] using hJ142
      · refine XA.blk (e9 := 153) (ok := inB x4 10 && (true)) (ls' := [some (.ref 136), some (.int x1), some (.int x2), none, some (.int x4)]) (st' := [.int 3, .int (σ 150 (Int32.toNatClampNeg x4)), .int (σ 150 (Int32.toNatClampNeg x4)), .int x4, .ref 150]) (h' := hs σ) [(.aload_n 0, 1, 0, 0, 0, 0, 0, 0), (.getfield 49, 3, 11, 28, 15, 921, 0, 0), (.iload 4, 2, 4, 0, 0, 0, 0, 0), (.iaload, 1, 0, 0, 0, 0, 0, 0), (.iconst 3, 1, 0, 0, 0, 0, 3, 0)] (by decide +kernel) rfl (by simp only [o1, Bool.and_true, Bool.true_and]) ?_
        have hJ153 : XA scr 2 mX11_befalls 172 4705 171 [some (.ref 136), some (.int x1), some (.int x2), none, some (.int x4)] [.int (if 3 ≤ (σ 150 (Int32.toNatClampNeg x4)) then 3 else σ 150 (Int32.toNatClampNeg x4) : Int32), .int (σ 150 (Int32.toNatClampNeg x4)), .int x4, .ref 150] (hs σ) (pV P) := by
          simpa only [if_neg c3] using hJ142
        refine XA.icmp_ge (13) 166 (by decide +kernel) (fun c4 => ?_) (fun c4 => ?_)
        · refine XA.blk (e9 := 171) (ok := true) (ls' := [some (.ref 136), some (.int x1), some (.int x2), none, some (.int x4)]) (st' := [.int 3, .int (σ 150 (Int32.toNatClampNeg x4)), .int x4, .ref 150]) (h' := hs σ) [(.iconst 3, 1, 0, 0, 0, 0, 3, 0), (.goto 4, 3, 171, 0, 0, 0, 0, 0)] (by decide +kernel) rfl rfl ?_
          simpa only [if_pos c4] using hJ153
        · refine XA.blk (e9 := 171) (ok := inB x4 10 && (true)) (ls' := [some (.ref 136), some (.int x1), some (.int x2), none, some (.int x4)]) (st' := [.int (σ 150 (Int32.toNatClampNeg x4)), .int (σ 150 (Int32.toNatClampNeg x4)), .int x4, .ref 150]) (h' := hs σ) [(.aload_n 0, 1, 0, 0, 0, 0, 0, 0), (.getfield 49, 3, 11, 28, 15, 921, 0, 0), (.iload 4, 2, 4, 0, 0, 0, 0, 0), (.iaload, 1, 0, 0, 0, 0, 0, 0), (.goto 8, 3, 171, 0, 0, 0, 0, 0)] (by decide +kernel) rfl (by simp only [o1, Bool.and_true, Bool.true_and]) ?_
          simpa only [if_neg c4] using hJ153
theorem E_X11_befalls {scr : ScA}  {x1 : Int32} {σ : Nat → Nat → Int32} {P : (Nat → Nat → Int32) → Prop} (h : K_X11_befalls_0 scr x1 σ P) : CvA scr 2 mX11_befalls [.ref 136, .int x1] σ P := CtA.of (by decide) (Nat.le_of_ble_eq_true rfl) (XA.drop (by simp [leL, enL]) h)
def K_X11_climbs_0 (scr : ScA)  (x1 : Int32) (σ : Nat → Nat → Int32) (P : (Nat → Nat → Int32) → Prop) : Prop := XA scr 2 mX11_climbs 172 4705 0 [some (.ref 136), some (.int x1), none, none, none] [] (hs σ) (pV P)
def K_X11_climbs_2 (scr : ScA)  (x1 : Int32) (x2 : Int32) (σ : Nat → Nat → Int32) (P : (Nat → Nat → Int32) → Prop) : Prop := XA scr 2 mX11_climbs 172 4705 2 [some (.ref 136), some (.int x1), some (.int x2), none, none] [] (hs σ) (pV P)
set_option maxRecDepth 20000 in
theorem W_X11_climbs_0 {scr : ScA}   {x1 : Int32}  {σ : Nat → Nat → Int32} {P : (Nat → Nat → Int32) → Prop} (H : K_X11_climbs_2 scr x1 0 σ P) : K_X11_climbs_0 scr x1 σ P := by
  show XA scr 2 mX11_climbs 172 4705 0 [some (.ref 136), some (.int x1), none, none, none] [] (hs σ) (pV P)
  refine XA.blk (e9 := 2) (ok := true) (ls' := [some (.ref 136), some (.int x1), some (.int 0), none, none]) (st' := []) (h' := hs σ) [(.iconst 0, 1, 0, 0, 0, 0, 0, 0), (.istore_n 2, 1, 2, 0, 0, 0, 0, 0)] (by decide +kernel) rfl rfl ?_
  exact H
set_option maxRecDepth 20000 in
theorem W_X11_climbs_2 {scr : ScA}   {x1 : Int32} {x2 : Int32}  {σ : Nat → Nat → Int32} {P : (Nat → Nat → Int32) → Prop} (H : ((σ 136 2) ≤ x2 → P σ) ∧ (¬ (σ 136 2) ≤ x2 → (inB x2 11 = true) ∧ ((¬ x1 < (σ 141 (Int32.toNatClampNeg x2)) → ((iiV (σ 136 25) x2) = 0 → ((iiV (σ 136 26) x2) = 0 → (inB x2 10 = true)))) ∧ (((if x1 < (σ 141 (Int32.toNatClampNeg x2)) then 0 else (if ¬ (iiV (σ 136 25) x2) = 0 then 0 else (if ¬ (iiV (σ 136 26) x2) = 0 then 0 else (if ¬ (liV σ x2 x1) = 0 then 0 else 1 : Int32) : Int32) : Int32) : Int32) = 0 → K_X11_climbs_2 scr x1 (x2 + 1) σ P) ∧ (¬ (if x1 < (σ 141 (Int32.toNatClampNeg x2)) then 0 else (if ¬ (iiV (σ 136 25) x2) = 0 then 0 else (if ¬ (iiV (σ 136 26) x2) = 0 then 0 else (if ¬ (liV σ x2 x1) = 0 then 0 else 1 : Int32) : Int32) : Int32) : Int32) = 0 → ((σ 142 (Int32.toNatClampNeg x2)) < 4 → (inB (σ 142 (Int32.toNatClampNeg x2)) 10 = true) ∧ (∀ σ1, σ1 = (su σ 149 (Int32.toNatClampNeg (σ 142 (Int32.toNatClampNeg x2))) x2) → ∀ σ2, σ2 = (su σ1 136 25 ((σ1 136 25) ||| ((1 : Int32) <<< (x2 &&& 31)))) → K_X11_climbs_2 scr x1 (x2 + 1) σ2 P)) ∧ (¬ (σ 142 (Int32.toNatClampNeg x2)) < 4 → (inB (blV (σ 142 (Int32.toNatClampNeg x2))) 10 = true) ∧ (((σ 149 (Int32.toNatClampNeg (blV (σ 142 (Int32.toNatClampNeg x2))))) = (-1) → K_X11_climbs_2 scr x1 (x2 + 1) σ P) ∧ (¬ (σ 149 (Int32.toNatClampNeg (blV (σ 142 (Int32.toNatClampNeg x2))))) = (-1) → (inB ((blV (σ 142 (Int32.toNatClampNeg x2))) + 1) 10 = true) ∧ (((σ 149 (Int32.toNatClampNeg ((blV (σ 142 (Int32.toNatClampNeg x2))) + 1))) = (-1) → K_X11_climbs_2 scr x1 (x2 + 1) σ P) ∧ (¬ (σ 149 (Int32.toNatClampNeg ((blV (σ 142 (Int32.toNatClampNeg x2))) + 1))) = (-1) → (inB (σ 142 (Int32.toNatClampNeg x2)) 10 = true) ∧ (∀ σ3, σ3 = (su σ 149 (Int32.toNatClampNeg (σ 142 (Int32.toNatClampNeg x2))) x2) → ∀ σ4, σ4 = (su σ3 136 25 ((σ3 136 25) ||| ((1 : Int32) <<< (x2 &&& 31)))) → K_X11_climbs_2 scr x1 (x2 + 1) σ4 P))))))))))) : K_X11_climbs_2 scr x1 x2 σ P := by
  show XA scr 2 mX11_climbs 172 4705 2 [some (.ref 136), some (.int x1), some (.int x2), none, none] [] (hs σ) (pV P)
  refine XA.blk (e9 := 7) (ok := true) (ls' := [some (.ref 136), some (.int x1), some (.int x2), none, none]) (st' := [.int (σ 136 2), .int x2]) (h' := hs σ) [(.iload_n 2, 1, 2, 0, 0, 0, 0, 0), (.aload_n 0, 1, 0, 0, 0, 0, 0, 0), (.getfield 141, 3, 11, 2, 0, 895, 0, 0)] (by decide +kernel) rfl rfl ?_
  refine XA.icmp_ge (118) 125 (by decide +kernel) (fun c1 => ?_) (fun c1 => ?_)
  · have H := H.1 c1
    exact XA.ret none rfl (show ckRt mX11_climbs 125 .return_ = true by decide +kernel) trivial (Nat.le_of_ble_eq_true rfl) (Nat.le_of_ble_eq_true rfl) ⟨_, rfl, rfl, H⟩
  · have H := H.2 c1
    obtain ⟨o1, H⟩ := H
    refine XA.blk (e9 := 24) (ok := inB x2 11 && (inB x2 11 && (true))) (ls' := [some (.ref 136), some (.int x1), some (.int x2), some (.int (σ 142 (Int32.toNatClampNeg x2))), none]) (st' := [.int x1, .int (σ 141 (Int32.toNatClampNeg x2))]) (h' := hs σ) [(.aload_n 0, 1, 0, 0, 0, 0, 0, 0), (.getfield 25, 3, 11, 7, 7, 900, 0, 0), (.iload_n 2, 1, 2, 0, 0, 0, 0, 0), (.iaload, 1, 0, 0, 0, 0, 0, 0), (.istore_n 3, 1, 3, 0, 0, 0, 0, 0), (.aload_n 0, 1, 0, 0, 0, 0, 0, 0), (.getfield 22, 3, 11, 6, 6, 899, 0, 0), (.iload_n 2, 1, 2, 0, 0, 0, 0, 0), (.iaload, 1, 0, 0, 0, 0, 0, 0), (.iload_n 1, 1, 1, 0, 0, 0, 0, 0)] (by decide +kernel) rfl (by simp only [o1, Bool.and_true, Bool.true_and]) ?_
    obtain ⟨hF24, H⟩ := H
    have hJ24 : XA scr 2 mX11_climbs 172 4705 60 [some (.ref 136), some (.int x1), some (.int x2), some (.int (σ 142 (Int32.toNatClampNeg x2))), none] [.int (if x1 < (σ 141 (Int32.toNatClampNeg x2)) then 0 else (if ¬ (iiV (σ 136 25) x2) = 0 then 0 else (if ¬ (iiV (σ 136 26) x2) = 0 then 0 else (if ¬ (liV σ x2 x1) = 0 then 0 else 1 : Int32) : Int32) : Int32) : Int32)] (hs σ) (pV P) := by
      refine XA.blk (e9 := 64) (ok := true) (ls' := [some (.ref 136), some (.int x1), some (.int x2), some (.int (σ 142 (Int32.toNatClampNeg x2))), some (.int (if x1 < (σ 141 (Int32.toNatClampNeg x2)) then 0 else (if ¬ (iiV (σ 136 25) x2) = 0 then 0 else (if ¬ (iiV (σ 136 26) x2) = 0 then 0 else (if ¬ (liV σ x2 x1) = 0 then 0 else 1 : Int32) : Int32) : Int32) : Int32))]) (st' := [.int (if x1 < (σ 141 (Int32.toNatClampNeg x2)) then 0 else (if ¬ (iiV (σ 136 25) x2) = 0 then 0 else (if ¬ (iiV (σ 136 26) x2) = 0 then 0 else (if ¬ (liV σ x2 x1) = 0 then 0 else 1 : Int32) : Int32) : Int32) : Int32)]) (h' := hs σ) [(.istore 4, 2, 4, 0, 0, 0, 0, 0), (.iload 4, 2, 4, 0, 0, 0, 0, 0)] (by decide +kernel) rfl rfl ?_
      refine XA.if_eq (55) 119 (by decide +kernel) (fun c2 => ?_) (fun c2 => ?_)
      · have H := H.1 c2
        refine XA.blk (e9 := 2) (ok := true) (ls' := [some (.ref 136), some (.int x1), some (.int (x2 + 1)), some (.int (σ 142 (Int32.toNatClampNeg x2))), some (.int (if x1 < (σ 141 (Int32.toNatClampNeg x2)) then 0 else (if ¬ (iiV (σ 136 25) x2) = 0 then 0 else (if ¬ (iiV (σ 136 26) x2) = 0 then 0 else (if ¬ (liV σ x2 x1) = 0 then 0 else 1 : Int32) : Int32) : Int32) : Int32))]) (st' := []) (h' := hs σ) [(.iinc 2 1, 3, 2, 0, 0, 0, 1, 0), (.goto (-120), 3, 2, 0, 0, 0, 0, 0)] (by decide +kernel) rfl rfl ?_
        exact XA.drop (by simp [leL]) H
      · have H := H.2 c2
        refine XA.blk (e9 := 69) (ok := true) (ls' := [some (.ref 136), some (.int x1), some (.int x2), some (.int (σ 142 (Int32.toNatClampNeg x2))), some (.int (if x1 < (σ 141 (Int32.toNatClampNeg x2)) then 0 else (if ¬ (iiV (σ 136 25) x2) = 0 then 0 else (if ¬ (iiV (σ 136 26) x2) = 0 then 0 else (if ¬ (liV σ x2 x1) = 0 then 0 else 1 : Int32) : Int32) : Int32) : Int32))]) (st' := [.int 4, .int (σ 142 (Int32.toNatClampNeg x2))]) (h' := hs σ) [(.iload_n 3, 1, 3, 0, 0, 0, 0, 0), (.iconst 4, 1, 0, 0, 0, 0, 4, 0)] (by decide +kernel) rfl rfl ?_
        refine XA.icmp_lt (31) 100 (by decide +kernel) (fun c3 => ?_) (fun c3 => ?_)
        · have H := H.1 c3
          obtain ⟨o2, H⟩ := H
          refine XA.blk (e9 := 107) (ok := inB (σ 142 (Int32.toNatClampNeg x2)) 10 && (true)) (ls' := [some (.ref 136), some (.int x1), some (.int x2), some (.int (σ 142 (Int32.toNatClampNeg x2))), some (.int (if x1 < (σ 141 (Int32.toNatClampNeg x2)) then 0 else (if ¬ (iiV (σ 136 25) x2) = 0 then 0 else (if ¬ (iiV (σ 136 26) x2) = 0 then 0 else (if ¬ (liV σ x2 x1) = 0 then 0 else 1 : Int32) : Int32) : Int32) : Int32))]) (st' := []) (h' := hs (su σ 149 (Int32.toNatClampNeg (σ 142 (Int32.toNatClampNeg x2))) x2)) [(.aload_n 0, 1, 0, 0, 0, 0, 0, 0), (.getfield 46, 3, 11, 27, 14, 920, 0, 0), (.iload_n 3, 1, 3, 0, 0, 0, 0, 0), (.iload_n 2, 1, 2, 0, 0, 0, 0, 0), (.iastore, 1, 0, 0, 0, 0, 0, 0)] (by decide +kernel) rfl (by simp only [o2, Bool.and_true, Bool.true_and]) ?_
          obtain ⟨σ1, hσ1⟩ : ∃ s9, s9 = (su σ 149 (Int32.toNatClampNeg (σ 142 (Int32.toNatClampNeg x2))) x2) := ⟨_, rfl⟩
          rw [← hσ1]
          have H := H σ1 hσ1
          refine XA.blk (e9 := 119) (ok := true) (ls' := [some (.ref 136), some (.int x1), some (.int x2), some (.int (σ 142 (Int32.toNatClampNeg x2))), some (.int (if x1 < (σ 141 (Int32.toNatClampNeg x2)) then 0 else (if ¬ (iiV (σ 136 25) x2) = 0 then 0 else (if ¬ (iiV (σ 136 26) x2) = 0 then 0 else (if ¬ (liV σ x2 x1) = 0 then 0 else 1 : Int32) : Int32) : Int32) : Int32))]) (st' := []) (h' := hs (su σ1 136 25 ((σ1 136 25) ||| ((1 : Int32) <<< (x2 &&& 31))))) [(.aload_n 0, 1, 0, 0, 0, 0, 0, 0), (.dup, 1, 0, 0, 0, 0, 0, 0), (.getfield 183, 3, 11, 25, 0, 918, 0, 0), (.iconst 1, 1, 0, 0, 0, 0, 1, 0), (.iload_n 2, 1, 2, 0, 0, 0, 0, 0), (.ishl, 1, 0, 0, 0, 0, 0, 0), (.ior, 1, 0, 0, 0, 0, 0, 0), (.putfield 183, 3, 11, 25, 0, 918, 0, 0)] (by decide +kernel) rfl rfl ?_
          obtain ⟨σ2, hσ2⟩ : ∃ s9, s9 = (su σ1 136 25 ((σ1 136 25) ||| ((1 : Int32) <<< (x2 &&& 31)))) := ⟨_, rfl⟩
          rw [← hσ2]
          have H := H σ2 hσ2
          refine XA.blk (e9 := 2) (ok := true) (ls' := [some (.ref 136), some (.int x1), some (.int (x2 + 1)), some (.int (σ 142 (Int32.toNatClampNeg x2))), some (.int (if x1 < (σ 141 (Int32.toNatClampNeg x2)) then 0 else (if ¬ (iiV (σ 136 25) x2) = 0 then 0 else (if ¬ (iiV (σ 136 26) x2) = 0 then 0 else (if ¬ (liV σ x2 x1) = 0 then 0 else 1 : Int32) : Int32) : Int32) : Int32))]) (st' := []) (h' := hs σ2) [(.iinc 2 1, 3, 2, 0, 0, 0, 1, 0), (.goto (-120), 3, 2, 0, 0, 0, 0, 0)] (by decide +kernel) rfl rfl ?_
          exact XA.drop (by simp [leL]) H
        · have H := H.2 c3
          refine XA.blk (e9 := 77) (ok := true) (ls' := [some (.ref 136), some (.int x1), some (.int x2), some (.int (σ 142 (Int32.toNatClampNeg x2))), some (.int (if x1 < (σ 141 (Int32.toNatClampNeg x2)) then 0 else (if ¬ (iiV (σ 136 25) x2) = 0 then 0 else (if ¬ (iiV (σ 136 26) x2) = 0 then 0 else (if ¬ (liV σ x2 x1) = 0 then 0 else 1 : Int32) : Int32) : Int32) : Int32))]) (st' := [.int (σ 142 (Int32.toNatClampNeg x2)), .ref 149]) (h' := hs σ) [(.aload_n 0, 1, 0, 0, 0, 0, 0, 0), (.getfield 46, 3, 11, 27, 14, 920, 0, 0), (.iload_n 3, 1, 3, 0, 0, 0, 0, 0)] (by decide +kernel) rfl rfl ?_
          refine XA.callS (as := [.int (σ 142 (Int32.toNatClampNeg x2))]) (rest := [.ref 149]) (mc' := 0) (ms' := 0) (idx := 189) (t := 1172) cs_X11_below (by decide +kernel) rfl rfl (Nat.le_of_ble_eq_true rfl) (Nat.le_of_ble_eq_true rfl) (Nat.le_of_ble_eq_true rfl) (Nat.le_of_ble_eq_true rfl) (pu_X11_below scr σ (σ 142 (Int32.toNatClampNeg x2))) (fun rv h' hp => ?_)
          obtain ⟨rfl, rfl⟩ := hp
          refine ⟨rfl, rfl, ?_⟩
          show XA scr 2 mX11_climbs 172 4705 80 [some (.ref 136), some (.int x1), some (.int x2), some (.int (σ 142 (Int32.toNatClampNeg x2))), some (.int (if x1 < (σ 141 (Int32.toNatClampNeg x2)) then 0 else (if ¬ (iiV (σ 136 25) x2) = 0 then 0 else (if ¬ (iiV (σ 136 26) x2) = 0 then 0 else (if ¬ (liV σ x2 x1) = 0 then 0 else 1 : Int32) : Int32) : Int32) : Int32))] [.int (blV (σ 142 (Int32.toNatClampNeg x2))), .ref 149] (hs σ) (pV P)
          obtain ⟨o2, H⟩ := H
          refine XA.blk (e9 := 82) (ok := inB (blV (σ 142 (Int32.toNatClampNeg x2))) 10 && (true)) (ls' := [some (.ref 136), some (.int x1), some (.int x2), some (.int (σ 142 (Int32.toNatClampNeg x2))), some (.int (if x1 < (σ 141 (Int32.toNatClampNeg x2)) then 0 else (if ¬ (iiV (σ 136 25) x2) = 0 then 0 else (if ¬ (iiV (σ 136 26) x2) = 0 then 0 else (if ¬ (liV σ x2 x1) = 0 then 0 else 1 : Int32) : Int32) : Int32) : Int32))]) (st' := [.int (-1), .int (σ 149 (Int32.toNatClampNeg (blV (σ 142 (Int32.toNatClampNeg x2)))))]) (h' := hs σ) [(.iaload, 1, 0, 0, 0, 0, 0, 0), (.iconst (-1), 1, 0, 0, 0, 0, (-1), 0)] (by decide +kernel) rfl (by simp only [o2, Bool.and_true, Bool.true_and]) ?_
          refine XA.icmp_eq (37) 119 (by decide +kernel) (fun c4 => ?_) (fun c4 => ?_)
          · have H := H.1 c4
            refine XA.blk (e9 := 2) (ok := true) (ls' := [some (.ref 136), some (.int x1), some (.int (x2 + 1)), some (.int (σ 142 (Int32.toNatClampNeg x2))), some (.int (if x1 < (σ 141 (Int32.toNatClampNeg x2)) then 0 else (if ¬ (iiV (σ 136 25) x2) = 0 then 0 else (if ¬ (iiV (σ 136 26) x2) = 0 then 0 else (if ¬ (liV σ x2 x1) = 0 then 0 else 1 : Int32) : Int32) : Int32) : Int32))]) (st' := []) (h' := hs σ) [(.iinc 2 1, 3, 2, 0, 0, 0, 1, 0), (.goto (-120), 3, 2, 0, 0, 0, 0, 0)] (by decide +kernel) rfl rfl ?_
            exact XA.drop (by simp [leL]) H
          · have H := H.2 c4
            refine XA.blk (e9 := 90) (ok := true) (ls' := [some (.ref 136), some (.int x1), some (.int x2), some (.int (σ 142 (Int32.toNatClampNeg x2))), some (.int (if x1 < (σ 141 (Int32.toNatClampNeg x2)) then 0 else (if ¬ (iiV (σ 136 25) x2) = 0 then 0 else (if ¬ (iiV (σ 136 26) x2) = 0 then 0 else (if ¬ (liV σ x2 x1) = 0 then 0 else 1 : Int32) : Int32) : Int32) : Int32))]) (st' := [.int (σ 142 (Int32.toNatClampNeg x2)), .ref 149]) (h' := hs σ) [(.aload_n 0, 1, 0, 0, 0, 0, 0, 0), (.getfield 46, 3, 11, 27, 14, 920, 0, 0), (.iload_n 3, 1, 3, 0, 0, 0, 0, 0)] (by decide +kernel) rfl rfl ?_
            refine XA.callS (as := [.int (σ 142 (Int32.toNatClampNeg x2))]) (rest := [.ref 149]) (mc' := 0) (ms' := 0) (idx := 189) (t := 1172) cs_X11_below (by decide +kernel) rfl rfl (Nat.le_of_ble_eq_true rfl) (Nat.le_of_ble_eq_true rfl) (Nat.le_of_ble_eq_true rfl) (Nat.le_of_ble_eq_true rfl) (pu_X11_below scr σ (σ 142 (Int32.toNatClampNeg x2))) (fun rv h' hp => ?_)
            obtain ⟨rfl, rfl⟩ := hp
            refine ⟨rfl, rfl, ?_⟩
            show XA scr 2 mX11_climbs 172 4705 93 [some (.ref 136), some (.int x1), some (.int x2), some (.int (σ 142 (Int32.toNatClampNeg x2))), some (.int (if x1 < (σ 141 (Int32.toNatClampNeg x2)) then 0 else (if ¬ (iiV (σ 136 25) x2) = 0 then 0 else (if ¬ (iiV (σ 136 26) x2) = 0 then 0 else (if ¬ (liV σ x2 x1) = 0 then 0 else 1 : Int32) : Int32) : Int32) : Int32))] [.int (blV (σ 142 (Int32.toNatClampNeg x2))), .ref 149] (hs σ) (pV P)
            obtain ⟨o3, H⟩ := H
            refine XA.blk (e9 := 97) (ok := inB ((blV (σ 142 (Int32.toNatClampNeg x2))) + 1) 10 && (true)) (ls' := [some (.ref 136), some (.int x1), some (.int x2), some (.int (σ 142 (Int32.toNatClampNeg x2))), some (.int (if x1 < (σ 141 (Int32.toNatClampNeg x2)) then 0 else (if ¬ (iiV (σ 136 25) x2) = 0 then 0 else (if ¬ (iiV (σ 136 26) x2) = 0 then 0 else (if ¬ (liV σ x2 x1) = 0 then 0 else 1 : Int32) : Int32) : Int32) : Int32))]) (st' := [.int (-1), .int (σ 149 (Int32.toNatClampNeg ((blV (σ 142 (Int32.toNatClampNeg x2))) + 1)))]) (h' := hs σ) [(.iconst 1, 1, 0, 0, 0, 0, 1, 0), (.iadd, 1, 0, 0, 0, 0, 0, 0), (.iaload, 1, 0, 0, 0, 0, 0, 0), (.iconst (-1), 1, 0, 0, 0, 0, (-1), 0)] (by decide +kernel) rfl (by simp only [o3, Bool.and_true, Bool.true_and]) ?_
            refine XA.icmp_eq (22) 119 (by decide +kernel) (fun c5 => ?_) (fun c5 => ?_)
            · have H := H.1 c5
              refine XA.blk (e9 := 2) (ok := true) (ls' := [some (.ref 136), some (.int x1), some (.int (x2 + 1)), some (.int (σ 142 (Int32.toNatClampNeg x2))), some (.int (if x1 < (σ 141 (Int32.toNatClampNeg x2)) then 0 else (if ¬ (iiV (σ 136 25) x2) = 0 then 0 else (if ¬ (iiV (σ 136 26) x2) = 0 then 0 else (if ¬ (liV σ x2 x1) = 0 then 0 else 1 : Int32) : Int32) : Int32) : Int32))]) (st' := []) (h' := hs σ) [(.iinc 2 1, 3, 2, 0, 0, 0, 1, 0), (.goto (-120), 3, 2, 0, 0, 0, 0, 0)] (by decide +kernel) rfl rfl ?_
              exact XA.drop (by simp [leL]) H
            · have H := H.2 c5
              obtain ⟨o4, H⟩ := H
              refine XA.blk (e9 := 107) (ok := inB (σ 142 (Int32.toNatClampNeg x2)) 10 && (true)) (ls' := [some (.ref 136), some (.int x1), some (.int x2), some (.int (σ 142 (Int32.toNatClampNeg x2))), some (.int (if x1 < (σ 141 (Int32.toNatClampNeg x2)) then 0 else (if ¬ (iiV (σ 136 25) x2) = 0 then 0 else (if ¬ (iiV (σ 136 26) x2) = 0 then 0 else (if ¬ (liV σ x2 x1) = 0 then 0 else 1 : Int32) : Int32) : Int32) : Int32))]) (st' := []) (h' := hs (su σ 149 (Int32.toNatClampNeg (σ 142 (Int32.toNatClampNeg x2))) x2)) [(.aload_n 0, 1, 0, 0, 0, 0, 0, 0), (.getfield 46, 3, 11, 27, 14, 920, 0, 0), (.iload_n 3, 1, 3, 0, 0, 0, 0, 0), (.iload_n 2, 1, 2, 0, 0, 0, 0, 0), (.iastore, 1, 0, 0, 0, 0, 0, 0)] (by decide +kernel) rfl (by simp only [o4, Bool.and_true, Bool.true_and]) ?_
              obtain ⟨σ3, hσ3⟩ : ∃ s9, s9 = (su σ 149 (Int32.toNatClampNeg (σ 142 (Int32.toNatClampNeg x2))) x2) := ⟨_, rfl⟩
              rw [← hσ3]
              have H := H σ3 hσ3
              refine XA.blk (e9 := 119) (ok := true) (ls' := [some (.ref 136), some (.int x1), some (.int x2), some (.int (σ 142 (Int32.toNatClampNeg x2))), some (.int (if x1 < (σ 141 (Int32.toNatClampNeg x2)) then 0 else (if ¬ (iiV (σ 136 25) x2) = 0 then 0 else (if ¬ (iiV (σ 136 26) x2) = 0 then 0 else (if ¬ (liV σ x2 x1) = 0 then 0 else 1 : Int32) : Int32) : Int32) : Int32))]) (st' := []) (h' := hs (su σ3 136 25 ((σ3 136 25) ||| ((1 : Int32) <<< (x2 &&& 31))))) [(.aload_n 0, 1, 0, 0, 0, 0, 0, 0), (.dup, 1, 0, 0, 0, 0, 0, 0), (.getfield 183, 3, 11, 25, 0, 918, 0, 0), (.iconst 1, 1, 0, 0, 0, 0, 1, 0), (.iload_n 2, 1, 2, 0, 0, 0, 0, 0), (.ishl, 1, 0, 0, 0, 0, 0, 0), (.ior, 1, 0, 0, 0, 0, 0, 0), (.putfield 183, 3, 11, 25, 0, 918, 0, 0)] (by decide +kernel) rfl rfl ?_
              obtain ⟨σ4, hσ4⟩ : ∃ s9, s9 = (su σ3 136 25 ((σ3 136 25) ||| ((1 : Int32) <<< (x2 &&& 31)))) := ⟨_, rfl⟩
              rw [← hσ4]
              have H := H σ4 hσ4
              refine XA.blk (e9 := 2) (ok := true) (ls' := [some (.ref 136), some (.int x1), some (.int (x2 + 1)), some (.int (σ 142 (Int32.toNatClampNeg x2))), some (.int (if x1 < (σ 141 (Int32.toNatClampNeg x2)) then 0 else (if ¬ (iiV (σ 136 25) x2) = 0 then 0 else (if ¬ (iiV (σ 136 26) x2) = 0 then 0 else (if ¬ (liV σ x2 x1) = 0 then 0 else 1 : Int32) : Int32) : Int32) : Int32))]) (st' := []) (h' := hs σ4) [(.iinc 2 1, 3, 2, 0, 0, 0, 1, 0), (.goto (-120), 3, 2, 0, 0, 0, 0, 0)] (by decide +kernel) rfl rfl ?_
              exact XA.drop (by simp [leL]) H
    refine XA.icmp_gt (35) 59 (by decide +kernel) (fun c2 => ?_) (fun c2 => ?_)
    · refine XA.blk (e9 := 60) (ok := true) (ls' := [some (.ref 136), some (.int x1), some (.int x2), some (.int (σ 142 (Int32.toNatClampNeg x2))), none]) (st' := [.int 0]) (h' := hs σ) [(.iconst 0, 1, 0, 0, 0, 0, 0, 0)] (by decide +kernel) rfl rfl ?_
      simpa only [if_pos c2] using hJ24
    · have H := hF24 c2
      refine XA.blk (e9 := 29) (ok := true) (ls' := [some (.ref 136), some (.int x1), some (.int x2), some (.int (σ 142 (Int32.toNatClampNeg x2))), none]) (st' := [.int x2, .ref 136]) (h' := hs σ) [(.aload_n 0, 1, 0, 0, 0, 0, 0, 0), (.iload_n 2, 1, 2, 0, 0, 0, 0, 0)] (by decide +kernel) rfl rfl ?_
      refine XA.callV (as := [.int x2]) (rest := []) (mc' := 0) (ms' := 0) (idx := 201) (t := 1164) cv_X11_isUp (by decide +kernel) rfl rfl rfl (Nat.le_of_ble_eq_true rfl) (Nat.le_of_ble_eq_true rfl) (Nat.le_of_ble_eq_true rfl) (Nat.le_of_ble_eq_true rfl) (pu_X11_isUp scr σ x2) (fun rv h' hp => ?_)
      obtain ⟨rfl, rfl⟩ := hp
      refine ⟨rfl, rfl, ?_⟩
      show XA scr 2 mX11_climbs 172 4705 32 [some (.ref 136), some (.int x1), some (.int x2), some (.int (σ 142 (Int32.toNatClampNeg x2))), none] [.int (iiV (σ 136 25) x2)] (hs σ) (pV P)
      have hF32 := H
      have hJ32 : XA scr 2 mX11_climbs 172 4705 60 [some (.ref 136), some (.int x1), some (.int x2), some (.int (σ 142 (Int32.toNatClampNeg x2))), none] [.int (if ¬ (iiV (σ 136 25) x2) = 0 then 0 else (if ¬ (iiV (σ 136 26) x2) = 0 then 0 else (if ¬ (liV σ x2 x1) = 0 then 0 else 1 : Int32) : Int32) : Int32)] (hs σ) (pV P) := by
        simpa only [if_neg c2] using hJ24
      refine XA.if_ne (27) 59 (by decide +kernel) (fun c3 => ?_) (fun c3 => ?_)
      · refine XA.blk (e9 := 60) (ok := true) (ls' := [some (.ref 136), some (.int x1), some (.int x2), some (.int (σ 142 (Int32.toNatClampNeg x2))), none]) (st' := [.int 0]) (h' := hs σ) [(.iconst 0, 1, 0, 0, 0, 0, 0, 0)] (by decide +kernel) rfl rfl ?_
        simpa only [if_pos c3] using hJ32
      · have H := hF32 c3
        refine XA.blk (e9 := 40) (ok := true) (ls' := [some (.ref 136), some (.int x1), some (.int x2), some (.int (σ 142 (Int32.toNatClampNeg x2))), none]) (st' := [.int x2, .int (σ 136 26)]) (h' := hs σ) [(.aload_n 0, 1, 0, 0, 0, 0, 0, 0), (.getfield 198, 3, 11, 26, 0, 919, 0, 0), (.iload_n 2, 1, 2, 0, 0, 0, 0, 0)] (by decide +kernel) rfl rfl ?_
        refine XA.callS (as := [.int (σ 136 26), .int x2]) (rest := []) (mc' := 0) (ms' := 0) (idx := 186) (t := 1161) cs_X11_isIn (by decide +kernel) rfl rfl (Nat.le_of_ble_eq_true rfl) (Nat.le_of_ble_eq_true rfl) (Nat.le_of_ble_eq_true rfl) (Nat.le_of_ble_eq_true rfl) (pu_X11_isIn scr σ (σ 136 26) x2) (fun rv h' hp => ?_)
        obtain ⟨rfl, rfl⟩ := hp
        refine ⟨rfl, rfl, ?_⟩
        show XA scr 2 mX11_climbs 172 4705 43 [some (.ref 136), some (.int x1), some (.int x2), some (.int (σ 142 (Int32.toNatClampNeg x2))), none] [.int (iiV (σ 136 26) x2)] (hs σ) (pV P)
        have hF43 := H
        have hJ43 : XA scr 2 mX11_climbs 172 4705 60 [some (.ref 136), some (.int x1), some (.int x2), some (.int (σ 142 (Int32.toNatClampNeg x2))), none] [.int (if ¬ (iiV (σ 136 26) x2) = 0 then 0 else (if ¬ (liV σ x2 x1) = 0 then 0 else 1 : Int32) : Int32)] (hs σ) (pV P) := by
          simpa only [if_neg (not_not_intro c3)] using hJ32
        refine XA.if_ne (16) 59 (by decide +kernel) (fun c4 => ?_) (fun c4 => ?_)
        · refine XA.blk (e9 := 60) (ok := true) (ls' := [some (.ref 136), some (.int x1), some (.int x2), some (.int (σ 142 (Int32.toNatClampNeg x2))), none]) (st' := [.int 0]) (h' := hs σ) [(.iconst 0, 1, 0, 0, 0, 0, 0, 0)] (by decide +kernel) rfl rfl ?_
          simpa only [if_pos c4] using hJ43
        · have H := hF43 c4
          refine XA.blk (e9 := 49) (ok := true) (ls' := [some (.ref 136), some (.int x1), some (.int x2), some (.int (σ 142 (Int32.toNatClampNeg x2))), none]) (st' := [.int x1, .int x2, .ref 136]) (h' := hs σ) [(.aload_n 0, 1, 0, 0, 0, 0, 0, 0), (.iload_n 2, 1, 2, 0, 0, 0, 0, 0), (.iload_n 1, 1, 1, 0, 0, 0, 0, 0)] (by decide +kernel) rfl rfl ?_
          have o2 := H
          refine XA.callV (as := [.int x2, .int x1]) (rest := []) (mc' := 0) (ms' := 0) (idx := 208) (t := 1179) cv_X11_lies (by decide +kernel) rfl rfl rfl (Nat.le_of_ble_eq_true rfl) (Nat.le_of_ble_eq_true rfl) (Nat.le_of_ble_eq_true rfl) (Nat.le_of_ble_eq_true rfl) (pu_X11_lies scr σ x2 x1 o2) (fun rv h' hp => ?_)
          obtain ⟨rfl, rfl⟩ := hp
          refine ⟨rfl, rfl, ?_⟩
          show XA scr 2 mX11_climbs 172 4705 52 [some (.ref 136), some (.int x1), some (.int x2), some (.int (σ 142 (Int32.toNatClampNeg x2))), none] [.int (liV σ x2 x1)] (hs σ) (pV P)
          have hJ52 : XA scr 2 mX11_climbs 172 4705 60 [some (.ref 136), some (.int x1), some (.int x2), some (.int (σ 142 (Int32.toNatClampNeg x2))), none] [.int (if ¬ (liV σ x2 x1) = 0 then 0 else 1 : Int32)] (hs σ) (pV P) := by
            simpa only [if_neg (not_not_intro c4)] using hJ43
          refine XA.if_ne (7) 59 (by decide +kernel) (fun c5 => ?_) (fun c5 => ?_)
          · refine XA.blk (e9 := 60) (ok := true) (ls' := [some (.ref 136), some (.int x1), some (.int x2), some (.int (σ 142 (Int32.toNatClampNeg x2))), none]) (st' := [.int 0]) (h' := hs σ) [(.iconst 0, 1, 0, 0, 0, 0, 0, 0)] (by decide +kernel) rfl rfl ?_
            simpa only [if_pos c5] using hJ52
          · refine XA.blk (e9 := 60) (ok := true) (ls' := [some (.ref 136), some (.int x1), some (.int x2), some (.int (σ 142 (Int32.toNatClampNeg x2))), none]) (st' := [.int 1]) (h' := hs σ) [(.iconst 1, 1, 0, 0, 0, 0, 1, 0), (.goto 4, 3, 60, 0, 0, 0, 0, 0)] (by decide +kernel) rfl rfl ?_
            simpa only [if_neg (not_not_intro c5)] using hJ52
theorem E_X11_climbs {scr : ScA}  {x1 : Int32} {σ : Nat → Nat → Int32} {P : (Nat → Nat → Int32) → Prop} (h : K_X11_climbs_0 scr x1 σ P) : CvA scr 2 mX11_climbs [.ref 136, .int x1] σ P := CtA.of (by decide) (Nat.le_of_ble_eq_true rfl) (XA.drop (by simp [leL, enL]) h)
def K_X11_bears_0 (scr : ScA)   (σ : Nat → Nat → Int32) (P : (Nat → Nat → Int32) → Prop) : Prop := XA scr 2 mX11_bears 172 4705 0 [some (.ref 136), none, none, none] [] (hs σ) (pV P)
def K_X11_bears_2 (scr : ScA)  (x1 : Int32) (σ : Nat → Nat → Int32) (P : (Nat → Nat → Int32) → Prop) : Prop := XA scr 2 mX11_bears 172 4705 2 [some (.ref 136), some (.int x1), none, none] [] (hs σ) (pV P)
def K_X11_bears_24 (scr : ScA)  (x1 : Int32) (σ : Nat → Nat → Int32) (P : (Nat → Nat → Int32) → Prop) : Prop := XA scr 2 mX11_bears 172 4705 24 [some (.ref 136), some (.int x1), none, none] [] (hs σ) (pV P)
def K_X11_bears_106 (scr : ScA)  (x1 : Int32) (σ : Nat → Nat → Int32) (P : (Nat → Nat → Int32) → Prop) : Prop := XA scr 2 mX11_bears 172 4705 106 [some (.ref 136), some (.int x1), none, none] [] (hs σ) (pV P)
set_option maxRecDepth 20000 in
theorem W_X11_bears_0 {scr : ScA}     {σ : Nat → Nat → Int32} {P : (Nat → Nat → Int32) → Prop} (H : K_X11_bears_2 scr 0 σ P) : K_X11_bears_0 scr σ P := by
  show XA scr 2 mX11_bears 172 4705 0 [some (.ref 136), none, none, none] [] (hs σ) (pV P)
  refine XA.blk (e9 := 2) (ok := true) (ls' := [some (.ref 136), some (.int 0), none, none]) (st' := []) (h' := hs σ) [(.iconst 0, 1, 0, 0, 0, 0, 0, 0), (.istore_n 1, 1, 1, 0, 0, 0, 0, 0)] (by decide +kernel) rfl rfl ?_
  exact H
set_option maxRecDepth 20000 in
theorem W_X11_bears_2 {scr : ScA}   {x1 : Int32}  {σ : Nat → Nat → Int32} {P : (Nat → Nat → Int32) → Prop} (H : (10 ≤ x1 → K_X11_bears_24 scr 9 σ P) ∧ (¬ 10 ≤ x1 → (inB x1 10 = true) ∧ (∀ σ1, σ1 = (su σ 151 (Int32.toNatClampNeg x1) 0) → K_X11_bears_2 scr (x1 + 1) σ1 P))) : K_X11_bears_2 scr x1 σ P := by
  show XA scr 2 mX11_bears 172 4705 2 [some (.ref 136), some (.int x1), none, none] [] (hs σ) (pV P)
  refine XA.blk (e9 := 5) (ok := true) (ls' := [some (.ref 136), some (.int x1), none, none]) (st' := [.int 10, .int x1]) (h' := hs σ) [(.iload_n 1, 1, 1, 0, 0, 0, 0, 0), (.bipush 10, 2, 0, 0, 0, 0, 10, 0)] (by decide +kernel) rfl rfl ?_
  refine XA.icmp_ge (16) 21 (by decide +kernel) (fun c1 => ?_) (fun c1 => ?_)
  · have H := H.1 c1
    refine XA.blk (e9 := 24) (ok := true) (ls' := [some (.ref 136), some (.int 9), none, none]) (st' := []) (h' := hs σ) [(.bipush 9, 2, 0, 0, 0, 0, 9, 0), (.istore_n 1, 1, 1, 0, 0, 0, 0, 0)] (by decide +kernel) rfl rfl ?_
    exact H
  · have H := H.2 c1
    obtain ⟨o1, H⟩ := H
    refine XA.blk (e9 := 15) (ok := inB x1 10 && (true)) (ls' := [some (.ref 136), some (.int x1), none, none]) (st' := []) (h' := hs (su σ 151 (Int32.toNatClampNeg x1) 0)) [(.aload_n 0, 1, 0, 0, 0, 0, 0, 0), (.getfield 52, 3, 11, 29, 16, 922, 0, 0), (.iload_n 1, 1, 1, 0, 0, 0, 0, 0), (.iconst 0, 1, 0, 0, 0, 0, 0, 0), (.iastore, 1, 0, 0, 0, 0, 0, 0)] (by decide +kernel) rfl (by simp only [o1, Bool.and_true, Bool.true_and]) ?_
    obtain ⟨σ1, hσ1⟩ : ∃ s9, s9 = (su σ 151 (Int32.toNatClampNeg x1) 0) := ⟨_, rfl⟩
    rw [← hσ1]
    have H := H σ1 hσ1
    refine XA.blk (e9 := 2) (ok := true) (ls' := [some (.ref 136), some (.int (x1 + 1)), none, none]) (st' := []) (h' := hs σ1) [(.iinc 1 1, 3, 1, 0, 0, 0, 1, 0), (.goto (-16), 3, 2, 0, 0, 0, 0, 0)] (by decide +kernel) rfl rfl ?_
    exact H
set_option maxRecDepth 20000 in
theorem W_X11_bears_24 {scr : ScA}   {x1 : Int32}  {σ : Nat → Nat → Int32} {P : (Nat → Nat → Int32) → Prop} (H : (x1 ≤ 3 → K_X11_bears_106 scr 0 σ P) ∧ (¬ x1 ≤ 3 → (inB x1 10 = true) ∧ (((σ 149 (Int32.toNatClampNeg x1)) = (-1) → K_X11_bears_24 scr (x1 + (-1)) σ P) ∧ (¬ (σ 149 (Int32.toNatClampNeg x1)) = (-1) → (inB (σ 149 (Int32.toNatClampNeg x1)) 11 = true) ∧ (inB (σ 149 (Int32.toNatClampNeg x1)) 10 = true) ∧ ((inB (blV x1) 10 = true) ∧ (inB (σ 149 (Int32.toNatClampNeg (blV x1))) 10 = true) ∧ (∀ σ1, σ1 = (su σ 151 (Int32.toNatClampNeg (σ 149 (Int32.toNatClampNeg (blV x1)))) ((σ 151 (Int32.toNatClampNeg (σ 149 (Int32.toNatClampNeg (blV x1))))) + (((8 * (σ 139 (Int32.toNatClampNeg (σ 149 (Int32.toNatClampNeg x1))))) + (σ 151 (Int32.toNatClampNeg (σ 149 (Int32.toNatClampNeg x1))))) / 2))) → (inB ((blV x1) + 1) 10 = true) ∧ (inB (σ1 149 (Int32.toNatClampNeg ((blV x1) + 1))) 10 = true) ∧ (∀ σ2, σ2 = (su σ1 151 (Int32.toNatClampNeg (σ1 149 (Int32.toNatClampNeg ((blV x1) + 1)))) ((σ1 151 (Int32.toNatClampNeg (σ1 149 (Int32.toNatClampNeg ((blV x1) + 1))))) + (((8 * (σ 139 (Int32.toNatClampNeg (σ 149 (Int32.toNatClampNeg x1))))) + (σ 151 (Int32.toNatClampNeg (σ 149 (Int32.toNatClampNeg x1))))) / 2))) → K_X11_bears_24 scr (x1 + (-1)) σ2 P))))))) : K_X11_bears_24 scr x1 σ P := by
  show XA scr 2 mX11_bears 172 4705 24 [some (.ref 136), some (.int x1), none, none] [] (hs σ) (pV P)
  refine XA.blk (e9 := 26) (ok := true) (ls' := [some (.ref 136), some (.int x1), none, none]) (st' := [.int 3, .int x1]) (h' := hs σ) [(.iload_n 1, 1, 1, 0, 0, 0, 0, 0), (.iconst 3, 1, 0, 0, 0, 0, 3, 0)] (by decide +kernel) rfl rfl ?_
  refine XA.icmp_le (78) 104 (by decide +kernel) (fun c1 => ?_) (fun c1 => ?_)
  · have H := H.1 c1
    refine XA.blk (e9 := 106) (ok := true) (ls' := [some (.ref 136), some (.int 0), none, none]) (st' := []) (h' := hs σ) [(.iconst 0, 1, 0, 0, 0, 0, 0, 0), (.istore_n 1, 1, 1, 0, 0, 0, 0, 0)] (by decide +kernel) rfl rfl ?_
    exact H
  · have H := H.2 c1
    obtain ⟨o1, H⟩ := H
    refine XA.blk (e9 := 38) (ok := inB x1 10 && (true)) (ls' := [some (.ref 136), some (.int x1), some (.int (σ 149 (Int32.toNatClampNeg x1))), none]) (st' := [.int (-1), .int (σ 149 (Int32.toNatClampNeg x1))]) (h' := hs σ) [(.aload_n 0, 1, 0, 0, 0, 0, 0, 0), (.getfield 46, 3, 11, 27, 14, 920, 0, 0), (.iload_n 1, 1, 1, 0, 0, 0, 0, 0), (.iaload, 1, 0, 0, 0, 0, 0, 0), (.istore_n 2, 1, 2, 0, 0, 0, 0, 0), (.iload_n 2, 1, 2, 0, 0, 0, 0, 0), (.iconst (-1), 1, 0, 0, 0, 0, (-1), 0)] (by decide +kernel) rfl (by simp only [o1, Bool.and_true, Bool.true_and]) ?_
    refine XA.icmp_eq (60) 98 (by decide +kernel) (fun c2 => ?_) (fun c2 => ?_)
    · have H := H.1 c2
      refine XA.blk (e9 := 24) (ok := true) (ls' := [some (.ref 136), some (.int (x1 + (-1))), some (.int (σ 149 (Int32.toNatClampNeg x1))), none]) (st' := []) (h' := hs σ) [(.iinc 1 (-1), 3, 1, 0, 0, 0, (-1), 0), (.goto (-77), 3, 24, 0, 0, 0, 0, 0)] (by decide +kernel) rfl rfl ?_
      exact XA.drop (by simp [leL]) H
    · have H := H.2 c2
      obtain ⟨o2, o3, H⟩ := H
      refine XA.blk (e9 := 69) (ok := inB (σ 149 (Int32.toNatClampNeg x1)) 11 && (inB (σ 149 (Int32.toNatClampNeg x1)) 10 && (true))) (ls' := [some (.ref 136), some (.int x1), some (.int (σ 149 (Int32.toNatClampNeg x1))), some (.int (((8 * (σ 139 (Int32.toNatClampNeg (σ 149 (Int32.toNatClampNeg x1))))) + (σ 151 (Int32.toNatClampNeg (σ 149 (Int32.toNatClampNeg x1))))) / 2))]) (st' := [.int x1, .ref 149, .ref 151]) (h' := hs σ) [(.bipush 8, 2, 0, 0, 0, 0, 8, 0), (.aload_n 0, 1, 0, 0, 0, 0, 0, 0), (.getfield 16, 3, 11, 4, 4, 897, 0, 0), (.iload_n 2, 1, 2, 0, 0, 0, 0, 0), (.iaload, 1, 0, 0, 0, 0, 0, 0), (.imul, 1, 0, 0, 0, 0, 0, 0), (.aload_n 0, 1, 0, 0, 0, 0, 0, 0), (.getfield 52, 3, 11, 29, 16, 922, 0, 0), (.iload_n 2, 1, 2, 0, 0, 0, 0, 0), (.iaload, 1, 0, 0, 0, 0, 0, 0), (.iadd, 1, 0, 0, 0, 0, 0, 0), (.iconst 2, 1, 0, 0, 0, 0, 2, 0), (.idiv, 1, 0, 0, 0, 0, 0, 0), (.istore_n 3, 1, 3, 0, 0, 0, 0, 0), (.aload_n 0, 1, 0, 0, 0, 0, 0, 0), (.getfield 52, 3, 11, 29, 16, 922, 0, 0), (.aload_n 0, 1, 0, 0, 0, 0, 0, 0), (.getfield 46, 3, 11, 27, 14, 920, 0, 0), (.iload_n 1, 1, 1, 0, 0, 0, 0, 0)] (by decide +kernel) rfl (by simp only [o2, o3, Bool.and_true, Bool.true_and]) ?_
      refine XA.callS (as := [.int x1]) (rest := [.ref 149, .ref 151]) (mc' := 0) (ms' := 0) (idx := 189) (t := 1172) cs_X11_below (by decide +kernel) rfl rfl (Nat.le_of_ble_eq_true rfl) (Nat.le_of_ble_eq_true rfl) (Nat.le_of_ble_eq_true rfl) (Nat.le_of_ble_eq_true rfl) (pu_X11_below scr σ x1) (fun rv h' hp => ?_)
      obtain ⟨rfl, rfl⟩ := hp
      refine ⟨rfl, rfl, ?_⟩
      show XA scr 2 mX11_bears 172 4705 72 [some (.ref 136), some (.int x1), some (.int (σ 149 (Int32.toNatClampNeg x1))), some (.int (((8 * (σ 139 (Int32.toNatClampNeg (σ 149 (Int32.toNatClampNeg x1))))) + (σ 151 (Int32.toNatClampNeg (σ 149 (Int32.toNatClampNeg x1))))) / 2))] [.int (blV x1), .ref 149, .ref 151] (hs σ) (pV P)
      obtain ⟨o4, o5, H⟩ := H
      refine XA.blk (e9 := 78) (ok := inB (blV x1) 10 && (inB (σ 149 (Int32.toNatClampNeg (blV x1))) 10 && (inB (σ 149 (Int32.toNatClampNeg (blV x1))) 10 && (true)))) (ls' := [some (.ref 136), some (.int x1), some (.int (σ 149 (Int32.toNatClampNeg x1))), some (.int (((8 * (σ 139 (Int32.toNatClampNeg (σ 149 (Int32.toNatClampNeg x1))))) + (σ 151 (Int32.toNatClampNeg (σ 149 (Int32.toNatClampNeg x1))))) / 2))]) (st' := []) (h' := hs (su σ 151 (Int32.toNatClampNeg (σ 149 (Int32.toNatClampNeg (blV x1)))) ((σ 151 (Int32.toNatClampNeg (σ 149 (Int32.toNatClampNeg (blV x1))))) + (((8 * (σ 139 (Int32.toNatClampNeg (σ 149 (Int32.toNatClampNeg x1))))) + (σ 151 (Int32.toNatClampNeg (σ 149 (Int32.toNatClampNeg x1))))) / 2)))) [(.iaload, 1, 0, 0, 0, 0, 0, 0), (.dup2, 1, 0, 0, 0, 0, 0, 0), (.iaload, 1, 0, 0, 0, 0, 0, 0), (.iload_n 3, 1, 3, 0, 0, 0, 0, 0), (.iadd, 1, 0, 0, 0, 0, 0, 0), (.iastore, 1, 0, 0, 0, 0, 0, 0)] (by decide +kernel) rfl (by simp only [o4, o5, Bool.and_true, Bool.true_and]) ?_
      obtain ⟨σ1, hσ1⟩ : ∃ s9, s9 = (su σ 151 (Int32.toNatClampNeg (σ 149 (Int32.toNatClampNeg (blV x1)))) ((σ 151 (Int32.toNatClampNeg (σ 149 (Int32.toNatClampNeg (blV x1))))) + (((8 * (σ 139 (Int32.toNatClampNeg (σ 149 (Int32.toNatClampNeg x1))))) + (σ 151 (Int32.toNatClampNeg (σ 149 (Int32.toNatClampNeg x1))))) / 2))) := ⟨_, rfl⟩
      rw [← hσ1]
      have H := H σ1 hσ1
      refine XA.blk (e9 := 87) (ok := true) (ls' := [some (.ref 136), some (.int x1), some (.int (σ 149 (Int32.toNatClampNeg x1))), some (.int (((8 * (σ 139 (Int32.toNatClampNeg (σ 149 (Int32.toNatClampNeg x1))))) + (σ 151 (Int32.toNatClampNeg (σ 149 (Int32.toNatClampNeg x1))))) / 2))]) (st' := [.int x1, .ref 149, .ref 151]) (h' := hs σ1) [(.aload_n 0, 1, 0, 0, 0, 0, 0, 0), (.getfield 52, 3, 11, 29, 16, 922, 0, 0), (.aload_n 0, 1, 0, 0, 0, 0, 0, 0), (.getfield 46, 3, 11, 27, 14, 920, 0, 0), (.iload_n 1, 1, 1, 0, 0, 0, 0, 0)] (by decide +kernel) rfl rfl ?_
      refine XA.callS (as := [.int x1]) (rest := [.ref 149, .ref 151]) (mc' := 0) (ms' := 0) (idx := 189) (t := 1172) cs_X11_below (by decide +kernel) rfl rfl (Nat.le_of_ble_eq_true rfl) (Nat.le_of_ble_eq_true rfl) (Nat.le_of_ble_eq_true rfl) (Nat.le_of_ble_eq_true rfl) (pu_X11_below scr σ1 x1) (fun rv h' hp => ?_)
      obtain ⟨rfl, rfl⟩ := hp
      refine ⟨rfl, rfl, ?_⟩
      show XA scr 2 mX11_bears 172 4705 90 [some (.ref 136), some (.int x1), some (.int (σ 149 (Int32.toNatClampNeg x1))), some (.int (((8 * (σ 139 (Int32.toNatClampNeg (σ 149 (Int32.toNatClampNeg x1))))) + (σ 151 (Int32.toNatClampNeg (σ 149 (Int32.toNatClampNeg x1))))) / 2))] [.int (blV x1), .ref 149, .ref 151] (hs σ1) (pV P)
      obtain ⟨o6, o7, H⟩ := H
      refine XA.blk (e9 := 98) (ok := inB ((blV x1) + 1) 10 && (inB (σ1 149 (Int32.toNatClampNeg ((blV x1) + 1))) 10 && (inB (σ1 149 (Int32.toNatClampNeg ((blV x1) + 1))) 10 && (true)))) (ls' := [some (.ref 136), some (.int x1), some (.int (σ 149 (Int32.toNatClampNeg x1))), some (.int (((8 * (σ 139 (Int32.toNatClampNeg (σ 149 (Int32.toNatClampNeg x1))))) + (σ 151 (Int32.toNatClampNeg (σ 149 (Int32.toNatClampNeg x1))))) / 2))]) (st' := []) (h' := hs (su σ1 151 (Int32.toNatClampNeg (σ1 149 (Int32.toNatClampNeg ((blV x1) + 1)))) ((σ1 151 (Int32.toNatClampNeg (σ1 149 (Int32.toNatClampNeg ((blV x1) + 1))))) + (((8 * (σ 139 (Int32.toNatClampNeg (σ 149 (Int32.toNatClampNeg x1))))) + (σ 151 (Int32.toNatClampNeg (σ 149 (Int32.toNatClampNeg x1))))) / 2)))) [(.iconst 1, 1, 0, 0, 0, 0, 1, 0), (.iadd, 1, 0, 0, 0, 0, 0, 0), (.iaload, 1, 0, 0, 0, 0, 0, 0), (.dup2, 1, 0, 0, 0, 0, 0, 0), (.iaload, 1, 0, 0, 0, 0, 0, 0), (.iload_n 3, 1, 3, 0, 0, 0, 0, 0), (.iadd, 1, 0, 0, 0, 0, 0, 0), (.iastore, 1, 0, 0, 0, 0, 0, 0)] (by decide +kernel) rfl (by simp only [o6, o7, Bool.and_true, Bool.true_and]) ?_
      obtain ⟨σ2, hσ2⟩ : ∃ s9, s9 = (su σ1 151 (Int32.toNatClampNeg (σ1 149 (Int32.toNatClampNeg ((blV x1) + 1)))) ((σ1 151 (Int32.toNatClampNeg (σ1 149 (Int32.toNatClampNeg ((blV x1) + 1))))) + (((8 * (σ 139 (Int32.toNatClampNeg (σ 149 (Int32.toNatClampNeg x1))))) + (σ 151 (Int32.toNatClampNeg (σ 149 (Int32.toNatClampNeg x1))))) / 2))) := ⟨_, rfl⟩
      rw [← hσ2]
      have H := H σ2 hσ2
      refine XA.blk (e9 := 24) (ok := true) (ls' := [some (.ref 136), some (.int (x1 + (-1))), some (.int (σ 149 (Int32.toNatClampNeg x1))), some (.int (((8 * (σ 139 (Int32.toNatClampNeg (σ 149 (Int32.toNatClampNeg x1))))) + (σ 151 (Int32.toNatClampNeg (σ 149 (Int32.toNatClampNeg x1))))) / 2))]) (st' := []) (h' := hs σ2) [(.iinc 1 (-1), 3, 1, 0, 0, 0, (-1), 0), (.goto (-77), 3, 24, 0, 0, 0, 0, 0)] (by decide +kernel) rfl rfl ?_
      exact XA.drop (by simp [leL]) H
set_option maxRecDepth 20000 in
theorem W_X11_bears_106 {scr : ScA}   {x1 : Int32}  {σ : Nat → Nat → Int32} {P : (Nat → Nat → Int32) → Prop} (H : ((σ 136 2) ≤ x1 → P σ) ∧ (¬ (σ 136 2) ≤ x1 → ((iiV (σ 136 25) x1) = 0 → K_X11_bears_106 scr (x1 + 1) σ P) ∧ (¬ (iiV (σ 136 25) x1) = 0 → (inB x1 10 = true) ∧ (inB x1 11 = true) ∧ (∀ σ1, σ1 = (su σ 150 (Int32.toNatClampNeg x1) ((σ 150 (Int32.toNatClampNeg x1)) + (if 0 ≤ (((σ 151 (Int32.toNatClampNeg x1)) / 8) + (if ¬ (σ 138 (Int32.toNatClampNeg x1)) = 1 then (if ¬ (σ 138 (Int32.toNatClampNeg x1)) = 2 then 0 else (-1) : Int32) else 1 : Int32)) then ((σ 151 (Int32.toNatClampNeg x1)) / 8) + (if ¬ (σ 138 (Int32.toNatClampNeg x1)) = 1 then (if ¬ (σ 138 (Int32.toNatClampNeg x1)) = 2 then 0 else (-1) : Int32) else 1 : Int32) else 0 : Int32))) → ∀ σ2, σ2 = (su σ1 154 (Int32.toNatClampNeg x1) (if (4 * (σ1 140 (Int32.toNatClampNeg x1))) < (σ1 150 (Int32.toNatClampNeg x1)) then 1 else (if (σ1 151 (Int32.toNatClampNeg x1)) ≤ (16 * (σ1 140 (Int32.toNatClampNeg x1))) then 0 else 1 : Int32) : Int32)) → K_X11_bears_106 scr (x1 + 1) σ2 P)))) : K_X11_bears_106 scr x1 σ P := by
  show XA scr 2 mX11_bears 172 4705 106 [some (.ref 136), some (.int x1), none, none] [] (hs σ) (pV P)
  refine XA.blk (e9 := 111) (ok := true) (ls' := [some (.ref 136), some (.int x1), none, none]) (st' := [.int (σ 136 2), .int x1]) (h' := hs σ) [(.iload_n 1, 1, 1, 0, 0, 0, 0, 0), (.aload_n 0, 1, 0, 0, 0, 0, 0, 0), (.getfield 141, 3, 11, 2, 0, 895, 0, 0)] (by decide +kernel) rfl rfl ?_
  refine XA.icmp_ge (121) 232 (by decide +kernel) (fun c1 => ?_) (fun c1 => ?_)
  · have H := H.1 c1
    exact XA.ret none rfl (show ckRt mX11_bears 232 .return_ = true by decide +kernel) trivial (Nat.le_of_ble_eq_true rfl) (Nat.le_of_ble_eq_true rfl) ⟨_, rfl, rfl, H⟩
  · have H := H.2 c1
    refine XA.blk (e9 := 116) (ok := true) (ls' := [some (.ref 136), some (.int x1), none, none]) (st' := [.int x1, .ref 136]) (h' := hs σ) [(.aload_n 0, 1, 0, 0, 0, 0, 0, 0), (.iload_n 1, 1, 1, 0, 0, 0, 0, 0)] (by decide +kernel) rfl rfl ?_
    refine XA.callV (as := [.int x1]) (rest := []) (mc' := 0) (ms' := 0) (idx := 201) (t := 1164) cv_X11_isUp (by decide +kernel) rfl rfl rfl (Nat.le_of_ble_eq_true rfl) (Nat.le_of_ble_eq_true rfl) (Nat.le_of_ble_eq_true rfl) (Nat.le_of_ble_eq_true rfl) (pu_X11_isUp scr σ x1) (fun rv h' hp => ?_)
    obtain ⟨rfl, rfl⟩ := hp
    refine ⟨rfl, rfl, ?_⟩
    show XA scr 2 mX11_bears 172 4705 119 [some (.ref 136), some (.int x1), none, none] [.int (iiV (σ 136 25) x1)] (hs σ) (pV P)
    refine XA.if_eq (107) 226 (by decide +kernel) (fun c2 => ?_) (fun c2 => ?_)
    · have H := H.1 c2
      refine XA.blk (e9 := 106) (ok := true) (ls' := [some (.ref 136), some (.int (x1 + 1)), none, none]) (st' := []) (h' := hs σ) [(.iinc 1 1, 3, 1, 0, 0, 0, 1, 0), (.goto (-123), 3, 106, 0, 0, 0, 0, 0)] (by decide +kernel) rfl rfl ?_
      exact H
    · have H := H.2 c2
      obtain ⟨o1, o2, H⟩ := H
      refine XA.blk (e9 := 138) (ok := inB x1 10 && (inB x1 11 && (true))) (ls' := [some (.ref 136), some (.int x1), none, none]) (st' := [.int 1, .int (σ 138 (Int32.toNatClampNeg x1)), .int ((σ 151 (Int32.toNatClampNeg x1)) / 8)]) (h' := hs σ) [(.aload_n 0, 1, 0, 0, 0, 0, 0, 0), (.getfield 52, 3, 11, 29, 16, 922, 0, 0), (.iload_n 1, 1, 1, 0, 0, 0, 0, 0), (.iaload, 1, 0, 0, 0, 0, 0, 0), (.bipush 8, 2, 0, 0, 0, 0, 8, 0), (.idiv, 1, 0, 0, 0, 0, 0, 0), (.aload_n 0, 1, 0, 0, 0, 0, 0, 0), (.getfield 13, 3, 11, 3, 3, 896, 0, 0), (.iload_n 1, 1, 1, 0, 0, 0, 0, 0), (.iaload, 1, 0, 0, 0, 0, 0, 0), (.iconst 1, 1, 0, 0, 0, 0, 1, 0)] (by decide +kernel) rfl (by simp only [o1, o2, Bool.and_true, Bool.true_and]) ?_
      have hJ138 : XA scr 2 mX11_bears 172 4705 160 [some (.ref 136), some (.int x1), none, none] [.int (if ¬ (σ 138 (Int32.toNatClampNeg x1)) = 1 then (if ¬ (σ 138 (Int32.toNatClampNeg x1)) = 2 then 0 else (-1) : Int32) else 1 : Int32), .int ((σ 151 (Int32.toNatClampNeg x1)) / 8)] (hs σ) (pV P) := by
        refine XA.blk (e9 := 170) (ok := inB x1 10 && (true)) (ls' := [some (.ref 136), some (.int x1), some (.int (((σ 151 (Int32.toNatClampNeg x1)) / 8) + (if ¬ (σ 138 (Int32.toNatClampNeg x1)) = 1 then (if ¬ (σ 138 (Int32.toNatClampNeg x1)) = 2 then 0 else (-1) : Int32) else 1 : Int32))), none]) (st' := [.int (((σ 151 (Int32.toNatClampNeg x1)) / 8) + (if ¬ (σ 138 (Int32.toNatClampNeg x1)) = 1 then (if ¬ (σ 138 (Int32.toNatClampNeg x1)) = 2 then 0 else (-1) : Int32) else 1 : Int32)), .int (σ 150 (Int32.toNatClampNeg x1)), .int x1, .ref 150]) (h' := hs σ) [(.iadd, 1, 0, 0, 0, 0, 0, 0), (.istore_n 2, 1, 2, 0, 0, 0, 0, 0), (.aload_n 0, 1, 0, 0, 0, 0, 0, 0), (.getfield 49, 3, 11, 28, 15, 921, 0, 0), (.iload_n 1, 1, 1, 0, 0, 0, 0, 0), (.dup2, 1, 0, 0, 0, 0, 0, 0), (.iaload, 1, 0, 0, 0, 0, 0, 0), (.iload_n 2, 1, 2, 0, 0, 0, 0, 0)] (by decide +kernel) rfl (by simp only [o1, Bool.and_true, Bool.true_and]) ?_
        have hJ170 : XA scr 2 mX11_bears 172 4705 178 [some (.ref 136), some (.int x1), none, none] [.int (if 0 ≤ (((σ 151 (Int32.toNatClampNeg x1)) / 8) + (if ¬ (σ 138 (Int32.toNatClampNeg x1)) = 1 then (if ¬ (σ 138 (Int32.toNatClampNeg x1)) = 2 then 0 else (-1) : Int32) else 1 : Int32)) then ((σ 151 (Int32.toNatClampNeg x1)) / 8) + (if ¬ (σ 138 (Int32.toNatClampNeg x1)) = 1 then (if ¬ (σ 138 (Int32.toNatClampNeg x1)) = 2 then 0 else (-1) : Int32) else 1 : Int32) else 0 : Int32), .int (σ 150 (Int32.toNatClampNeg x1)), .int x1, .ref 150] (hs σ) (pV P) := by
          refine XA.blk (e9 := 180) (ok := inB x1 10 && (true)) (ls' := [some (.ref 136), some (.int x1), none, none]) (st' := []) (h' := hs (su σ 150 (Int32.toNatClampNeg x1) ((σ 150 (Int32.toNatClampNeg x1)) + (if 0 ≤ (((σ 151 (Int32.toNatClampNeg x1)) / 8) + (if ¬ (σ 138 (Int32.toNatClampNeg x1)) = 1 then (if ¬ (σ 138 (Int32.toNatClampNeg x1)) = 2 then 0 else (-1) : Int32) else 1 : Int32)) then ((σ 151 (Int32.toNatClampNeg x1)) / 8) + (if ¬ (σ 138 (Int32.toNatClampNeg x1)) = 1 then (if ¬ (σ 138 (Int32.toNatClampNeg x1)) = 2 then 0 else (-1) : Int32) else 1 : Int32) else 0 : Int32)))) [(.iadd, 1, 0, 0, 0, 0, 0, 0), (.iastore, 1, 0, 0, 0, 0, 0, 0)] (by decide +kernel) rfl (by simp only [o1, Bool.and_true, Bool.true_and]) ?_
          obtain ⟨σ1, hσ1⟩ : ∃ s9, s9 = (su σ 150 (Int32.toNatClampNeg x1) ((σ 150 (Int32.toNatClampNeg x1)) + (if 0 ≤ (((σ 151 (Int32.toNatClampNeg x1)) / 8) + (if ¬ (σ 138 (Int32.toNatClampNeg x1)) = 1 then (if ¬ (σ 138 (Int32.toNatClampNeg x1)) = 2 then 0 else (-1) : Int32) else 1 : Int32)) then ((σ 151 (Int32.toNatClampNeg x1)) / 8) + (if ¬ (σ 138 (Int32.toNatClampNeg x1)) = 1 then (if ¬ (σ 138 (Int32.toNatClampNeg x1)) = 2 then 0 else (-1) : Int32) else 1 : Int32) else 0 : Int32))) := ⟨_, rfl⟩
          rw [← hσ1]
          have H := H σ1 hσ1
          refine XA.blk (e9 := 199) (ok := inB x1 10 && (inB x1 11 && (true))) (ls' := [some (.ref 136), some (.int x1), none, none]) (st' := [.int (4 * (σ1 140 (Int32.toNatClampNeg x1))), .int (σ1 150 (Int32.toNatClampNeg x1)), .int x1, .ref 154]) (h' := hs σ1) [(.aload_n 0, 1, 0, 0, 0, 0, 0, 0), (.getfield 61, 3, 11, 32, 19, 925, 0, 0), (.iload_n 1, 1, 1, 0, 0, 0, 0, 0), (.aload_n 0, 1, 0, 0, 0, 0, 0, 0), (.getfield 49, 3, 11, 28, 15, 921, 0, 0), (.iload_n 1, 1, 1, 0, 0, 0, 0, 0), (.iaload, 1, 0, 0, 0, 0, 0, 0), (.iconst 4, 1, 0, 0, 0, 0, 4, 0), (.aload_n 0, 1, 0, 0, 0, 0, 0, 0), (.getfield 19, 3, 11, 5, 5, 898, 0, 0), (.iload_n 1, 1, 1, 0, 0, 0, 0, 0), (.iaload, 1, 0, 0, 0, 0, 0, 0), (.imul, 1, 0, 0, 0, 0, 0, 0)] (by decide +kernel) rfl (by simp only [o1, o2, Bool.and_true, Bool.true_and]) ?_
          have hJ199 : XA scr 2 mX11_bears 172 4705 225 [some (.ref 136), some (.int x1), none, none] [.int (if (4 * (σ1 140 (Int32.toNatClampNeg x1))) < (σ1 150 (Int32.toNatClampNeg x1)) then 1 else (if (σ1 151 (Int32.toNatClampNeg x1)) ≤ (16 * (σ1 140 (Int32.toNatClampNeg x1))) then 0 else 1 : Int32) : Int32), .int x1, .ref 154] (hs σ1) (pV P) := by
            refine XA.blk (e9 := 226) (ok := inB x1 10 && (true)) (ls' := [some (.ref 136), some (.int x1), none, none]) (st' := []) (h' := hs (su σ1 154 (Int32.toNatClampNeg x1) (if (4 * (σ1 140 (Int32.toNatClampNeg x1))) < (σ1 150 (Int32.toNatClampNeg x1)) then 1 else (if (σ1 151 (Int32.toNatClampNeg x1)) ≤ (16 * (σ1 140 (Int32.toNatClampNeg x1))) then 0 else 1 : Int32) : Int32))) [(.iastore, 1, 0, 0, 0, 0, 0, 0)] (by decide +kernel) rfl (by simp only [o1, Bool.and_true, Bool.true_and]) ?_
            obtain ⟨σ2, hσ2⟩ : ∃ s9, s9 = (su σ1 154 (Int32.toNatClampNeg x1) (if (4 * (σ1 140 (Int32.toNatClampNeg x1))) < (σ1 150 (Int32.toNatClampNeg x1)) then 1 else (if (σ1 151 (Int32.toNatClampNeg x1)) ≤ (16 * (σ1 140 (Int32.toNatClampNeg x1))) then 0 else 1 : Int32) : Int32)) := ⟨_, rfl⟩
            rw [← hσ2]
            have H := H σ2 hσ2
            refine XA.blk (e9 := 106) (ok := true) (ls' := [some (.ref 136), some (.int (x1 + 1)), none, none]) (st' := []) (h' := hs σ2) [(.iinc 1 1, 3, 1, 0, 0, 0, 1, 0), (.goto (-123), 3, 106, 0, 0, 0, 0, 0)] (by decide +kernel) rfl rfl ?_
            exact H
          refine XA.icmp_gt (21) 220 (by decide +kernel) (fun c3 => ?_) (fun c3 => ?_)
          · refine XA.blk (e9 := 225) (ok := true) (ls' := [some (.ref 136), some (.int x1), none, none]) (st' := [.int 1, .int x1, .ref 154]) (h' := hs σ1) [(.iconst 1, 1, 0, 0, 0, 0, 1, 0), (.goto 4, 3, 225, 0, 0, 0, 0, 0)] (by decide +kernel) rfl rfl ?_
            simpa only [if_pos c3] using hJ199
          · refine XA.blk (e9 := 217) (ok := inB x1 10 && (inB x1 11 && (true))) (ls' := [some (.ref 136), some (.int x1), none, none]) (st' := [.int (16 * (σ1 140 (Int32.toNatClampNeg x1))), .int (σ1 151 (Int32.toNatClampNeg x1)), .int x1, .ref 154]) (h' := hs σ1) [(.aload_n 0, 1, 0, 0, 0, 0, 0, 0), (.getfield 52, 3, 11, 29, 16, 922, 0, 0), (.iload_n 1, 1, 1, 0, 0, 0, 0, 0), (.iaload, 1, 0, 0, 0, 0, 0, 0), (.bipush 16, 2, 0, 0, 0, 0, 16, 0), (.aload_n 0, 1, 0, 0, 0, 0, 0, 0), (.getfield 19, 3, 11, 5, 5, 898, 0, 0), (.iload_n 1, 1, 1, 0, 0, 0, 0, 0), (.iaload, 1, 0, 0, 0, 0, 0, 0), (.imul, 1, 0, 0, 0, 0, 0, 0)] (by decide +kernel) rfl (by simp only [o1, o2, Bool.and_true, Bool.true_and]) ?_
            have hJ217 : XA scr 2 mX11_bears 172 4705 225 [some (.ref 136), some (.int x1), none, none] [.int (if (σ1 151 (Int32.toNatClampNeg x1)) ≤ (16 * (σ1 140 (Int32.toNatClampNeg x1))) then 0 else 1 : Int32), .int x1, .ref 154] (hs σ1) (pV P) := by
              simpa only [if_neg c3] using hJ199
            refine XA.icmp_le (7) 224 (by decide +kernel) (fun c4 => ?_) (fun c4 => ?_)
            · refine XA.blk (e9 := 225) (ok := true) (ls' := [some (.ref 136), some (.int x1), none, none]) (st' := [.int 0, .int x1, .ref 154]) (h' := hs σ1) [(.iconst 0, 1, 0, 0, 0, 0, 0, 0)] (by decide +kernel) rfl rfl ?_
              simpa only [if_pos c4] using hJ217
            · refine XA.blk (e9 := 225) (ok := true) (ls' := [some (.ref 136), some (.int x1), none, none]) (st' := [.int 1, .int x1, .ref 154]) (h' := hs σ1) [(.iconst 1, 1, 0, 0, 0, 0, 1, 0), (.goto 4, 3, 225, 0, 0, 0, 0, 0)] (by decide +kernel) rfl rfl ?_
              simpa only [if_neg c4] using hJ217
        refine XA.if_ge (7) 177 (by decide +kernel) (fun c3 => ?_) (fun c3 => ?_)
        · refine XA.blk (e9 := 178) (ok := true) (ls' := [some (.ref 136), some (.int x1), some (.int (((σ 151 (Int32.toNatClampNeg x1)) / 8) + (if ¬ (σ 138 (Int32.toNatClampNeg x1)) = 1 then (if ¬ (σ 138 (Int32.toNatClampNeg x1)) = 2 then 0 else (-1) : Int32) else 1 : Int32))), none]) (st' := [.int (((σ 151 (Int32.toNatClampNeg x1)) / 8) + (if ¬ (σ 138 (Int32.toNatClampNeg x1)) = 1 then (if ¬ (σ 138 (Int32.toNatClampNeg x1)) = 2 then 0 else (-1) : Int32) else 1 : Int32)), .int (σ 150 (Int32.toNatClampNeg x1)), .int x1, .ref 150]) (h' := hs σ) [(.iload_n 2, 1, 2, 0, 0, 0, 0, 0)] (by decide +kernel) rfl rfl ?_
          refine XA.drop (ls := [some (.ref 136), some (.int x1), none, none]) (by simp [leL]) ?_
          simpa only [if_pos c3] using hJ170
        · refine XA.blk (e9 := 178) (ok := true) (ls' := [some (.ref 136), some (.int x1), some (.int (((σ 151 (Int32.toNatClampNeg x1)) / 8) + (if ¬ (σ 138 (Int32.toNatClampNeg x1)) = 1 then (if ¬ (σ 138 (Int32.toNatClampNeg x1)) = 2 then 0 else (-1) : Int32) else 1 : Int32))), none]) (st' := [.int 0, .int (σ 150 (Int32.toNatClampNeg x1)), .int x1, .ref 150]) (h' := hs σ) [(.iconst 0, 1, 0, 0, 0, 0, 0, 0), (.goto 4, 3, 178, 0, 0, 0, 0, 0)] (by decide +kernel) rfl rfl ?_
          refine XA.drop (ls := [some (.ref 136), some (.int x1), none, none]) (by simp [leL]) ?_
          simpa only [if_neg c3] using hJ170
      refine XA.icmp_ne (7) 145 (by decide +kernel) (fun c3 => ?_) (fun c3 => ?_)
      · refine XA.blk (e9 := 152) (ok := inB x1 11 && (true)) (ls' := [some (.ref 136), some (.int x1), none, none]) (st' := [.int 2, .int (σ 138 (Int32.toNatClampNeg x1)), .int ((σ 151 (Int32.toNatClampNeg x1)) / 8)]) (h' := hs σ) [(.aload_n 0, 1, 0, 0, 0, 0, 0, 0), (.getfield 13, 3, 11, 3, 3, 896, 0, 0), (.iload_n 1, 1, 1, 0, 0, 0, 0, 0), (.iaload, 1, 0, 0, 0, 0, 0, 0), (.iconst 2, 1, 0, 0, 0, 0, 2, 0)] (by decide +kernel) rfl (by simp only [o2, Bool.and_true, Bool.true_and]) ?_
        have hJ152 : XA scr 2 mX11_bears 172 4705 160 [some (.ref 136), some (.int x1), none, none] [.int (if ¬ (σ 138 (Int32.toNatClampNeg x1)) = 2 then 0 else (-1) : Int32), .int ((σ 151 (Int32.toNatClampNeg x1)) / 8)] (hs σ) (pV P) := by
          simpa only [if_pos c3] using hJ138
        refine XA.icmp_ne (7) 159 (by decide +kernel) (fun c4 => ?_) (fun c4 => ?_)
        · refine XA.blk (e9 := 160) (ok := true) (ls' := [some (.ref 136), some (.int x1), none, none]) (st' := [.int 0, .int ((σ 151 (Int32.toNatClampNeg x1)) / 8)]) (h' := hs σ) [(.iconst 0, 1, 0, 0, 0, 0, 0, 0)] (by decide +kernel) rfl rfl ?_
          simpa only [if_pos c4] using hJ152
        · refine XA.blk (e9 := 160) (ok := true) (ls' := [some (.ref 136), some (.int x1), none, none]) (st' := [.int (-1), .int ((σ 151 (Int32.toNatClampNeg x1)) / 8)]) (h' := hs σ) [(.iconst (-1), 1, 0, 0, 0, 0, (-1), 0), (.goto 4, 3, 160, 0, 0, 0, 0, 0)] (by decide +kernel) rfl rfl ?_
          simpa only [if_neg (not_not_intro c4)] using hJ152
      · refine XA.blk (e9 := 160) (ok := true) (ls' := [some (.ref 136), some (.int x1), none, none]) (st' := [.int 1, .int ((σ 151 (Int32.toNatClampNeg x1)) / 8)]) (h' := hs σ) [(.iconst 1, 1, 0, 0, 0, 0, 1, 0), (.goto 18, 3, 160, 0, 0, 0, 0, 0)] (by decide +kernel) rfl rfl ?_
        simpa only [if_neg (not_not_intro c3)] using hJ138
theorem E_X11_bears {scr : ScA}   {σ : Nat → Nat → Int32} {P : (Nat → Nat → Int32) → Prop} (h : K_X11_bears_0 scr σ P) : CvA scr 2 mX11_bears [.ref 136] σ P := CtA.of (by decide) (Nat.le_of_ble_eq_true rfl) (XA.drop (by simp [leL, enL]) h)
