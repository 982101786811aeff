def K_X11_years_0 (scr : ScA)  (x1 : Int32) (x2 : Int32) (x3 : Int32) (σ : Nat → Nat → Int32) (P : Int32 → (Nat → Nat → Int32) → Prop) : Prop := XA scr 7 mX11_years 172 4705 0 [some (.ref 136), some (.int x1), some (.int x2), some (.int x3)] [] (hs σ) (pI P)
def K_X11_years_24 (scr : ScA)  (y0 : Int32) (σ : Nat → Nat → Int32) (P : Int32 → (Nat → Nat → Int32) → Prop) : Prop := XA scr 7 mX11_years 172 4705 24 [none, none, none, none] [.int y0] (hs σ) (pI P)
set_option maxRecDepth 20000 in
theorem W_X11_years_0 {scr : ScA}   {x1 : Int32} {x2 : Int32} {x3 : Int32}  {σ : Nat → Nat → Int32} {P : Int32 → (Nat → Nat → Int32) → Prop} (H : ((inV x2 0 8) = 0 → P (-2) σ) ∧ (¬ (inV x2 0 8) = 0 → ((inV x3 0 1) = 0 → P (-2) σ) ∧ (¬ (inV x3 0 1) = 0 → CiA scr 6 mX11_yearsOf [.ref 136, .int x1, .int x2, .int x3] σ (fun r9 σ' => K_X11_years_24 scr r9 σ' P)))) : K_X11_years_0 scr x1 x2 x3 σ P := by
  show XA scr 7 mX11_years 172 4705 0 [some (.ref 136), some (.int x1), some (.int x2), some (.int x3)] [] (hs σ) (pI P)
  refine XA.blk (e9 := 4) (ok := true) (ls' := [some (.ref 136), some (.int x1), some (.int x2), some (.int x3)]) (st' := [.int 8, .int 0, .int x2]) (h' := hs σ) [(.iload_n 2, 1, 2, 0, 0, 0, 0, 0), (.iconst 0, 1, 0, 0, 0, 0, 0, 0), (.bipush 8, 2, 0, 0, 0, 0, 8, 0)] (by decide +kernel) rfl rfl ?_
  refine XA.callS (as := [.int x2, .int 0, .int 8]) (rest := []) (mc' := 0) (ms' := 0) (idx := 118) (t := 1061) cs_X11_in (by decide +kernel) rfl rfl (Nat.le_of_ble_eq_true rfl) (Nat.le_of_ble_eq_true rfl) (Nat.le_of_ble_eq_true rfl) (Nat.le_of_ble_eq_true rfl) (pu_X11_in scr σ x2 0 8) (fun rv h' hp => ?_)
  obtain ⟨rfl, rfl⟩ := hp
  refine ⟨rfl, rfl, ?_⟩
  show XA scr 7 mX11_years 172 4705 7 [some (.ref 136), some (.int x1), some (.int x2), some (.int x3)] [.int (inV x2 0 8)] (hs σ) (pI P)
  refine XA.if_eq (20) 27 (by decide +kernel) (fun c1 => ?_) (fun c1 => ?_)
  · have H := H.1 c1
    refine XA.blk (e9 := 29) (ok := true) (ls' := [some (.ref 136), some (.int x1), some (.int x2), some (.int x3)]) (st' := [.int (-2)]) (h' := hs σ) [(.bipush (-2), 2, 0, 0, 0, 0, (-2), 0)] (by decide +kernel) rfl rfl ?_
    exact XA.ret (some (.int (-2))) rfl (show ckRt mX11_years 29 .ireturn = true by decide +kernel) trivial (Nat.le_of_ble_eq_true rfl) (Nat.le_of_ble_eq_true rfl) ⟨_, _, rfl, rfl, H⟩
  · have H := H.2 c1
    refine XA.blk (e9 := 11) (ok := true) (ls' := [some (.ref 136), some (.int x1), some (.int x2), some (.int x3)]) (st' := [.int x3]) (h' := hs σ) [(.iload_n 3, 1, 3, 0, 0, 0, 0, 0)] (by decide +kernel) rfl rfl ?_
    refine XA.callS (as := [.int x3]) (rest := []) (mc' := 0) (ms' := 0) (idx := 256) (t := 1203) cs_X11_isTwo (by decide +kernel) rfl rfl (Nat.le_of_ble_eq_true rfl) (Nat.le_of_ble_eq_true rfl) (Nat.le_of_ble_eq_true rfl) (Nat.le_of_ble_eq_true rfl) (pu_X11_isTwo scr σ x3) (fun rv h' hp => ?_)
    obtain ⟨rfl, rfl⟩ := hp
    refine ⟨rfl, rfl, ?_⟩
    show XA scr 7 mX11_years 172 4705 14 [some (.ref 136), some (.int x1), some (.int x2), some (.int x3)] [.int (inV x3 0 1)] (hs σ) (pI P)
    refine XA.if_eq (13) 27 (by decide +kernel) (fun c2 => ?_) (fun c2 => ?_)
    · have H := H.1 c2
      refine XA.blk (e9 := 29) (ok := true) (ls' := [some (.ref 136), some (.int x1), some (.int x2), some (.int x3)]) (st' := [.int (-2)]) (h' := hs σ) [(.bipush (-2), 2, 0, 0, 0, 0, (-2), 0)] (by decide +kernel) rfl rfl ?_
      exact XA.ret (some (.int (-2))) rfl (show ckRt mX11_years 29 .ireturn = true by decide +kernel) trivial (Nat.le_of_ble_eq_true rfl) (Nat.le_of_ble_eq_true rfl) ⟨_, _, rfl, rfl, H⟩
    · have H := H.2 c2
      refine XA.blk (e9 := 21) (ok := true) (ls' := [some (.ref 136), some (.int x1), some (.int x2), some (.int x3)]) (st' := [.int x3, .int x2, .int x1, .ref 136]) (h' := hs σ) [(.aload_n 0, 1, 0, 0, 0, 0, 0, 0), (.iload_n 1, 1, 1, 0, 0, 0, 0, 0), (.iload_n 2, 1, 2, 0, 0, 0, 0, 0), (.iload_n 3, 1, 3, 0, 0, 0, 0, 0)] (by decide +kernel) rfl rfl ?_
      refine XA.callV (as := [.int x1, .int x2, .int x3]) (rest := []) (mc' := 0) (ms' := 0) (idx := 339) (t := 1357) cv_X11_yearsOf (by decide +kernel) rfl rfl rfl (Nat.le_of_ble_eq_true rfl) (Nat.le_of_ble_eq_true rfl) (Nat.le_of_ble_eq_true rfl) (Nat.le_of_ble_eq_true rfl) (H) (fun rv h' hp => ?_)
      obtain ⟨r9, s9, rfl, rfl, hK⟩ := hp
      exact ⟨rfl, rfl, XA.drop (by simp [leL]) hK⟩
set_option maxRecDepth 20000 in
theorem W_X11_years_24 {scr : ScA}   {y0 : Int32}  {σ : Nat → Nat → Int32} {P : Int32 → (Nat → Nat → Int32) → Prop} (H : P y0 σ) : K_X11_years_24 scr y0 σ P := by
  show XA scr 7 mX11_years 172 4705 24 [none, none, none, none] [.int y0] (hs σ) (pI P)
  refine XA.blk (e9 := 29) (ok := true) (ls' := [none, none, none, none]) (st' := [.int y0]) (h' := hs σ) [(.goto 5, 3, 29, 0, 0, 0, 0, 0)] (by decide +kernel) rfl rfl ?_
  exact XA.ret (some (.int y0)) rfl (show ckRt mX11_years 29 .ireturn = true by decide +kernel) trivial (Nat.le_of_ble_eq_true rfl) (Nat.le_of_ble_eq_true rfl) ⟨_, _, rfl, rfl, H⟩
theorem E_X11_years {scr : ScA}  {x1 : Int32} {x2 : Int32} {x3 : Int32} {σ : Nat → Nat → Int32} {P : Int32 → (Nat → Nat → Int32) → Prop} (h : K_X11_years_0 scr x1 x2 x3 σ P) : CiA scr 7 mX11_years [.ref 136, .int x1, .int x2, .int x3] σ P := CtA.of (by decide) (Nat.le_of_ble_eq_true rfl) (XA.drop (by simp [leL, enL]) h)
def K_X11_sheet_0 (scr : ScA)  (x1 : Int32) (x2 : Int32) (x3 : Int32) (σ : Nat → Nat → Int32) (P : Int32 → (Nat → Nat → Int32) → Prop) : Prop := XA scr 2 mX11_sheet 172 4705 0 [some (.ref 136), some (.int x1), some (.int x2), some (.int x3), none] [] (hs σ) (pI P)
def K_X11_sheet_34 (scr : ScA)  (y0 : Int32) (σ : Nat → Nat → Int32) (P : Int32 → (Nat → Nat → Int32) → Prop) : Prop := XA scr 2 mX11_sheet 172 4705 34 [none, none, none, none, none] [.int y0] (hs σ) (pI P)
def K_X11_sheet_59 (scr : ScA)  (x1 : Int32) (x3 : Int32) (x4 : Int32) (σ : Nat → Nat → Int32) (P : Int32 → (Nat → Nat → Int32) → Prop) : Prop := XA scr 2 mX11_sheet 172 4705 59 [some (.ref 136), some (.int x1), none, some (.int x3), some (.int x4)] [] (hs σ) (pI P)
set_option maxRecDepth 20000 in
theorem W_X11_sheet_0 {scr : ScA}   {x1 : Int32} {x2 : Int32} {x3 : Int32}  {σ : Nat → Nat → Int32} {P : Int32 → (Nat → Nat → Int32) → Prop} (H : ((inV x1 0 3) = 0 → P (-2) σ) ∧ (¬ (inV x1 0 3) = 0 → ((inV x2 0 2) = 0 → P (-2) σ) ∧ (¬ (inV x2 0 2) = 0 → (x3 ≤ 60 → (0 ≤ x3 → (inB x1 4 = true) ∧ (∀ σ1, σ1 = (su σ 167 (Int32.toNatClampNeg x1) 1) → ∀ σ2, σ2 = (su σ1 168 (Int32.toNatClampNeg x1) x2) → ∀ σ3, σ3 = (su σ2 169 (Int32.toNatClampNeg x1) x3) → K_X11_sheet_59 scr x1 x3 0 σ3 P)) ∧ (¬ 0 ≤ x3 → CiA scr 0 mX11_meets [.ref 136, .int 5] σ (fun r9 σ' => K_X11_sheet_34 scr r9 σ' P))) ∧ (¬ x3 ≤ 60 → P (-2) σ)))) : K_X11_sheet_0 scr x1 x2 x3 σ P := by
  show XA scr 2 mX11_sheet 172 4705 0 [some (.ref 136), some (.int x1), some (.int x2), some (.int x3), none] [] (hs σ) (pI P)
  refine XA.blk (e9 := 1) (ok := true) (ls' := [some (.ref 136), some (.int x1), some (.int x2), some (.int x3), none]) (st' := [.int x1]) (h' := hs σ) [(.iload_n 1, 1, 1, 0, 0, 0, 0, 0)] (by decide +kernel) rfl rfl ?_
  refine XA.callS (as := [.int x1]) (rest := []) (mc' := 0) (ms' := 0) (idx := 167) (t := 1129) cs_X11_isSheet (by decide +kernel) rfl rfl (Nat.le_of_ble_eq_true rfl) (Nat.le_of_ble_eq_true rfl) (Nat.le_of_ble_eq_true rfl) (Nat.le_of_ble_eq_true rfl) (pu_X11_isSheet scr σ x1) (fun rv h' hp => ?_)
  obtain ⟨rfl, rfl⟩ := hp
  refine ⟨rfl, rfl, ?_⟩
  show XA scr 2 mX11_sheet 172 4705 4 [some (.ref 136), some (.int x1), some (.int x2), some (.int x3), none] [.int (inV x1 0 3)] (hs σ) (pI P)
  refine XA.if_eq (18) 22 (by decide +kernel) (fun c1 => ?_) (fun c1 => ?_)
  · have H := H.1 c1
    refine XA.blk (e9 := 24) (ok := true) (ls' := [some (.ref 136), some (.int x1), some (.int x2), some (.int x3), none]) (st' := [.int (-2)]) (h' := hs σ) [(.bipush (-2), 2, 0, 0, 0, 0, (-2), 0)] (by decide +kernel) rfl rfl ?_
    exact XA.ret (some (.int (-2))) rfl (show ckRt mX11_sheet 24 .ireturn = true by decide +kernel) trivial (Nat.le_of_ble_eq_true rfl) (Nat.le_of_ble_eq_true rfl) ⟨_, _, rfl, rfl, H⟩
  · have H := H.2 c1
    refine XA.blk (e9 := 10) (ok := true) (ls' := [some (.ref 136), some (.int x1), some (.int x2), some (.int x3), none]) (st' := [.int 2, .int 0, .int x2]) (h' := hs σ) [(.iload_n 2, 1, 2, 0, 0, 0, 0, 0), (.iconst 0, 1, 0, 0, 0, 0, 0, 0), (.iconst 2, 1, 0, 0, 0, 0, 2, 0)] (by decide +kernel) rfl rfl ?_
    refine XA.callS (as := [.int x2, .int 0, .int 2]) (rest := []) (mc' := 0) (ms' := 0) (idx := 118) (t := 1061) cs_X11_in (by decide +kernel) rfl rfl (Nat.le_of_ble_eq_true rfl) (Nat.le_of_ble_eq_true rfl) (Nat.le_of_ble_eq_true rfl) (Nat.le_of_ble_eq_true rfl) (pu_X11_in scr σ x2 0 2) (fun rv h' hp => ?_)
    obtain ⟨rfl, rfl⟩ := hp
    refine ⟨rfl, rfl, ?_⟩
    show XA scr 2 mX11_sheet 172 4705 13 [some (.ref 136), some (.int x1), some (.int x2), some (.int x3), none] [.int (inV x2 0 2)] (hs σ) (pI P)
    refine XA.if_eq (9) 22 (by decide +kernel) (fun c2 => ?_) (fun c2 => ?_)
    · have H := H.1 c2
      refine XA.blk (e9 := 24) (ok := true) (ls' := [some (.ref 136), some (.int x1), some (.int x2), some (.int x3), none]) (st' := [.int (-2)]) (h' := hs σ) [(.bipush (-2), 2, 0, 0, 0, 0, (-2), 0)] (by decide +kernel) rfl rfl ?_
      exact XA.ret (some (.int (-2))) rfl (show ckRt mX11_sheet 24 .ireturn = true by decide +kernel) trivial (Nat.le_of_ble_eq_true rfl) (Nat.le_of_ble_eq_true rfl) ⟨_, _, rfl, rfl, H⟩
    · have H := H.2 c2
      refine XA.blk (e9 := 19) (ok := true) (ls' := [some (.ref 136), some (.int x1), some (.int x2), some (.int x3), none]) (st' := [.int 60, .int x3]) (h' := hs σ) [(.iload_n 3, 1, 3, 0, 0, 0, 0, 0), (.bipush 60, 2, 0, 0, 0, 0, 60, 0)] (by decide +kernel) rfl rfl ?_
      refine XA.icmp_le (6) 25 (by decide +kernel) (fun c3 => ?_) (fun c3 => ?_)
      · have H := H.1 c3
        refine XA.blk (e9 := 26) (ok := true) (ls' := [some (.ref 136), some (.int x1), some (.int x2), some (.int x3), none]) (st' := [.int x3]) (h' := hs σ) [(.iload_n 3, 1, 3, 0, 0, 0, 0, 0)] (by decide +kernel) rfl rfl ?_
        refine XA.if_ge (9) 35 (by decide +kernel) (fun c4 => ?_) (fun c4 => ?_)
        · have H := H.1 c4
          obtain ⟨o1, H⟩ := H
          refine XA.blk (e9 := 42) (ok := (inB x1 4 && true) && (true)) (ls' := [some (.ref 136), some (.int x1), some (.int x2), some (.int x3), none]) (st' := []) (h' := hs (su σ 167 (Int32.toNatClampNeg x1) 1)) [(.aload_n 0, 1, 0, 0, 0, 0, 0, 0), (.getfield 100, 3, 11, 48, 32, 941, 0, 0), (.iload_n 1, 1, 1, 0, 0, 0, 0, 0), (.iconst 1, 1, 0, 0, 0, 0, 1, 0), (.bastore, 1, 0, 0, 0, 0, 0, 0)] (by decide +kernel) rfl (by simp only [o1, Bool.and_true, Bool.true_and]) ?_
          obtain ⟨σ1, hσ1⟩ : ∃ s9, s9 = (su σ 167 (Int32.toNatClampNeg x1) 1) := ⟨_, rfl⟩
          rw [← hσ1]
          have H := H σ1 hσ1
          refine XA.blk (e9 := 49) (ok := inB x1 4 && (true)) (ls' := [some (.ref 136), some (.int x1), some (.int x2), some (.int x3), none]) (st' := []) (h' := hs (su σ1 168 (Int32.toNatClampNeg x1) x2)) [(.aload_n 0, 1, 0, 0, 0, 0, 0, 0), (.getfield 104, 3, 11, 49, 33, 942, 0, 0), (.iload_n 1, 1, 1, 0, 0, 0, 0, 0), (.iload_n 2, 1, 2, 0, 0, 0, 0, 0), (.iastore, 1, 0, 0, 0, 0, 0, 0)] (by decide +kernel) rfl (by simp only [o1, Bool.and_true, Bool.true_and]) ?_
          obtain ⟨σ2, hσ2⟩ : ∃ s9, s9 = (su σ1 168 (Int32.toNatClampNeg x1) x2) := ⟨_, rfl⟩
          rw [← hσ2]
          have H := H σ2 hσ2
          refine XA.blk (e9 := 56) (ok := inB x1 4 && (true)) (ls' := [some (.ref 136), some (.int x1), some (.int x2), some (.int x3), none]) (st' := []) (h' := hs (su σ2 169 (Int32.toNatClampNeg x1) x3)) [(.aload_n 0, 1, 0, 0, 0, 0, 0, 0), (.getfield 107, 3, 11, 50, 34, 943, 0, 0), (.iload_n 1, 1, 1, 0, 0, 0, 0, 0), (.iload_n 3, 1, 3, 0, 0, 0, 0, 0), (.iastore, 1, 0, 0, 0, 0, 0, 0)] (by decide +kernel) rfl (by simp only [o1, Bool.and_true, Bool.true_and]) ?_
          obtain ⟨σ3, hσ3⟩ : ∃ s9, s9 = (su σ2 169 (Int32.toNatClampNeg x1) x3) := ⟨_, rfl⟩
          rw [← hσ3]
          have H := H σ3 hσ3
          refine XA.blk (e9 := 59) (ok := true) (ls' := [some (.ref 136), some (.int x1), some (.int x2), some (.int x3), some (.int 0)]) (st' := []) (h' := hs σ3) [(.iconst 0, 1, 0, 0, 0, 0, 0, 0), (.istore 4, 2, 4, 0, 0, 0, 0, 0)] (by decide +kernel) rfl rfl ?_
          exact XA.drop (by simp [leL]) H
        · have H := H.2 c4
          refine XA.blk (e9 := 31) (ok := true) (ls' := [some (.ref 136), some (.int x1), some (.int x2), some (.int x3), none]) (st' := [.int 5, .ref 136]) (h' := hs σ) [(.aload_n 0, 1, 0, 0, 0, 0, 0, 0), (.iconst 5, 1, 0, 0, 0, 0, 5, 0)] (by decide +kernel) rfl rfl ?_
          refine XA.callV (as := [.int 5]) (rest := []) (mc' := 0) (ms' := 0) (idx := 170) (t := 1132) cv_X11_meets (by decide +kernel) rfl rfl rfl (Nat.le_of_ble_eq_true rfl) (Nat.le_of_ble_eq_true rfl) (Nat.le_of_ble_eq_true rfl) (Nat.le_of_ble_eq_true rfl) (H) (fun rv h' hp => ?_)
          obtain ⟨r9, s9, rfl, rfl, hK⟩ := hp
          exact ⟨rfl, rfl, XA.drop (by simp [leL]) hK⟩
      · have H := H.2 c3
        refine XA.blk (e9 := 24) (ok := true) (ls' := [some (.ref 136), some (.int x1), some (.int x2), some (.int x3), none]) (st' := [.int (-2)]) (h' := hs σ) [(.bipush (-2), 2, 0, 0, 0, 0, (-2), 0)] (by decide +kernel) rfl rfl ?_
        exact XA.ret (some (.int (-2))) rfl (show ckRt mX11_sheet 24 .ireturn = true by decide +kernel) trivial (Nat.le_of_ble_eq_true rfl) (Nat.le_of_ble_eq_true rfl) ⟨_, _, rfl, rfl, H⟩
set_option maxRecDepth 20000 in
theorem W_X11_sheet_34 {scr : ScA}   {y0 : Int32}  {σ : Nat → Nat → Int32} {P : Int32 → (Nat → Nat → Int32) → Prop} (H : P y0 σ) : K_X11_sheet_34 scr y0 σ P := by
  show XA scr 2 mX11_sheet 172 4705 34 [none, none, none, none, none] [.int y0] (hs σ) (pI P)
  exact XA.ret (some (.int y0)) rfl (show ckRt mX11_sheet 34 .ireturn = true by decide +kernel) trivial (Nat.le_of_ble_eq_true rfl) (Nat.le_of_ble_eq_true rfl) ⟨_, _, rfl, rfl, H⟩
set_option maxRecDepth 20000 in
theorem W_X11_sheet_59 {scr : ScA}   {x1 : Int32} {x3 : Int32} {x4 : Int32}  {σ : Nat → Nat → Int32} {P : Int32 → (Nat → Nat → Int32) → Prop} (H : (60 ≤ x4 → P x3 σ) ∧ (¬ 60 ≤ x4 → (inB ((60 * x1) + x4) 240 = true) ∧ (∀ σ1, σ1 = (su σ 170 (Int32.toNatClampNeg ((60 * x1) + x4)) 0) → K_X11_sheet_59 scr x1 x3 (x4 + 1) σ1 P))) : K_X11_sheet_59 scr x1 x3 x4 σ P := by
  show XA scr 2 mX11_sheet 172 4705 59 [some (.ref 136), some (.int x1), none, some (.int x3), some (.int x4)] [] (hs σ) (pI P)
  refine XA.blk (e9 := 63) (ok := true) (ls' := [some (.ref 136), some (.int x1), none, some (.int x3), some (.int x4)]) (st' := [.int 60, .int x4]) (h' := hs σ) [(.iload 4, 2, 4, 0, 0, 0, 0, 0), (.bipush 60, 2, 0, 0, 0, 0, 60, 0)] (by decide +kernel) rfl rfl ?_
  refine XA.icmp_ge (22) 85 (by decide +kernel) (fun c1 => ?_) (fun c1 => ?_)
  · have H := H.1 c1
    refine XA.blk (e9 := 86) (ok := true) (ls' := [some (.ref 136), some (.int x1), none, some (.int x3), some (.int x4)]) (st' := [.int x3]) (h' := hs σ) [(.iload_n 3, 1, 3, 0, 0, 0, 0, 0)] (by decide +kernel) rfl rfl ?_
    exact XA.ret (some (.int x3)) rfl (show ckRt mX11_sheet 86 .ireturn = true by decide +kernel) trivial (Nat.le_of_ble_eq_true rfl) (Nat.le_of_ble_eq_true rfl) ⟨_, _, rfl, rfl, H⟩
  · have H := H.2 c1
    obtain ⟨o1, H⟩ := H
    refine XA.blk (e9 := 79) (ok := inB ((60 * x1) + x4) 240 && (true)) (ls' := [some (.ref 136), some (.int x1), none, some (.int x3), some (.int x4)]) (st' := []) (h' := hs (su σ 170 (Int32.toNatClampNeg ((60 * x1) + x4)) 0)) [(.aload_n 0, 1, 0, 0, 0, 0, 0, 0), (.getfield 110, 3, 11, 51, 35, 944, 0, 0), (.bipush 60, 2, 0, 0, 0, 0, 60, 0), (.iload_n 1, 1, 1, 0, 0, 0, 0, 0), (.imul, 1, 0, 0, 0, 0, 0, 0), (.iload 4, 2, 4, 0, 0, 0, 0, 0), (.iadd, 1, 0, 0, 0, 0, 0, 0), (.iconst 0, 1, 0, 0, 0, 0, 0, 0), (.iastore, 1, 0, 0, 0, 0, 0, 0)] (by decide +kernel) rfl (by simp only [o1, Bool.and_true, Bool.true_and]) ?_
    obtain ⟨σ1, hσ1⟩ : ∃ s9, s9 = (su σ 170 (Int32.toNatClampNeg ((60 * x1) + x4)) 0) := ⟨_, rfl⟩
    rw [← hσ1]
    have H := H σ1 hσ1
    refine XA.blk (e9 := 59) (ok := true) (ls' := [some (.ref 136), some (.int x1), none, some (.int x3), some (.int (x4 + 1))]) (st' := []) (h' := hs σ1) [(.iinc 4 1, 3, 4, 0, 0, 0, 1, 0), (.goto (-23), 3, 59, 0, 0, 0, 0, 0)] (by decide +kernel) rfl rfl ?_
    exact H
theorem E_X11_sheet {scr : ScA}  {x1 : Int32} {x2 : Int32} {x3 : Int32} {σ : Nat → Nat → Int32} {P : Int32 → (Nat → Nat → Int32) → Prop} (h : K_X11_sheet_0 scr x1 x2 x3 σ P) : CiA scr 2 mX11_sheet [.ref 136, .int x1, .int x2, .int x3] σ P := CtA.of (by decide) (Nat.le_of_ble_eq_true rfl) (XA.drop (by simp [leL, enL]) h)
def K_X11_lose_0 (scr : ScA)  (x1 : Int32) (σ : Nat → Nat → Int32) (P : Int32 → (Nat → Nat → Int32) → Prop) : Prop := XA scr 2 mX11_lose 172 4705 0 [some (.ref 136), some (.int x1)] [] (hs σ) (pI P)
def K_X11_lose_24 (scr : ScA)  (y0 : Int32) (σ : Nat → Nat → Int32) (P : Int32 → (Nat → Nat → Int32) → Prop) : Prop := XA scr 2 mX11_lose 172 4705 24 [none, none] [.int y0] (hs σ) (pI P)
set_option maxRecDepth 20000 in
theorem W_X11_lose_0 {scr : ScA}   {x1 : Int32}  {σ : Nat → Nat → Int32} {P : Int32 → (Nat → Nat → Int32) → Prop} (H : (¬ (inV x1 0 3) = 0 → (inB x1 4 = true) ∧ ((¬ (σ 167 (Int32.toNatClampNeg x1)) = 0 → ∀ σ1, σ1 = (su σ 167 (Int32.toNatClampNeg x1) 0) → P (σ1 169 (Int32.toNatClampNeg x1)) σ1) ∧ ((σ 167 (Int32.toNatClampNeg x1)) = 0 → CiA scr 0 mX11_meets [.ref 136, .int 1] σ (fun r9 σ' => K_X11_lose_24 scr r9 σ' P)))) ∧ ((inV x1 0 3) = 0 → P (-2) σ)) : K_X11_lose_0 scr x1 σ P := by
  show XA scr 2 mX11_lose 172 4705 0 [some (.ref 136), some (.int x1)] [] (hs σ) (pI P)
  refine XA.blk (e9 := 1) (ok := true) (ls' := [some (.ref 136), some (.int x1)]) (st' := [.int x1]) (h' := hs σ) [(.iload_n 1, 1, 1, 0, 0, 0, 0, 0)] (by decide +kernel) rfl rfl ?_
  refine XA.callS (as := [.int x1]) (rest := []) (mc' := 0) (ms' := 0) (idx := 167) (t := 1129) cs_X11_isSheet (by decide +kernel) rfl rfl (Nat.le_of_ble_eq_true rfl) (Nat.le_of_ble_eq_true rfl) (Nat.le_of_ble_eq_true rfl) (Nat.le_of_ble_eq_true rfl) (pu_X11_isSheet scr σ x1) (fun rv h' hp => ?_)
  obtain ⟨rfl, rfl⟩ := hp
  refine ⟨rfl, rfl, ?_⟩
  show XA scr 2 mX11_lose 172 4705 4 [some (.ref 136), some (.int x1)] [.int (inV x1 0 3)] (hs σ) (pI P)
  refine XA.if_ne (6) 10 (by decide +kernel) (fun c1 => ?_) (fun c1 => ?_)
  · have H := H.1 c1
    obtain ⟨o1, H⟩ := H
    refine XA.blk (e9 := 16) (ok := inB x1 4 && (true)) (ls' := [some (.ref 136), some (.int x1)]) (st' := [.int (σ 167 (Int32.toNatClampNeg x1))]) (h' := hs σ) [(.aload_n 0, 1, 0, 0, 0, 0, 0, 0), (.getfield 100, 3, 11, 48, 32, 941, 0, 0), (.iload_n 1, 1, 1, 0, 0, 0, 0, 0), (.baload, 1, 0, 0, 0, 0, 0, 0)] (by decide +kernel) rfl (by simp only [o1, Bool.and_true, Bool.true_and]) ?_
    refine XA.if_ne (9) 25 (by decide +kernel) (fun c2 => ?_) (fun c2 => ?_)
    · have H := H.1 c2
      refine XA.blk (e9 := 32) (ok := (inB x1 4 && true) && (true)) (ls' := [some (.ref 136), some (.int x1)]) (st' := []) (h' := hs (su σ 167 (Int32.toNatClampNeg x1) 0)) [(.aload_n 0, 1, 0, 0, 0, 0, 0, 0), (.getfield 100, 3, 11, 48, 32, 941, 0, 0), (.iload_n 1, 1, 1, 0, 0, 0, 0, 0), (.iconst 0, 1, 0, 0, 0, 0, 0, 0), (.bastore, 1, 0, 0, 0, 0, 0, 0)] (by decide +kernel) rfl (by simp only [o1, Bool.and_true, Bool.true_and]) ?_
      obtain ⟨σ1, hσ1⟩ : ∃ s9, s9 = (su σ 167 (Int32.toNatClampNeg x1) 0) := ⟨_, rfl⟩
      rw [← hσ1]
      have H := H σ1 hσ1
      refine XA.blk (e9 := 38) (ok := inB x1 4 && (true)) (ls' := [some (.ref 136), some (.int x1)]) (st' := [.int (σ1 169 (Int32.toNatClampNeg x1))]) (h' := hs σ1) [(.aload_n 0, 1, 0, 0, 0, 0, 0, 0), (.getfield 107, 3, 11, 50, 34, 943, 0, 0), (.iload_n 1, 1, 1, 0, 0, 0, 0, 0), (.iaload, 1, 0, 0, 0, 0, 0, 0)] (by decide +kernel) rfl (by simp only [o1, Bool.and_true, Bool.true_and]) ?_
      exact XA.ret (some (.int (σ1 169 (Int32.toNatClampNeg x1)))) rfl (show ckRt mX11_lose 38 .ireturn = true by decide +kernel) trivial (Nat.le_of_ble_eq_true rfl) (Nat.le_of_ble_eq_true rfl) ⟨_, _, rfl, rfl, H⟩
    · have H := H.2 c2
      refine XA.blk (e9 := 21) (ok := true) (ls' := [some (.ref 136), some (.int x1)]) (st' := [.int 1, .ref 136]) (h' := hs σ) [(.aload_n 0, 1, 0, 0, 0, 0, 0, 0), (.iconst 1, 1, 0, 0, 0, 0, 1, 0)] (by decide +kernel) rfl rfl ?_
      refine XA.callV (as := [.int 1]) (rest := []) (mc' := 0) (ms' := 0) (idx := 170) (t := 1132) cv_X11_meets (by decide +kernel) rfl rfl rfl (Nat.le_of_ble_eq_true rfl) (Nat.le_of_ble_eq_true rfl) (Nat.le_of_ble_eq_true rfl) (Nat.le_of_ble_eq_true rfl) (H) (fun rv h' hp => ?_)
      obtain ⟨r9, s9, rfl, rfl, hK⟩ := hp
      exact ⟨rfl, rfl, XA.drop (by simp [leL]) hK⟩
  · have H := H.2 c1
    refine XA.blk (e9 := 9) (ok := true) (ls' := [some (.ref 136), some (.int x1)]) (st' := [.int (-2)]) (h' := hs σ) [(.bipush (-2), 2, 0, 0, 0, 0, (-2), 0)] (by decide +kernel) rfl rfl ?_
    exact XA.ret (some (.int (-2))) rfl (show ckRt mX11_lose 9 .ireturn = true by decide +kernel) trivial (Nat.le_of_ble_eq_true rfl) (Nat.le_of_ble_eq_true rfl) ⟨_, _, rfl, rfl, H⟩
set_option maxRecDepth 20000 in
theorem W_X11_lose_24 {scr : ScA}   {y0 : Int32}  {σ : Nat → Nat → Int32} {P : Int32 → (Nat → Nat → Int32) → Prop} (H : P y0 σ) : K_X11_lose_24 scr y0 σ P := by
  show XA scr 2 mX11_lose 172 4705 24 [none, none] [.int y0] (hs σ) (pI P)
  exact XA.ret (some (.int y0)) rfl (show ckRt mX11_lose 24 .ireturn = true by decide +kernel) trivial (Nat.le_of_ble_eq_true rfl) (Nat.le_of_ble_eq_true rfl) ⟨_, _, rfl, rfl, H⟩
theorem E_X11_lose {scr : ScA}  {x1 : Int32} {σ : Nat → Nat → Int32} {P : Int32 → (Nat → Nat → Int32) → Prop} (h : K_X11_lose_0 scr x1 σ P) : CiA scr 2 mX11_lose [.ref 136, .int x1] σ P := CtA.of (by decide) (Nat.le_of_ble_eq_true rfl) (XA.drop (by simp [leL, enL]) h)
def K_X11_put_0 (scr : ScA)  (x1 : Int32) (x2 : Int32) (x3 : Int32) (x4 : Int32) (σ : Nat → Nat → Int32) (P : Int32 → (Nat → Nat → Int32) → Prop) : Prop := XA scr 2 mX11_put 172 4705 0 [some (.ref 136), some (.int x1), some (.int x2), some (.int x3), some (.int x4), none] [] (hs σ) (pI P)
def K_X11_put_39 (scr : ScA)  (y0 : Int32) (σ : Nat → Nat → Int32) (P : Int32 → (Nat → Nat → Int32) → Prop) : Prop := XA scr 2 mX11_put 172 4705 39 [none, none, none, none, none, none] [.int y0] (hs σ) (pI P)
def K_X11_put_48 (scr : ScA)   (σ : Nat → Nat → Int32) (P : Int32 → (Nat → Nat → Int32) → Prop) : Prop := XA scr 2 mX11_put 172 4705 48 [none, none, none, none, none, none] [] (hs σ) (pI P)
set_option maxRecDepth 20000 in
theorem W_X11_put_0 {scr : ScA}   {x1 : Int32} {x2 : Int32} {x3 : Int32} {x4 : Int32}  {σ : Nat → Nat → Int32} {P : Int32 → (Nat → Nat → Int32) → Prop} (H : ((inV x1 0 3) = 0 → P (-2) σ) ∧ (¬ (inV x1 0 3) = 0 → (¬ (inV x2 0 2) = 0 → (inB x1 4 = true) ∧ (((laV σ x1 x2 x3) ≤ 0 → CvA scr 0 mX11_keep [.ref 136, .int x1, .int x3, .int x4] σ (fun σ' => K_X11_put_48 scr σ' P)) ∧ (¬ (laV σ x1 x2 x3) ≤ 0 → CiA scr 0 mX11_meets [.ref 136, .int (laV σ x1 x2 x3)] σ (fun r9 σ' => K_X11_put_39 scr r9 σ' P)))) ∧ ((inV x2 0 2) = 0 → P (-2) σ))) : K_X11_put_0 scr x1 x2 x3 x4 σ P := by
  show XA scr 2 mX11_put 172 4705 0 [some (.ref 136), some (.int x1), some (.int x2), some (.int x3), some (.int x4), none] [] (hs σ) (pI P)
  refine XA.blk (e9 := 1) (ok := true) (ls' := [some (.ref 136), some (.int x1), some (.int x2), some (.int x3), some (.int x4), none]) (st' := [.int x1]) (h' := hs σ) [(.iload_n 1, 1, 1, 0, 0, 0, 0, 0)] (by decide +kernel) rfl rfl ?_
  refine XA.callS (as := [.int x1]) (rest := []) (mc' := 0) (ms' := 0) (idx := 167) (t := 1129) cs_X11_isSheet (by decide +kernel) rfl rfl (Nat.le_of_ble_eq_true rfl) (Nat.le_of_ble_eq_true rfl) (Nat.le_of_ble_eq_true rfl) (Nat.le_of_ble_eq_true rfl) (pu_X11_isSheet scr σ x1) (fun rv h' hp => ?_)
  obtain ⟨rfl, rfl⟩ := hp
  refine ⟨rfl, rfl, ?_⟩
  show XA scr 2 mX11_put 172 4705 4 [some (.ref 136), some (.int x1), some (.int x2), some (.int x3), some (.int x4), none] [.int (inV x1 0 3)] (hs σ) (pI P)
  refine XA.if_eq (12) 16 (by decide +kernel) (fun c1 => ?_) (fun c1 => ?_)
  · have H := H.1 c1
    refine XA.blk (e9 := 18) (ok := true) (ls' := [some (.ref 136), some (.int x1), some (.int x2), some (.int x3), some (.int x4), none]) (st' := [.int (-2)]) (h' := hs σ) [(.bipush (-2), 2, 0, 0, 0, 0, (-2), 0)] (by decide +kernel) rfl rfl ?_
    exact XA.ret (some (.int (-2))) rfl (show ckRt mX11_put 18 .ireturn = true by decide +kernel) trivial (Nat.le_of_ble_eq_true rfl) (Nat.le_of_ble_eq_true rfl) ⟨_, _, rfl, rfl, H⟩
  · have H := H.2 c1
    refine XA.blk (e9 := 10) (ok := true) (ls' := [some (.ref 136), some (.int x1), some (.int x2), some (.int x3), some (.int x4), none]) (st' := [.int 2, .int 0, .int x2]) (h' := hs σ) [(.iload_n 2, 1, 2, 0, 0, 0, 0, 0), (.iconst 0, 1, 0, 0, 0, 0, 0, 0), (.iconst 2, 1, 0, 0, 0, 0, 2, 0)] (by decide +kernel) rfl rfl ?_
    refine XA.callS (as := [.int x2, .int 0, .int 2]) (rest := []) (mc' := 0) (ms' := 0) (idx := 118) (t := 1061) cs_X11_in (by decide +kernel) rfl rfl (Nat.le_of_ble_eq_true rfl) (Nat.le_of_ble_eq_true rfl) (Nat.le_of_ble_eq_true rfl) (Nat.le_of_ble_eq_true rfl) (pu_X11_in scr σ x2 0 2) (fun rv h' hp => ?_)
    obtain ⟨rfl, rfl⟩ := hp
    refine ⟨rfl, rfl, ?_⟩
    show XA scr 2 mX11_put 172 4705 13 [some (.ref 136), some (.int x1), some (.int x2), some (.int x3), some (.int x4), none] [.int (inV x2 0 2)] (hs σ) (pI P)
    refine XA.if_ne (6) 19 (by decide +kernel) (fun c2 => ?_) (fun c2 => ?_)
    · have H := H.1 c2
      refine XA.blk (e9 := 23) (ok := true) (ls' := [some (.ref 136), some (.int x1), some (.int x2), some (.int x3), some (.int x4), none]) (st' := [.int x3, .int x2, .int x1, .ref 136]) (h' := hs σ) [(.aload_n 0, 1, 0, 0, 0, 0, 0, 0), (.iload_n 1, 1, 1, 0, 0, 0, 0, 0), (.iload_n 2, 1, 2, 0, 0, 0, 0, 0), (.iload_n 3, 1, 3, 0, 0, 0, 0, 0)] (by decide +kernel) rfl rfl ?_
      obtain ⟨o1, H⟩ := H
      refine XA.callV (as := [.int x1, .int x2, .int x3]) (rest := []) (mc' := 0) (ms' := 0) (idx := 345) (t := 1374) cv_X11_lacks (by decide +kernel) rfl rfl rfl (Nat.le_of_ble_eq_true rfl) (Nat.le_of_ble_eq_true rfl) (Nat.le_of_ble_eq_true rfl) (Nat.le_of_ble_eq_true rfl) (pu_X11_lacks scr σ x1 x2 x3 o1) (fun rv h' hp => ?_)
      obtain ⟨rfl, rfl⟩ := hp
      refine ⟨rfl, rfl, ?_⟩
      show XA scr 2 mX11_put 172 4705 26 [some (.ref 136), some (.int x1), some (.int x2), some (.int x3), some (.int x4), none] [.int (laV σ x1 x2 x3)] (hs σ) (pI P)
      refine XA.blk (e9 := 30) (ok := true) (ls' := [some (.ref 136), some (.int x1), some (.int x2), some (.int x3), some (.int x4), some (.int (laV σ x1 x2 x3))]) (st' := [.int (laV σ x1 x2 x3)]) (h' := hs σ) [(.istore 5, 2, 5, 0, 0, 0, 0, 0), (.iload 5, 2, 5, 0, 0, 0, 0, 0)] (by decide +kernel) rfl rfl ?_
      refine XA.if_le (10) 40 (by decide +kernel) (fun c3 => ?_) (fun c3 => ?_)
      · have H := H.1 c3
        refine XA.blk (e9 := 45) (ok := true) (ls' := [some (.ref 136), some (.int x1), some (.int x2), some (.int x3), some (.int x4), some (.int (laV σ x1 x2 x3))]) (st' := [.int x4, .int x3, .int x1, .ref 136]) (h' := hs σ) [(.aload_n 0, 1, 0, 0, 0, 0, 0, 0), (.iload_n 1, 1, 1, 0, 0, 0, 0, 0), (.iload_n 3, 1, 3, 0, 0, 0, 0, 0), (.iload 4, 2, 4, 0, 0, 0, 0, 0)] (by decide +kernel) rfl rfl ?_
        refine XA.callV (as := [.int x1, .int x3, .int x4]) (rest := []) (mc' := 0) (ms' := 0) (idx := 348) (t := 1378) cv_X11_keep (by decide +kernel) rfl rfl rfl (Nat.le_of_ble_eq_true rfl) (Nat.le_of_ble_eq_true rfl) (Nat.le_of_ble_eq_true rfl) (Nat.le_of_ble_eq_true rfl) (H) (fun rv h' hp => ?_)
        obtain ⟨s9, rfl, rfl, hK⟩ := hp
        exact ⟨rfl, rfl, XA.drop (by simp [leL]) hK⟩
      · have H := H.2 c3
        refine XA.blk (e9 := 36) (ok := true) (ls' := [some (.ref 136), some (.int x1), some (.int x2), some (.int x3), some (.int x4), some (.int (laV σ x1 x2 x3))]) (st' := [.int (laV σ x1 x2 x3), .ref 136]) (h' := hs σ) [(.aload_n 0, 1, 0, 0, 0, 0, 0, 0), (.iload 5, 2, 5, 0, 0, 0, 0, 0)] (by decide +kernel) rfl rfl ?_
        refine XA.callV (as := [.int (laV σ x1 x2 x3)]) (rest := []) (mc' := 0) (ms' := 0) (idx := 170) (t := 1132) cv_X11_meets (by decide +kernel) rfl rfl rfl (Nat.le_of_ble_eq_true rfl) (Nat.le_of_ble_eq_true rfl) (Nat.le_of_ble_eq_true rfl) (Nat.le_of_ble_eq_true rfl) (H) (fun rv h' hp => ?_)
        obtain ⟨r9, s9, rfl, rfl, hK⟩ := hp
        exact ⟨rfl, rfl, XA.drop (by simp [leL]) hK⟩
    · have H := H.2 c2
      refine XA.blk (e9 := 18) (ok := true) (ls' := [some (.ref 136), some (.int x1), some (.int x2), some (.int x3), some (.int x4), none]) (st' := [.int (-2)]) (h' := hs σ) [(.bipush (-2), 2, 0, 0, 0, 0, (-2), 0)] (by decide +kernel) rfl rfl ?_
      exact XA.ret (some (.int (-2))) rfl (show ckRt mX11_put 18 .ireturn = true by decide +kernel) trivial (Nat.le_of_ble_eq_true rfl) (Nat.le_of_ble_eq_true rfl) ⟨_, _, rfl, rfl, H⟩
set_option maxRecDepth 20000 in
theorem W_X11_put_39 {scr : ScA}   {y0 : Int32}  {σ : Nat → Nat → Int32} {P : Int32 → (Nat → Nat → Int32) → Prop} (H : P y0 σ) : K_X11_put_39 scr y0 σ P := by
  show XA scr 2 mX11_put 172 4705 39 [none, none, none, none, none, none] [.int y0] (hs σ) (pI P)
  exact XA.ret (some (.int y0)) rfl (show ckRt mX11_put 39 .ireturn = true by decide +kernel) trivial (Nat.le_of_ble_eq_true rfl) (Nat.le_of_ble_eq_true rfl) ⟨_, _, rfl, rfl, H⟩
set_option maxRecDepth 20000 in
theorem W_X11_put_48 {scr : ScA}     {σ : Nat → Nat → Int32} {P : Int32 → (Nat → Nat → Int32) → Prop} (H : P 1 σ) : K_X11_put_48 scr σ P := by
  show XA scr 2 mX11_put 172 4705 48 [none, none, none, none, none, none] [] (hs σ) (pI P)
  refine XA.blk (e9 := 49) (ok := true) (ls' := [none, none, none, none, none, none]) (st' := [.int 1]) (h' := hs σ) [(.iconst 1, 1, 0, 0, 0, 0, 1, 0)] (by decide +kernel) rfl rfl ?_
  exact XA.ret (some (.int 1)) rfl (show ckRt mX11_put 49 .ireturn = true by decide +kernel) trivial (Nat.le_of_ble_eq_true rfl) (Nat.le_of_ble_eq_true rfl) ⟨_, _, rfl, rfl, H⟩
theorem E_X11_put {scr : ScA}  {x1 : Int32} {x2 : Int32} {x3 : Int32} {x4 : Int32} {σ : Nat → Nat → Int32} {P : Int32 → (Nat → Nat → Int32) → Prop} (h : K_X11_put_0 scr x1 x2 x3 x4 σ P) : CiA scr 2 mX11_put [.ref 136, .int x1, .int x2, .int x3, .int x4] σ P := CtA.of (by decide) (Nat.le_of_ble_eq_true rfl) (XA.drop (by simp [leL, enL]) h)
def K_X11_get_0 (scr : ScA)  (x1 : Int32) (x2 : Int32) (x3 : Int32) (σ : Nat → Nat → Int32) (P : Int32 → (Nat → Nat → Int32) → Prop) : Prop := XA scr 2 mX11_get 172 4705 0 [some (.ref 136), some (.int x1), some (.int x2), some (.int x3), none] [] (hs σ) (pI P)
set_option maxRecDepth 20000 in
theorem W_X11_get_0 {scr : ScA}   {x1 : Int32} {x2 : Int32} {x3 : Int32}  {σ : Nat → Nat → Int32} {P : Int32 → (Nat → Nat → Int32) → Prop} (H : ((inV x1 0 3) = 0 → P (-2147483648) σ) ∧ (¬ (inV x1 0 3) = 0 → (¬ (inV x2 0 2) = 0 → (inB x1 4 = true) ∧ (((laV σ x1 x2 x3) ≤ 0 → (inB ((60 * x1) + x3) 240 = true) ∧ (P (σ 170 (Int32.toNatClampNeg ((60 * x1) + x3))) σ)) ∧ (¬ (laV σ x1 x2 x3) ≤ 0 → ∀ σ1, σ1 = (su σ 136 53 (laV σ x1 x2 x3)) → P (-2147483648) σ1))) ∧ ((inV x2 0 2) = 0 → P (-2147483648) σ))) : K_X11_get_0 scr x1 x2 x3 σ P := by
  show XA scr 2 mX11_get 172 4705 0 [some (.ref 136), some (.int x1), some (.int x2), some (.int x3), none] [] (hs σ) (pI P)
  refine XA.blk (e9 := 1) (ok := true) (ls' := [some (.ref 136), some (.int x1), some (.int x2), some (.int x3), none]) (st' := [.int x1]) (h' := hs σ) [(.iload_n 1, 1, 1, 0, 0, 0, 0, 0)] (by decide +kernel) rfl rfl ?_
  refine XA.callS (as := [.int x1]) (rest := []) (mc' := 0) (ms' := 0) (idx := 167) (t := 1129) cs_X11_isSheet (by decide +kernel) rfl rfl (Nat.le_of_ble_eq_true rfl) (Nat.le_of_ble_eq_true rfl) (Nat.le_of_ble_eq_true rfl) (Nat.le_of_ble_eq_true rfl) (pu_X11_isSheet scr σ x1) (fun rv h' hp => ?_)
  obtain ⟨rfl, rfl⟩ := hp
  refine ⟨rfl, rfl, ?_⟩
  show XA scr 2 mX11_get 172 4705 4 [some (.ref 136), some (.int x1), some (.int x2), some (.int x3), none] [.int (inV x1 0 3)] (hs σ) (pI P)
  refine XA.if_eq (12) 16 (by decide +kernel) (fun c1 => ?_) (fun c1 => ?_)
  · have H := H.1 c1
    refine XA.blk (e9 := 19) (ok := true) (ls' := [some (.ref 136), some (.int x1), some (.int x2), some (.int x3), none]) (st' := [.int (-2147483648)]) (h' := hs σ) [(.ldc_w 352, 3, 0, 0, 0, 1386, (-2147483648), 0)] (by decide +kernel) rfl rfl ?_
    exact XA.ret (some (.int (-2147483648))) rfl (show ckRt mX11_get 19 .ireturn = true by decide +kernel) trivial (Nat.le_of_ble_eq_true rfl) (Nat.le_of_ble_eq_true rfl) ⟨_, _, rfl, rfl, H⟩
  · have H := H.2 c1
    refine XA.blk (e9 := 10) (ok := true) (ls' := [some (.ref 136), some (.int x1), some (.int x2), some (.int x3), none]) (st' := [.int 2, .int 0, .int x2]) (h' := hs σ) [(.iload_n 2, 1, 2, 0, 0, 0, 0, 0), (.iconst 0, 1, 0, 0, 0, 0, 0, 0), (.iconst 2, 1, 0, 0, 0, 0, 2, 0)] (by decide +kernel) rfl rfl ?_
    refine XA.callS (as := [.int x2, .int 0, .int 2]) (rest := []) (mc' := 0) (ms' := 0) (idx := 118) (t := 1061) cs_X11_in (by decide +kernel) rfl rfl (Nat.le_of_ble_eq_true rfl) (Nat.le_of_ble_eq_true rfl) (Nat.le_of_ble_eq_true rfl) (Nat.le_of_ble_eq_true rfl) (pu_X11_in scr σ x2 0 2) (fun rv h' hp => ?_)
    obtain ⟨rfl, rfl⟩ := hp
    refine ⟨rfl, rfl, ?_⟩
    show XA scr 2 mX11_get 172 4705 13 [some (.ref 136), some (.int x1), some (.int x2), some (.int x3), none] [.int (inV x2 0 2)] (hs σ) (pI P)
    refine XA.if_ne (7) 20 (by decide +kernel) (fun c2 => ?_) (fun c2 => ?_)
    · have H := H.1 c2
      refine XA.blk (e9 := 24) (ok := true) (ls' := [some (.ref 136), some (.int x1), some (.int x2), some (.int x3), none]) (st' := [.int x3, .int x2, .int x1, .ref 136]) (h' := hs σ) [(.aload_n 0, 1, 0, 0, 0, 0, 0, 0), (.iload_n 1, 1, 1, 0, 0, 0, 0, 0), (.iload_n 2, 1, 2, 0, 0, 0, 0, 0), (.iload_n 3, 1, 3, 0, 0, 0, 0, 0)] (by decide +kernel) rfl rfl ?_
      obtain ⟨o1, H⟩ := H
      refine XA.callV (as := [.int x1, .int x2, .int x3]) (rest := []) (mc' := 0) (ms' := 0) (idx := 345) (t := 1374) cv_X11_lacks (by decide +kernel) rfl rfl rfl (Nat.le_of_ble_eq_true rfl) (Nat.le_of_ble_eq_true rfl) (Nat.le_of_ble_eq_true rfl) (Nat.le_of_ble_eq_true rfl) (pu_X11_lacks scr σ x1 x2 x3 o1) (fun rv h' hp => ?_)
      obtain ⟨rfl, rfl⟩ := hp
      refine ⟨rfl, rfl, ?_⟩
      show XA scr 2 mX11_get 172 4705 27 [some (.ref 136), some (.int x1), some (.int x2), some (.int x3), none] [.int (laV σ x1 x2 x3)] (hs σ) (pI P)
      refine XA.blk (e9 := 31) (ok := true) (ls' := [some (.ref 136), some (.int x1), some (.int x2), some (.int x3), some (.int (laV σ x1 x2 x3))]) (st' := [.int (laV σ x1 x2 x3)]) (h' := hs σ) [(.istore 4, 2, 4, 0, 0, 0, 0, 0), (.iload 4, 2, 4, 0, 0, 0, 0, 0)] (by decide +kernel) rfl rfl ?_
      refine XA.if_le (13) 44 (by decide +kernel) (fun c3 => ?_) (fun c3 => ?_)
      · have H := H.1 c3
        obtain ⟨o2, H⟩ := H
        refine XA.blk (e9 := 55) (ok := inB ((60 * x1) + x3) 240 && (true)) (ls' := [some (.ref 136), some (.int x1), some (.int x2), some (.int x3), some (.int (laV σ x1 x2 x3))]) (st' := [.int (σ 170 (Int32.toNatClampNeg ((60 * x1) + x3)))]) (h' := hs σ) [(.aload_n 0, 1, 0, 0, 0, 0, 0, 0), (.getfield 110, 3, 11, 51, 35, 944, 0, 0), (.bipush 60, 2, 0, 0, 0, 0, 60, 0), (.iload_n 1, 1, 1, 0, 0, 0, 0, 0), (.imul, 1, 0, 0, 0, 0, 0, 0), (.iload_n 3, 1, 3, 0, 0, 0, 0, 0), (.iadd, 1, 0, 0, 0, 0, 0, 0), (.iaload, 1, 0, 0, 0, 0, 0, 0)] (by decide +kernel) rfl (by simp only [o2, Bool.and_true, Bool.true_and]) ?_
        exact XA.ret (some (.int (σ 170 (Int32.toNatClampNeg ((60 * x1) + x3))))) rfl (show ckRt mX11_get 55 .ireturn = true by decide +kernel) trivial (Nat.le_of_ble_eq_true rfl) (Nat.le_of_ble_eq_true rfl) ⟨_, _, rfl, rfl, H⟩
      · have H := H.2 c3
        refine XA.blk (e9 := 40) (ok := true) (ls' := [some (.ref 136), some (.int x1), some (.int x2), some (.int x3), some (.int (laV σ x1 x2 x3))]) (st' := []) (h' := hs (su σ 136 53 (laV σ x1 x2 x3))) [(.aload_n 0, 1, 0, 0, 0, 0, 0, 0), (.iload 4, 2, 4, 0, 0, 0, 0, 0), (.putfield 342, 3, 11, 53, 0, 946, 0, 0)] (by decide +kernel) rfl rfl ?_
        obtain ⟨σ1, hσ1⟩ : ∃ s9, s9 = (su σ 136 53 (laV σ x1 x2 x3)) := ⟨_, rfl⟩
        rw [← hσ1]
        have H := H σ1 hσ1
        refine XA.blk (e9 := 43) (ok := true) (ls' := [some (.ref 136), some (.int x1), some (.int x2), some (.int x3), some (.int (laV σ x1 x2 x3))]) (st' := [.int (-2147483648)]) (h' := hs σ1) [(.ldc_w 352, 3, 0, 0, 0, 1386, (-2147483648), 0)] (by decide +kernel) rfl rfl ?_
        exact XA.ret (some (.int (-2147483648))) rfl (show ckRt mX11_get 43 .ireturn = true by decide +kernel) trivial (Nat.le_of_ble_eq_true rfl) (Nat.le_of_ble_eq_true rfl) ⟨_, _, rfl, rfl, H⟩
    · have H := H.2 c2
      refine XA.blk (e9 := 19) (ok := true) (ls' := [some (.ref 136), some (.int x1), some (.int x2), some (.int x3), none]) (st' := [.int (-2147483648)]) (h' := hs σ) [(.ldc_w 352, 3, 0, 0, 0, 1386, (-2147483648), 0)] (by decide +kernel) rfl rfl ?_
      exact XA.ret (some (.int (-2147483648))) rfl (show ckRt mX11_get 19 .ireturn = true by decide +kernel) trivial (Nat.le_of_ble_eq_true rfl) (Nat.le_of_ble_eq_true rfl) ⟨_, _, rfl, rfl, H⟩
theorem E_X11_get {scr : ScA}  {x1 : Int32} {x2 : Int32} {x3 : Int32} {σ : Nat → Nat → Int32} {P : Int32 → (Nat → Nat → Int32) → Prop} (h : K_X11_get_0 scr x1 x2 x3 σ P) : CiA scr 2 mX11_get [.ref 136, .int x1, .int x2, .int x3] σ P := CtA.of (by decide) (Nat.le_of_ble_eq_true rfl) (XA.drop (by simp [leL, enL]) h)
def K_X11_copy_0 (scr : ScA)  (x1 : Int32) (x2 : Int32) (x3 : Int32) (x4 : Int32) (x5 : Int32) (σ : Nat → Nat → Int32) (P : Int32 → (Nat → Nat → Int32) → Prop) : Prop := XA scr 2 mX11_copy 172 4705 0 [some (.ref 136), some (.int x1), some (.int x2), some (.int x3), some (.int x4), some (.int x5), none] [] (hs σ) (pI P)
def K_X11_copy_40 (scr : ScA)  (y0 : Int32) (σ : Nat → Nat → Int32) (P : Int32 → (Nat → Nat → Int32) → Prop) : Prop := XA scr 2 mX11_copy 172 4705 40 [none, none, none, none, none, none, none] [.int y0] (hs σ) (pI P)
def K_X11_copy_61 (scr : ScA)  (y0 : Int32) (σ : Nat → Nat → Int32) (P : Int32 → (Nat → Nat → Int32) → Prop) : Prop := XA scr 2 mX11_copy 172 4705 61 [none, none, none, none, none, none, none] [.int y0] (hs σ) (pI P)
def K_X11_copy_116 (scr : ScA)  (y0 : Int32) (σ : Nat → Nat → Int32) (P : Int32 → (Nat → Nat → Int32) → Prop) : Prop := XA scr 2 mX11_copy 172 4705 116 [none, none, none, none, none, none, none] [.int y0] (hs σ) (pI P)
def K_X11_copy_120 (scr : ScA)  (x1 : Int32) (x2 : Int32) (x3 : Int32) (x4 : Int32) (x5 : Int32) (x6 : Int32) (σ : Nat → Nat → Int32) (P : Int32 → (Nat → Nat → Int32) → Prop) : Prop := XA scr 2 mX11_copy 172 4705 120 [some (.ref 136), some (.int x1), some (.int x2), some (.int x3), some (.int x4), some (.int x5), some (.int x6)] [] (hs σ) (pI P)
def K_X11_copy_157 (scr : ScA)  (x3 : Int32) (x4 : Int32) (x5 : Int32) (x6 : Int32) (σ : Nat → Nat → Int32) (P : Int32 → (Nat → Nat → Int32) → Prop) : Prop := XA scr 2 mX11_copy 172 4705 157 [some (.ref 136), none, none, some (.int x3), some (.int x4), some (.int x5), some (.int x6)] [] (hs σ) (pI P)
set_option maxRecDepth 20000 in
theorem W_X11_copy_0 {scr : ScA}   {x1 : Int32} {x2 : Int32} {x3 : Int32} {x4 : Int32} {x5 : Int32}  {σ : Nat → Nat → Int32} {P : Int32 → (Nat → Nat → Int32) → Prop} (H : ((inV x1 0 3) = 0 → P (-2) σ) ∧ (¬ (inV x1 0 3) = 0 → (¬ (inV x3 0 3) = 0 → (inB x1 4 = true) ∧ (((σ 167 (Int32.toNatClampNeg x1)) = 0 → CiA scr 0 mX11_meets [.ref 136, .int 1] σ (fun r9 σ' => K_X11_copy_40 scr r9 σ' P)) ∧ (¬ (σ 167 (Int32.toNatClampNeg x1)) = 0 → (inB x3 4 = true) ∧ ((¬ (σ 167 (Int32.toNatClampNeg x3)) = 0 → ((σ 168 (Int32.toNatClampNeg x1)) = (σ 168 (Int32.toNatClampNeg x3)) → (x2 < 0 → CiA scr 0 mX11_meets [.ref 136, .int 2] σ (fun r9 σ' => K_X11_copy_116 scr r9 σ' P)) ∧ (¬ x2 < 0 → (x4 < 0 → CiA scr 0 mX11_meets [.ref 136, .int 2] σ (fun r9 σ' => K_X11_copy_116 scr r9 σ' P)) ∧ (¬ x4 < 0 → (x5 < 0 → CiA scr 0 mX11_meets [.ref 136, .int 2] σ (fun r9 σ' => K_X11_copy_116 scr r9 σ' P)) ∧ (¬ x5 < 0 → (0 < (lg_cmp ((Int32.toInt64 x2) + (Int32.toInt64 x5)) (Int32.toInt64 (σ 169 (Int32.toNatClampNeg x1)))) → CiA scr 0 mX11_meets [.ref 136, .int 2] σ (fun r9 σ' => K_X11_copy_116 scr r9 σ' P)) ∧ (¬ 0 < (lg_cmp ((Int32.toInt64 x2) + (Int32.toInt64 x5)) (Int32.toInt64 (σ 169 (Int32.toNatClampNeg x1)))) → ((lg_cmp ((Int32.toInt64 x4) + (Int32.toInt64 x5)) (Int32.toInt64 (σ 169 (Int32.toNatClampNeg x3)))) ≤ 0 → K_X11_copy_120 scr x1 x2 x3 x4 x5 0 σ P) ∧ (¬ (lg_cmp ((Int32.toInt64 x4) + (Int32.toInt64 x5)) (Int32.toInt64 (σ 169 (Int32.toNatClampNeg x3)))) ≤ 0 → CiA scr 0 mX11_meets [.ref 136, .int 2] σ (fun r9 σ' => K_X11_copy_116 scr r9 σ' P))))))) ∧ (¬ (σ 168 (Int32.toNatClampNeg x1)) = (σ 168 (Int32.toNatClampNeg x3)) → CiA scr 0 mX11_meets [.ref 136, .int 4] σ (fun r9 σ' => K_X11_copy_61 scr r9 σ' P))) ∧ ((σ 167 (Int32.toNatClampNeg x3)) = 0 → CiA scr 0 mX11_meets [.ref 136, .int 1] σ (fun r9 σ' => K_X11_copy_40 scr r9 σ' P)))))) ∧ ((inV x3 0 3) = 0 → P (-2) σ))) : K_X11_copy_0 scr x1 x2 x3 x4 x5 σ P := by
  show XA scr 2 mX11_copy 172 4705 0 [some (.ref 136), some (.int x1), some (.int x2), some (.int x3), some (.int x4), some (.int x5), none] [] (hs σ) (pI P)
  refine XA.blk (e9 := 1) (ok := true) (ls' := [some (.ref 136), some (.int x1), some (.int x2), some (.int x3), some (.int x4), some (.int x5), none]) (st' := [.int x1]) (h' := hs σ) [(.iload_n 1, 1, 1, 0, 0, 0, 0, 0)] (by decide +kernel) rfl rfl ?_
  refine XA.callS (as := [.int x1]) (rest := []) (mc' := 0) (ms' := 0) (idx := 167) (t := 1129) cs_X11_isSheet (by decide +kernel) rfl rfl (Nat.le_of_ble_eq_true rfl) (Nat.le_of_ble_eq_true rfl) (Nat.le_of_ble_eq_true rfl) (Nat.le_of_ble_eq_true rfl) (pu_X11_isSheet scr σ x1) (fun rv h' hp => ?_)
  obtain ⟨rfl, rfl⟩ := hp
  refine ⟨rfl, rfl, ?_⟩
  show XA scr 2 mX11_copy 172 4705 4 [some (.ref 136), some (.int x1), some (.int x2), some (.int x3), some (.int x4), some (.int x5), none] [.int (inV x1 0 3)] (hs σ) (pI P)
  refine XA.if_eq (10) 14 (by decide +kernel) (fun c1 => ?_) (fun c1 => ?_)
  · have H := H.1 c1
    refine XA.blk (e9 := 16) (ok := true) (ls' := [some (.ref 136), some (.int x1), some (.int x2), some (.int x3), some (.int x4), some (.int x5), none]) (st' := [.int (-2)]) (h' := hs σ) [(.bipush (-2), 2, 0, 0, 0, 0, (-2), 0)] (by decide +kernel) rfl rfl ?_
    exact XA.ret (some (.int (-2))) rfl (show ckRt mX11_copy 16 .ireturn = true by decide +kernel) trivial (Nat.le_of_ble_eq_true rfl) (Nat.le_of_ble_eq_true rfl) ⟨_, _, rfl, rfl, H⟩
  · have H := H.2 c1
    refine XA.blk (e9 := 8) (ok := true) (ls' := [some (.ref 136), some (.int x1), some (.int x2), some (.int x3), some (.int x4), some (.int x5), none]) (st' := [.int x3]) (h' := hs σ) [(.iload_n 3, 1, 3, 0, 0, 0, 0, 0)] (by decide +kernel) rfl rfl ?_
    refine XA.callS (as := [.int x3]) (rest := []) (mc' := 0) (ms' := 0) (idx := 167) (t := 1129) cs_X11_isSheet (by decide +kernel) rfl rfl (Nat.le_of_ble_eq_true rfl) (Nat.le_of_ble_eq_true rfl) (Nat.le_of_ble_eq_true rfl) (Nat.le_of_ble_eq_true rfl) (pu_X11_isSheet scr σ x3) (fun rv h' hp => ?_)
    obtain ⟨rfl, rfl⟩ := hp
    refine ⟨rfl, rfl, ?_⟩
    show XA scr 2 mX11_copy 172 4705 11 [some (.ref 136), some (.int x1), some (.int x2), some (.int x3), some (.int x4), some (.int x5), none] [.int (inV x3 0 3)] (hs σ) (pI P)
    refine XA.if_ne (6) 17 (by decide +kernel) (fun c2 => ?_) (fun c2 => ?_)
    · have H := H.1 c2
      obtain ⟨o1, H⟩ := H
      refine XA.blk (e9 := 23) (ok := inB x1 4 && (true)) (ls' := [some (.ref 136), some (.int x1), some (.int x2), some (.int x3), some (.int x4), some (.int x5), none]) (st' := [.int (σ 167 (Int32.toNatClampNeg x1))]) (h' := hs σ) [(.aload_n 0, 1, 0, 0, 0, 0, 0, 0), (.getfield 100, 3, 11, 48, 32, 941, 0, 0), (.iload_n 1, 1, 1, 0, 0, 0, 0, 0), (.baload, 1, 0, 0, 0, 0, 0, 0)] (by decide +kernel) rfl (by simp only [o1, Bool.and_true, Bool.true_and]) ?_
      refine XA.if_eq (12) 35 (by decide +kernel) (fun c3 => ?_) (fun c3 => ?_)
      · have H := H.1 c3
        refine XA.blk (e9 := 37) (ok := true) (ls' := [some (.ref 136), some (.int x1), some (.int x2), some (.int x3), some (.int x4), some (.int x5), none]) (st' := [.int 1, .ref 136]) (h' := hs σ) [(.aload_n 0, 1, 0, 0, 0, 0, 0, 0), (.iconst 1, 1, 0, 0, 0, 0, 1, 0)] (by decide +kernel) rfl rfl ?_
        refine XA.callV (as := [.int 1]) (rest := []) (mc' := 0) (ms' := 0) (idx := 170) (t := 1132) cv_X11_meets (by decide +kernel) rfl rfl rfl (Nat.le_of_ble_eq_true rfl) (Nat.le_of_ble_eq_true rfl) (Nat.le_of_ble_eq_true rfl) (Nat.le_of_ble_eq_true rfl) (H) (fun rv h' hp => ?_)
        obtain ⟨r9, s9, rfl, rfl, hK⟩ := hp
        exact ⟨rfl, rfl, XA.drop (by simp [leL]) hK⟩
      · have H := H.2 c3
        obtain ⟨o2, H⟩ := H
        refine XA.blk (e9 := 32) (ok := inB x3 4 && (true)) (ls' := [some (.ref 136), some (.int x1), some (.int x2), some (.int x3), some (.int x4), some (.int x5), none]) (st' := [.int (σ 167 (Int32.toNatClampNeg x3))]) (h' := hs σ) [(.aload_n 0, 1, 0, 0, 0, 0, 0, 0), (.getfield 100, 3, 11, 48, 32, 941, 0, 0), (.iload_n 3, 1, 3, 0, 0, 0, 0, 0), (.baload, 1, 0, 0, 0, 0, 0, 0)] (by decide +kernel) rfl (by simp only [o2, Bool.and_true, Bool.true_and]) ?_
        refine XA.if_ne (9) 41 (by decide +kernel) (fun c4 => ?_) (fun c4 => ?_)
        · have H := H.1 c4
          refine XA.blk (e9 := 53) (ok := inB x1 4 && (inB x3 4 && (true))) (ls' := [some (.ref 136), some (.int x1), some (.int x2), some (.int x3), some (.int x4), some (.int x5), none]) (st' := [.int (σ 168 (Int32.toNatClampNeg x3)), .int (σ 168 (Int32.toNatClampNeg x1))]) (h' := hs σ) [(.aload_n 0, 1, 0, 0, 0, 0, 0, 0), (.getfield 104, 3, 11, 49, 33, 942, 0, 0), (.iload_n 1, 1, 1, 0, 0, 0, 0, 0), (.iaload, 1, 0, 0, 0, 0, 0, 0), (.aload_n 0, 1, 0, 0, 0, 0, 0, 0), (.getfield 104, 3, 11, 49, 33, 942, 0, 0), (.iload_n 3, 1, 3, 0, 0, 0, 0, 0), (.iaload, 1, 0, 0, 0, 0, 0, 0)] (by decide +kernel) rfl (by simp only [o1, o2, Bool.and_true, Bool.true_and]) ?_
          refine XA.icmp_eq (9) 62 (by decide +kernel) (fun c5 => ?_) (fun c5 => ?_)
          · have H := H.1 c5
            refine XA.blk (e9 := 63) (ok := true) (ls' := [some (.ref 136), some (.int x1), some (.int x2), some (.int x3), some (.int x4), some (.int x5), none]) (st' := [.int x2]) (h' := hs σ) [(.iload_n 2, 1, 2, 0, 0, 0, 0, 0)] (by decide +kernel) rfl rfl ?_
            refine XA.if_lt (48) 111 (by decide +kernel) (fun c6 => ?_) (fun c6 => ?_)
            · have H := H.1 c6
              refine XA.blk (e9 := 113) (ok := true) (ls' := [some (.ref 136), some (.int x1), some (.int x2), some (.int x3), some (.int x4), some (.int x5), none]) (st' := [.int 2, .ref 136]) (h' := hs σ) [(.aload_n 0, 1, 0, 0, 0, 0, 0, 0), (.iconst 2, 1, 0, 0, 0, 0, 2, 0)] (by decide +kernel) rfl rfl ?_
              refine XA.callV (as := [.int 2]) (rest := []) (mc' := 0) (ms' := 0) (idx := 170) (t := 1132) cv_X11_meets (by decide +kernel) rfl rfl rfl (Nat.le_of_ble_eq_true rfl) (Nat.le_of_ble_eq_true rfl) (Nat.le_of_ble_eq_true rfl) (Nat.le_of_ble_eq_true rfl) (H) (fun rv h' hp => ?_)
              obtain ⟨r9, s9, rfl, rfl, hK⟩ := hp
              exact ⟨rfl, rfl, XA.drop (by simp [leL]) hK⟩
            · have H := H.2 c6
              refine XA.blk (e9 := 68) (ok := true) (ls' := [some (.ref 136), some (.int x1), some (.int x2), some (.int x3), some (.int x4), some (.int x5), none]) (st' := [.int x4]) (h' := hs σ) [(.iload 4, 2, 4, 0, 0, 0, 0, 0)] (by decide +kernel) rfl rfl ?_
              refine XA.if_lt (43) 111 (by decide +kernel) (fun c7 => ?_) (fun c7 => ?_)
              · have H := H.1 c7
                refine XA.blk (e9 := 113) (ok := true) (ls' := [some (.ref 136), some (.int x1), some (.int x2), some (.int x3), some (.int x4), some (.int x5), none]) (st' := [.int 2, .ref 136]) (h' := hs σ) [(.aload_n 0, 1, 0, 0, 0, 0, 0, 0), (.iconst 2, 1, 0, 0, 0, 0, 2, 0)] (by decide +kernel) rfl rfl ?_
                refine XA.callV (as := [.int 2]) (rest := []) (mc' := 0) (ms' := 0) (idx := 170) (t := 1132) cv_X11_meets (by decide +kernel) rfl rfl rfl (Nat.le_of_ble_eq_true rfl) (Nat.le_of_ble_eq_true rfl) (Nat.le_of_ble_eq_true rfl) (Nat.le_of_ble_eq_true rfl) (H) (fun rv h' hp => ?_)
                obtain ⟨r9, s9, rfl, rfl, hK⟩ := hp
                exact ⟨rfl, rfl, XA.drop (by simp [leL]) hK⟩
              · have H := H.2 c7
                refine XA.blk (e9 := 73) (ok := true) (ls' := [some (.ref 136), some (.int x1), some (.int x2), some (.int x3), some (.int x4), some (.int x5), none]) (st' := [.int x5]) (h' := hs σ) [(.iload 5, 2, 5, 0, 0, 0, 0, 0)] (by decide +kernel) rfl rfl ?_
                refine XA.if_lt (38) 111 (by decide +kernel) (fun c8 => ?_) (fun c8 => ?_)
                · have H := H.1 c8
                  refine XA.blk (e9 := 113) (ok := true) (ls' := [some (.ref 136), some (.int x1), some (.int x2), some (.int x3), some (.int x4), some (.int x5), none]) (st' := [.int 2, .ref 136]) (h' := hs σ) [(.aload_n 0, 1, 0, 0, 0, 0, 0, 0), (.iconst 2, 1, 0, 0, 0, 0, 2, 0)] (by decide +kernel) rfl rfl ?_
                  refine XA.callV (as := [.int 2]) (rest := []) (mc' := 0) (ms' := 0) (idx := 170) (t := 1132) cv_X11_meets (by decide +kernel) rfl rfl rfl (Nat.le_of_ble_eq_true rfl) (Nat.le_of_ble_eq_true rfl) (Nat.le_of_ble_eq_true rfl) (Nat.le_of_ble_eq_true rfl) (H) (fun rv h' hp => ?_)
                  obtain ⟨r9, s9, rfl, rfl, hK⟩ := hp
                  exact ⟨rfl, rfl, XA.drop (by simp [leL]) hK⟩
                · have H := H.2 c8
                  refine XA.blk (e9 := 90) (ok := inB x1 4 && (true)) (ls' := [some (.ref 136), some (.int x1), some (.int x2), some (.int x3), some (.int x4), some (.int x5), none]) (st' := [.int (lg_cmp ((Int32.toInt64 x2) + (Int32.toInt64 x5)) (Int32.toInt64 (σ 169 (Int32.toNatClampNeg x1))))]) (h' := hs σ) [(.iload_n 2, 1, 2, 0, 0, 0, 0, 0), (.i2l, 1, 0, 0, 0, 0, 0, 0), (.iload 5, 2, 5, 0, 0, 0, 0, 0), (.i2l, 1, 0, 0, 0, 0, 0, 0), (.ladd, 1, 0, 0, 0, 0, 0, 0), (.aload_n 0, 1, 0, 0, 0, 0, 0, 0), (.getfield 107, 3, 11, 50, 34, 943, 0, 0), (.iload_n 1, 1, 1, 0, 0, 0, 0, 0), (.iaload, 1, 0, 0, 0, 0, 0, 0), (.i2l, 1, 0, 0, 0, 0, 0, 0), (.lcmp, 1, 0, 0, 0, 0, 0, 0)] (by decide +kernel) rfl (by simp only [o1, Bool.and_true, Bool.true_and]) ?_
                  refine XA.if_gt (21) 111 (by decide +kernel) (fun c9 => ?_) (fun c9 => ?_)
                  · have H := H.1 c9
                    refine XA.blk (e9 := 113) (ok := true) (ls' := [some (.ref 136), some (.int x1), some (.int x2), some (.int x3), some (.int x4), some (.int x5), none]) (st' := [.int 2, .ref 136]) (h' := hs σ) [(.aload_n 0, 1, 0, 0, 0, 0, 0, 0), (.iconst 2, 1, 0, 0, 0, 0, 2, 0)] (by decide +kernel) rfl rfl ?_
                    refine XA.callV (as := [.int 2]) (rest := []) (mc' := 0) (ms' := 0) (idx := 170) (t := 1132) cv_X11_meets (by decide +kernel) rfl rfl rfl (Nat.le_of_ble_eq_true rfl) (Nat.le_of_ble_eq_true rfl) (Nat.le_of_ble_eq_true rfl) (Nat.le_of_ble_eq_true rfl) (H) (fun rv h' hp => ?_)
                    obtain ⟨r9, s9, rfl, rfl, hK⟩ := hp
                    exact ⟨rfl, rfl, XA.drop (by simp [leL]) hK⟩
                  · have H := H.2 c9
                    refine XA.blk (e9 := 108) (ok := inB x3 4 && (true)) (ls' := [some (.ref 136), some (.int x1), some (.int x2), some (.int x3), some (.int x4), some (.int x5), none]) (st' := [.int (lg_cmp ((Int32.toInt64 x4) + (Int32.toInt64 x5)) (Int32.toInt64 (σ 169 (Int32.toNatClampNeg x3))))]) (h' := hs σ) [(.iload 4, 2, 4, 0, 0, 0, 0, 0), (.i2l, 1, 0, 0, 0, 0, 0, 0), (.iload 5, 2, 5, 0, 0, 0, 0, 0), (.i2l, 1, 0, 0, 0, 0, 0, 0), (.ladd, 1, 0, 0, 0, 0, 0, 0), (.aload_n 0, 1, 0, 0, 0, 0, 0, 0), (.getfield 107, 3, 11, 50, 34, 943, 0, 0), (.iload_n 3, 1, 3, 0, 0, 0, 0, 0), (.iaload, 1, 0, 0, 0, 0, 0, 0), (.i2l, 1, 0, 0, 0, 0, 0, 0), (.lcmp, 1, 0, 0, 0, 0, 0, 0)] (by decide +kernel) rfl (by simp only [o2, Bool.and_true, Bool.true_and]) ?_
                    refine XA.if_le (9) 117 (by decide +kernel) (fun c10 => ?_) (fun c10 => ?_)
                    · have H := H.1 c10
                      refine XA.blk (e9 := 120) (ok := true) (ls' := [some (.ref 136), some (.int x1), some (.int x2), some (.int x3), some (.int x4), some (.int x5), some (.int 0)]) (st' := []) (h' := hs σ) [(.iconst 0, 1, 0, 0, 0, 0, 0, 0), (.istore 6, 2, 6, 0, 0, 0, 0, 0)] (by decide +kernel) rfl rfl ?_
                      exact H
                    · have H := H.2 c10
                      refine XA.blk (e9 := 113) (ok := true) (ls' := [some (.ref 136), some (.int x1), some (.int x2), some (.int x3), some (.int x4), some (.int x5), none]) (st' := [.int 2, .ref 136]) (h' := hs σ) [(.aload_n 0, 1, 0, 0, 0, 0, 0, 0), (.iconst 2, 1, 0, 0, 0, 0, 2, 0)] (by decide +kernel) rfl rfl ?_
                      refine XA.callV (as := [.int 2]) (rest := []) (mc' := 0) (ms' := 0) (idx := 170) (t := 1132) cv_X11_meets (by decide +kernel) rfl rfl rfl (Nat.le_of_ble_eq_true rfl) (Nat.le_of_ble_eq_true rfl) (Nat.le_of_ble_eq_true rfl) (Nat.le_of_ble_eq_true rfl) (H) (fun rv h' hp => ?_)
                      obtain ⟨r9, s9, rfl, rfl, hK⟩ := hp
                      exact ⟨rfl, rfl, XA.drop (by simp [leL]) hK⟩
          · have H := H.2 c5
            refine XA.blk (e9 := 58) (ok := true) (ls' := [some (.ref 136), some (.int x1), some (.int x2), some (.int x3), some (.int x4), some (.int x5), none]) (st' := [.int 4, .ref 136]) (h' := hs σ) [(.aload_n 0, 1, 0, 0, 0, 0, 0, 0), (.iconst 4, 1, 0, 0, 0, 0, 4, 0)] (by decide +kernel) rfl rfl ?_
            refine XA.callV (as := [.int 4]) (rest := []) (mc' := 0) (ms' := 0) (idx := 170) (t := 1132) cv_X11_meets (by decide +kernel) rfl rfl rfl (Nat.le_of_ble_eq_true rfl) (Nat.le_of_ble_eq_true rfl) (Nat.le_of_ble_eq_true rfl) (Nat.le_of_ble_eq_true rfl) (H) (fun rv h' hp => ?_)
            obtain ⟨r9, s9, rfl, rfl, hK⟩ := hp
            exact ⟨rfl, rfl, XA.drop (by simp [leL]) hK⟩
        · have H := H.2 c4
          refine XA.blk (e9 := 37) (ok := true) (ls' := [some (.ref 136), some (.int x1), some (.int x2), some (.int x3), some (.int x4), some (.int x5), none]) (st' := [.int 1, .ref 136]) (h' := hs σ) [(.aload_n 0, 1, 0, 0, 0, 0, 0, 0), (.iconst 1, 1, 0, 0, 0, 0, 1, 0)] (by decide +kernel) rfl rfl ?_
          refine XA.callV (as := [.int 1]) (rest := []) (mc' := 0) (ms' := 0) (idx := 170) (t := 1132) cv_X11_meets (by decide +kernel) rfl rfl rfl (Nat.le_of_ble_eq_true rfl) (Nat.le_of_ble_eq_true rfl) (Nat.le_of_ble_eq_true rfl) (Nat.le_of_ble_eq_true rfl) (H) (fun rv h' hp => ?_)
          obtain ⟨r9, s9, rfl, rfl, hK⟩ := hp
          exact ⟨rfl, rfl, XA.drop (by simp [leL]) hK⟩
    · have H := H.2 c2
      refine XA.blk (e9 := 16) (ok := true) (ls' := [some (.ref 136), some (.int x1), some (.int x2), some (.int x3), some (.int x4), some (.int x5), none]) (st' := [.int (-2)]) (h' := hs σ) [(.bipush (-2), 2, 0, 0, 0, 0, (-2), 0)] (by decide +kernel) rfl rfl ?_
      exact XA.ret (some (.int (-2))) rfl (show ckRt mX11_copy 16 .ireturn = true by decide +kernel) trivial (Nat.le_of_ble_eq_true rfl) (Nat.le_of_ble_eq_true rfl) ⟨_, _, rfl, rfl, H⟩
set_option maxRecDepth 20000 in
theorem W_X11_copy_40 {scr : ScA}   {y0 : Int32}  {σ : Nat → Nat → Int32} {P : Int32 → (Nat → Nat → Int32) → Prop} (H : P y0 σ) : K_X11_copy_40 scr y0 σ P := by
  show XA scr 2 mX11_copy 172 4705 40 [none, none, none, none, none, none, none] [.int y0] (hs σ) (pI P)
  exact XA.ret (some (.int y0)) rfl (show ckRt mX11_copy 40 .ireturn = true by decide +kernel) trivial (Nat.le_of_ble_eq_true rfl) (Nat.le_of_ble_eq_true rfl) ⟨_, _, rfl, rfl, H⟩
set_option maxRecDepth 20000 in
theorem W_X11_copy_61 {scr : ScA}   {y0 : Int32}  {σ : Nat → Nat → Int32} {P : Int32 → (Nat → Nat → Int32) → Prop} (H : P y0 σ) : K_X11_copy_61 scr y0 σ P := by
  show XA scr 2 mX11_copy 172 4705 61 [none, none, none, none, none, none, none] [.int y0] (hs σ) (pI P)
  exact XA.ret (some (.int y0)) rfl (show ckRt mX11_copy 61 .ireturn = true by decide +kernel) trivial (Nat.le_of_ble_eq_true rfl) (Nat.le_of_ble_eq_true rfl) ⟨_, _, rfl, rfl, H⟩
set_option maxRecDepth 20000 in
theorem W_X11_copy_116 {scr : ScA}   {y0 : Int32}  {σ : Nat → Nat → Int32} {P : Int32 → (Nat → Nat → Int32) → Prop} (H : P y0 σ) : K_X11_copy_116 scr y0 σ P := by
  show XA scr 2 mX11_copy 172 4705 116 [none, none, none, none, none, none, none] [.int y0] (hs σ) (pI P)
  exact XA.ret (some (.int y0)) rfl (show ckRt mX11_copy 116 .ireturn = true by decide +kernel) trivial (Nat.le_of_ble_eq_true rfl) (Nat.le_of_ble_eq_true rfl) ⟨_, _, rfl, rfl, H⟩
set_option maxRecDepth 20000 in
theorem W_X11_copy_120 {scr : ScA}   {x1 : Int32} {x2 : Int32} {x3 : Int32} {x4 : Int32} {x5 : Int32} {x6 : Int32}  {σ : Nat → Nat → Int32} {P : Int32 → (Nat → Nat → Int32) → Prop} (H : (x5 ≤ x6 → K_X11_copy_157 scr x3 x4 x5 0 σ P) ∧ (¬ x5 ≤ x6 → (inB (((60 * x1) + x2) + x6) 240 = true) ∧ (inB x6 60 = true) ∧ (∀ σ1, σ1 = (su σ 171 (Int32.toNatClampNeg x6) (σ 170 (Int32.toNatClampNeg (((60 * x1) + x2) + x6)))) → K_X11_copy_120 scr x1 x2 x3 x4 x5 (x6 + 1) σ1 P))) : K_X11_copy_120 scr x1 x2 x3 x4 x5 x6 σ P := by
  show XA scr 2 mX11_copy 172 4705 120 [some (.ref 136), some (.int x1), some (.int x2), some (.int x3), some (.int x4), some (.int x5), some (.int x6)] [] (hs σ) (pI P)
  refine XA.blk (e9 := 124) (ok := true) (ls' := [some (.ref 136), some (.int x1), some (.int x2), some (.int x3), some (.int x4), some (.int x5), some (.int x6)]) (st' := [.int x5, .int x6]) (h' := hs σ) [(.iload 6, 2, 6, 0, 0, 0, 0, 0), (.iload 5, 2, 5, 0, 0, 0, 0, 0)] (by decide +kernel) rfl rfl ?_
  refine XA.icmp_ge (30) 154 (by decide +kernel) (fun c1 => ?_) (fun c1 => ?_)
  · have H := H.1 c1
    refine XA.blk (e9 := 157) (ok := true) (ls' := [some (.ref 136), some (.int x1), some (.int x2), some (.int x3), some (.int x4), some (.int x5), some (.int 0)]) (st' := []) (h' := hs σ) [(.iconst 0, 1, 0, 0, 0, 0, 0, 0), (.istore 6, 2, 6, 0, 0, 0, 0, 0)] (by decide +kernel) rfl rfl ?_
    exact XA.drop (by simp [leL]) H
  · have H := H.2 c1
    obtain ⟨o1, o2, H⟩ := H
    refine XA.blk (e9 := 148) (ok := inB (((60 * x1) + x2) + x6) 240 && (inB x6 60 && (true))) (ls' := [some (.ref 136), some (.int x1), some (.int x2), some (.int x3), some (.int x4), some (.int x5), some (.int x6)]) (st' := []) (h' := hs (su σ 171 (Int32.toNatClampNeg x6) (σ 170 (Int32.toNatClampNeg (((60 * x1) + x2) + x6))))) [(.aload_n 0, 1, 0, 0, 0, 0, 0, 0), (.getfield 113, 3, 11, 52, 36, 945, 0, 0), (.iload 6, 2, 6, 0, 0, 0, 0, 0), (.aload_n 0, 1, 0, 0, 0, 0, 0, 0), (.getfield 110, 3, 11, 51, 35, 944, 0, 0), (.bipush 60, 2, 0, 0, 0, 0, 60, 0), (.iload_n 1, 1, 1, 0, 0, 0, 0, 0), (.imul, 1, 0, 0, 0, 0, 0, 0), (.iload_n 2, 1, 2, 0, 0, 0, 0, 0), (.iadd, 1, 0, 0, 0, 0, 0, 0), (.iload 6, 2, 6, 0, 0, 0, 0, 0), (.iadd, 1, 0, 0, 0, 0, 0, 0), (.iaload, 1, 0, 0, 0, 0, 0, 0), (.iastore, 1, 0, 0, 0, 0, 0, 0)] (by decide +kernel) rfl (by simp only [o1, o2, Bool.and_true, Bool.true_and]) ?_
    obtain ⟨σ1, hσ1⟩ : ∃ s9, s9 = (su σ 171 (Int32.toNatClampNeg x6) (σ 170 (Int32.toNatClampNeg (((60 * x1) + x2) + x6)))) := ⟨_, rfl⟩
    rw [← hσ1]
    have H := H σ1 hσ1
    refine XA.blk (e9 := 120) (ok := true) (ls' := [some (.ref 136), some (.int x1), some (.int x2), some (.int x3), some (.int x4), some (.int x5), some (.int (x6 + 1))]) (st' := []) (h' := hs σ1) [(.iinc 6 1, 3, 6, 0, 0, 0, 1, 0), (.goto (-31), 3, 120, 0, 0, 0, 0, 0)] (by decide +kernel) rfl rfl ?_
    exact H
set_option maxRecDepth 20000 in
theorem W_X11_copy_157 {scr : ScA}   {x3 : Int32} {x4 : Int32} {x5 : Int32} {x6 : Int32}  {σ : Nat → Nat → Int32} {P : Int32 → (Nat → Nat → Int32) → Prop} (H : (x5 ≤ x6 → P 1 σ) ∧ (¬ x5 ≤ x6 → (inB x6 60 = true) ∧ (inB (((60 * x3) + x4) + x6) 240 = true) ∧ (∀ σ1, σ1 = (su σ 170 (Int32.toNatClampNeg (((60 * x3) + x4) + x6)) (σ 171 (Int32.toNatClampNeg x6))) → K_X11_copy_157 scr x3 x4 x5 (x6 + 1) σ1 P))) : K_X11_copy_157 scr x3 x4 x5 x6 σ P := by
  show XA scr 2 mX11_copy 172 4705 157 [some (.ref 136), none, none, some (.int x3), some (.int x4), some (.int x5), some (.int x6)] [] (hs σ) (pI P)
  refine XA.blk (e9 := 161) (ok := true) (ls' := [some (.ref 136), none, none, some (.int x3), some (.int x4), some (.int x5), some (.int x6)]) (st' := [.int x5, .int x6]) (h' := hs σ) [(.iload 6, 2, 6, 0, 0, 0, 0, 0), (.iload 5, 2, 5, 0, 0, 0, 0, 0)] (by decide +kernel) rfl rfl ?_
  refine XA.icmp_ge (31) 192 (by decide +kernel) (fun c1 => ?_) (fun c1 => ?_)
  · have H := H.1 c1
    refine XA.blk (e9 := 193) (ok := true) (ls' := [some (.ref 136), none, none, some (.int x3), some (.int x4), some (.int x5), some (.int x6)]) (st' := [.int 1]) (h' := hs σ) [(.iconst 1, 1, 0, 0, 0, 0, 1, 0)] (by decide +kernel) rfl rfl ?_
    exact XA.ret (some (.int 1)) rfl (show ckRt mX11_copy 193 .ireturn = true by decide +kernel) trivial (Nat.le_of_ble_eq_true rfl) (Nat.le_of_ble_eq_true rfl) ⟨_, _, rfl, rfl, H⟩
  · have H := H.2 c1
    obtain ⟨o1, o2, H⟩ := H
    refine XA.blk (e9 := 186) (ok := inB x6 60 && (inB (((60 * x3) + x4) + x6) 240 && (true))) (ls' := [some (.ref 136), none, none, some (.int x3), some (.int x4), some (.int x5), some (.int x6)]) (st' := []) (h' := hs (su σ 170 (Int32.toNatClampNeg (((60 * x3) + x4) + x6)) (σ 171 (Int32.toNatClampNeg x6)))) [(.aload_n 0, 1, 0, 0, 0, 0, 0, 0), (.getfield 110, 3, 11, 51, 35, 944, 0, 0), (.bipush 60, 2, 0, 0, 0, 0, 60, 0), (.iload_n 3, 1, 3, 0, 0, 0, 0, 0), (.imul, 1, 0, 0, 0, 0, 0, 0), (.iload 4, 2, 4, 0, 0, 0, 0, 0), (.iadd, 1, 0, 0, 0, 0, 0, 0), (.iload 6, 2, 6, 0, 0, 0, 0, 0), (.iadd, 1, 0, 0, 0, 0, 0, 0), (.aload_n 0, 1, 0, 0, 0, 0, 0, 0), (.getfield 113, 3, 11, 52, 36, 945, 0, 0), (.iload 6, 2, 6, 0, 0, 0, 0, 0), (.iaload, 1, 0, 0, 0, 0, 0, 0), (.iastore, 1, 0, 0, 0, 0, 0, 0)] (by decide +kernel) rfl (by simp only [o1, o2, Bool.and_true, Bool.true_and]) ?_
    obtain ⟨σ1, hσ1⟩ : ∃ s9, s9 = (su σ 170 (Int32.toNatClampNeg (((60 * x3) + x4) + x6)) (σ 171 (Int32.toNatClampNeg x6))) := ⟨_, rfl⟩
    rw [← hσ1]
    have H := H σ1 hσ1
    refine XA.blk (e9 := 157) (ok := true) (ls' := [some (.ref 136), none, none, some (.int x3), some (.int x4), some (.int x5), some (.int (x6 + 1))]) (st' := []) (h' := hs σ1) [(.iinc 6 1, 3, 6, 0, 0, 0, 1, 0), (.goto (-32), 3, 157, 0, 0, 0, 0, 0)] (by decide +kernel) rfl rfl ?_
    exact H
theorem E_X11_copy {scr : ScA}  {x1 : Int32} {x2 : Int32} {x3 : Int32} {x4 : Int32} {x5 : Int32} {σ : Nat → Nat → Int32} {P : Int32 → (Nat → Nat → Int32) → Prop} (h : K_X11_copy_0 scr x1 x2 x3 x4 x5 σ P) : CiA scr 2 mX11_copy [.ref 136, .int x1, .int x2, .int x3, .int x4, .int x5] σ P := CtA.of (by decide) (Nat.le_of_ble_eq_true rfl) (XA.drop (by simp [leL, enL]) h)
def K_X11_write_0 (scr : ScA)  (x1 : Int32) (x2 : Int32) (σ : Nat → Nat → Int32) (P : Int32 → (Nat → Nat → Int32) → Prop) : Prop := XA scr 7 mX11_write 172 4705 0 [some (.ref 136), some (.int x1), some (.int x2), none] [] (hs σ) (pI P)
def K_X11_write_31 (scr : ScA)  (y0 : Int32) (σ : Nat → Nat → Int32) (P : Int32 → (Nat → Nat → Int32) → Prop) : Prop := XA scr 7 mX11_write 172 4705 31 [none, none, none, none] [.int y0] (hs σ) (pI P)
def K_X11_write_36 (scr : ScA)  (x1 : Int32) (x2 : Int32) (σ : Nat → Nat → Int32) (P : Int32 → (Nat → Nat → Int32) → Prop) : Prop := XA scr 7 mX11_write 172 4705 36 [some (.ref 136), some (.int x1), some (.int x2), none] [] (hs σ) (pI P)
def K_X11_write_38 (scr : ScA)  (x1 : Int32) (x2 : Int32) (x3 : Int32) (σ : Nat → Nat → Int32) (P : Int32 → (Nat → Nat → Int32) → Prop) : Prop := XA scr 7 mX11_write 172 4705 38 [some (.ref 136), some (.int x1), some (.int x2), some (.int x3)] [] (hs σ) (pI P)
def K_X11_write_71 (scr : ScA)  (x1 : Int32) (x2 : Int32) (x3 : Int32) (σ : Nat → Nat → Int32) (P : Int32 → (Nat → Nat → Int32) → Prop) : Prop := XA scr 7 mX11_write 172 4705 71 [some (.ref 136), some (.int x1), some (.int x2), some (.int x3)] [] (hs σ) (pI P)
set_option maxRecDepth 20000 in
theorem W_X11_write_0 {scr : ScA}   {x1 : Int32} {x2 : Int32}  {σ : Nat → Nat → Int32} {P : Int32 → (Nat → Nat → Int32) → Prop} (H : ((inV x1 0 23) = 0 → P (-2) σ) ∧ (¬ (inV x1 0 23) = 0 → (¬ (inV x2 0 3) = 0 → (inB x2 4 = true) ∧ ((¬ (σ 167 (Int32.toNatClampNeg x2)) = 0 → CvA scr 6 mX11_runsTold [.ref 136] σ (fun σ' => K_X11_write_36 scr x1 x2 σ' P)) ∧ ((σ 167 (Int32.toNatClampNeg x2)) = 0 → CiA scr 0 mX11_meets [.ref 136, .int 1] σ (fun r9 σ' => K_X11_write_31 scr r9 σ' P)))) ∧ ((inV x2 0 3) = 0 → P (-2) σ))) : K_X11_write_0 scr x1 x2 σ P := by
  show XA scr 7 mX11_write 172 4705 0 [some (.ref 136), some (.int x1), some (.int x2), none] [] (hs σ) (pI P)
  refine XA.blk (e9 := 1) (ok := true) (ls' := [some (.ref 136), some (.int x1), some (.int x2), none]) (st' := [.int x1]) (h' := hs σ) [(.iload_n 1, 1, 1, 0, 0, 0, 0, 0)] (by decide +kernel) rfl rfl ?_
  refine XA.callS (as := [.int x1]) (rest := []) (mc' := 0) (ms' := 0) (idx := 130) (t := 1088) cs_X11_isMoment (by decide +kernel) rfl rfl (Nat.le_of_ble_eq_true rfl) (Nat.le_of_ble_eq_true rfl) (Nat.le_of_ble_eq_true rfl) (Nat.le_of_ble_eq_true rfl) (pu_X11_isMoment scr σ x1) (fun rv h' hp => ?_)
  obtain ⟨rfl, rfl⟩ := hp
  refine ⟨rfl, rfl, ?_⟩
  show XA scr 7 mX11_write 172 4705 4 [some (.ref 136), some (.int x1), some (.int x2), none] [.int (inV x1 0 23)] (hs σ) (pI P)
  refine XA.if_eq (10) 14 (by decide +kernel) (fun c1 => ?_) (fun c1 => ?_)
  · have H := H.1 c1
    refine XA.blk (e9 := 16) (ok := true) (ls' := [some (.ref 136), some (.int x1), some (.int x2), none]) (st' := [.int (-2)]) (h' := hs σ) [(.bipush (-2), 2, 0, 0, 0, 0, (-2), 0)] (by decide +kernel) rfl rfl ?_
    exact XA.ret (some (.int (-2))) rfl (show ckRt mX11_write 16 .ireturn = true by decide +kernel) trivial (Nat.le_of_ble_eq_true rfl) (Nat.le_of_ble_eq_true rfl) ⟨_, _, rfl, rfl, H⟩
  · have H := H.2 c1
    refine XA.blk (e9 := 8) (ok := true) (ls' := [some (.ref 136), some (.int x1), some (.int x2), none]) (st' := [.int x2]) (h' := hs σ) [(.iload_n 2, 1, 2, 0, 0, 0, 0, 0)] (by decide +kernel) rfl rfl ?_
    refine XA.callS (as := [.int x2]) (rest := []) (mc' := 0) (ms' := 0) (idx := 167) (t := 1129) cs_X11_isSheet (by decide +kernel) rfl rfl (Nat.le_of_ble_eq_true rfl) (Nat.le_of_ble_eq_true rfl) (Nat.le_of_ble_eq_true rfl) (Nat.le_of_ble_eq_true rfl) (pu_X11_isSheet scr σ x2) (fun rv h' hp => ?_)
    obtain ⟨rfl, rfl⟩ := hp
    refine ⟨rfl, rfl, ?_⟩
    show XA scr 7 mX11_write 172 4705 11 [some (.ref 136), some (.int x1), some (.int x2), none] [.int (inV x2 0 3)] (hs σ) (pI P)
    refine XA.if_ne (6) 17 (by decide +kernel) (fun c2 => ?_) (fun c2 => ?_)
    · have H := H.1 c2
      obtain ⟨o1, H⟩ := H
      refine XA.blk (e9 := 23) (ok := inB x2 4 && (true)) (ls' := [some (.ref 136), some (.int x1), some (.int x2), none]) (st' := [.int (σ 167 (Int32.toNatClampNeg x2))]) (h' := hs σ) [(.aload_n 0, 1, 0, 0, 0, 0, 0, 0), (.getfield 100, 3, 11, 48, 32, 941, 0, 0), (.iload_n 2, 1, 2, 0, 0, 0, 0, 0), (.baload, 1, 0, 0, 0, 0, 0, 0)] (by decide +kernel) rfl (by simp only [o1, Bool.and_true, Bool.true_and]) ?_
      refine XA.if_ne (9) 32 (by decide +kernel) (fun c3 => ?_) (fun c3 => ?_)
      · have H := H.1 c3
        refine XA.blk (e9 := 33) (ok := true) (ls' := [some (.ref 136), some (.int x1), some (.int x2), none]) (st' := [.ref 136]) (h' := hs σ) [(.aload_n 0, 1, 0, 0, 0, 0, 0, 0)] (by decide +kernel) rfl rfl ?_
        refine XA.callV (as := []) (rest := []) (mc' := 0) (ms' := 0) (idx := 247) (t := 1145) cv_X11_runsTold (by decide +kernel) rfl rfl rfl (Nat.le_of_ble_eq_true rfl) (Nat.le_of_ble_eq_true rfl) (Nat.le_of_ble_eq_true rfl) (Nat.le_of_ble_eq_true rfl) (H) (fun rv h' hp => ?_)
        obtain ⟨s9, rfl, rfl, hK⟩ := hp
        exact ⟨rfl, rfl, hK⟩
      · have H := H.2 c3
        refine XA.blk (e9 := 28) (ok := true) (ls' := [some (.ref 136), some (.int x1), some (.int x2), none]) (st' := [.int 1, .ref 136]) (h' := hs σ) [(.aload_n 0, 1, 0, 0, 0, 0, 0, 0), (.iconst 1, 1, 0, 0, 0, 0, 1, 0)] (by decide +kernel) rfl rfl ?_
        refine XA.callV (as := [.int 1]) (rest := []) (mc' := 0) (ms' := 0) (idx := 170) (t := 1132) cv_X11_meets (by decide +kernel) rfl rfl rfl (Nat.le_of_ble_eq_true rfl) (Nat.le_of_ble_eq_true rfl) (Nat.le_of_ble_eq_true rfl) (Nat.le_of_ble_eq_true rfl) (H) (fun rv h' hp => ?_)
        obtain ⟨r9, s9, rfl, rfl, hK⟩ := hp
        exact ⟨rfl, rfl, XA.drop (by simp [leL]) hK⟩
    · have H := H.2 c2
      refine XA.blk (e9 := 16) (ok := true) (ls' := [some (.ref 136), some (.int x1), some (.int x2), none]) (st' := [.int (-2)]) (h' := hs σ) [(.bipush (-2), 2, 0, 0, 0, 0, (-2), 0)] (by decide +kernel) rfl rfl ?_
      exact XA.ret (some (.int (-2))) rfl (show ckRt mX11_write 16 .ireturn = true by decide +kernel) trivial (Nat.le_of_ble_eq_true rfl) (Nat.le_of_ble_eq_true rfl) ⟨_, _, rfl, rfl, H⟩
set_option maxRecDepth 20000 in
theorem W_X11_write_31 {scr : ScA}   {y0 : Int32}  {σ : Nat → Nat → Int32} {P : Int32 → (Nat → Nat → Int32) → Prop} (H : P y0 σ) : K_X11_write_31 scr y0 σ P := by
  show XA scr 7 mX11_write 172 4705 31 [none, none, none, none] [.int y0] (hs σ) (pI P)
  exact XA.ret (some (.int y0)) rfl (show ckRt mX11_write 31 .ireturn = true by decide +kernel) trivial (Nat.le_of_ble_eq_true rfl) (Nat.le_of_ble_eq_true rfl) ⟨_, _, rfl, rfl, H⟩
set_option maxRecDepth 20000 in
theorem W_X11_write_36 {scr : ScA}   {x1 : Int32} {x2 : Int32}  {σ : Nat → Nat → Int32} {P : Int32 → (Nat → Nat → Int32) → Prop} (H : K_X11_write_38 scr x1 x2 0 σ P) : K_X11_write_36 scr x1 x2 σ P := by
  show XA scr 7 mX11_write 172 4705 36 [some (.ref 136), some (.int x1), some (.int x2), none] [] (hs σ) (pI P)
  refine XA.blk (e9 := 38) (ok := true) (ls' := [some (.ref 136), some (.int x1), some (.int x2), some (.int 0)]) (st' := []) (h' := hs σ) [(.iconst 0, 1, 0, 0, 0, 0, 0, 0), (.istore_n 3, 1, 3, 0, 0, 0, 0, 0)] (by decide +kernel) rfl rfl ?_
  exact H
set_option maxRecDepth 20000 in
theorem W_X11_write_38 {scr : ScA}   {x1 : Int32} {x2 : Int32} {x3 : Int32}  {σ : Nat → Nat → Int32} {P : Int32 → (Nat → Nat → Int32) → Prop} (H : (inB x2 4 = true) ∧ (((σ 169 (Int32.toNatClampNeg x2)) ≤ x3 → P x3 σ) ∧ (¬ (σ 169 (Int32.toNatClampNeg x2)) ≤ x3 → (10 ≤ x3 → P x3 σ) ∧ (¬ 10 ≤ x3 → (inB ((10 * x1) + x3) 240 = true) ∧ (CvA scr 0 mX11_keep [.ref 136, .int x2, .int x3, .int (σ 157 (Int32.toNatClampNeg ((10 * x1) + x3)))] σ (fun σ' => K_X11_write_71 scr x1 x2 x3 σ' P)))))) : K_X11_write_38 scr x1 x2 x3 σ P := by
  show XA scr 7 mX11_write 172 4705 38 [some (.ref 136), some (.int x1), some (.int x2), some (.int x3)] [] (hs σ) (pI P)
  obtain ⟨o1, H⟩ := H
  refine XA.blk (e9 := 45) (ok := inB x2 4 && (true)) (ls' := [some (.ref 136), some (.int x1), some (.int x2), some (.int x3)]) (st' := [.int (σ 169 (Int32.toNatClampNeg x2)), .int x3]) (h' := hs σ) [(.iload_n 3, 1, 3, 0, 0, 0, 0, 0), (.aload_n 0, 1, 0, 0, 0, 0, 0, 0), (.getfield 107, 3, 11, 50, 34, 943, 0, 0), (.iload_n 2, 1, 2, 0, 0, 0, 0, 0), (.iaload, 1, 0, 0, 0, 0, 0, 0)] (by decide +kernel) rfl (by simp only [o1, Bool.and_true, Bool.true_and]) ?_
  refine XA.icmp_ge (32) 77 (by decide +kernel) (fun c1 => ?_) (fun c1 => ?_)
  · have H := H.1 c1
    refine XA.blk (e9 := 78) (ok := true) (ls' := [some (.ref 136), some (.int x1), some (.int x2), some (.int x3)]) (st' := [.int x3]) (h' := hs σ) [(.iload_n 3, 1, 3, 0, 0, 0, 0, 0)] (by decide +kernel) rfl rfl ?_
    exact XA.ret (some (.int x3)) rfl (show ckRt mX11_write 78 .ireturn = true by decide +kernel) trivial (Nat.le_of_ble_eq_true rfl) (Nat.le_of_ble_eq_true rfl) ⟨_, _, rfl, rfl, H⟩
  · have H := H.2 c1
    refine XA.blk (e9 := 51) (ok := true) (ls' := [some (.ref 136), some (.int x1), some (.int x2), some (.int x3)]) (st' := [.int 10, .int x3]) (h' := hs σ) [(.iload_n 3, 1, 3, 0, 0, 0, 0, 0), (.bipush 10, 2, 0, 0, 0, 0, 10, 0)] (by decide +kernel) rfl rfl ?_
    refine XA.icmp_ge (26) 77 (by decide +kernel) (fun c2 => ?_) (fun c2 => ?_)
    · have H := H.1 c2
      refine XA.blk (e9 := 78) (ok := true) (ls' := [some (.ref 136), some (.int x1), some (.int x2), some (.int x3)]) (st' := [.int x3]) (h' := hs σ) [(.iload_n 3, 1, 3, 0, 0, 0, 0, 0)] (by decide +kernel) rfl rfl ?_
      exact XA.ret (some (.int x3)) rfl (show ckRt mX11_write 78 .ireturn = true by decide +kernel) trivial (Nat.le_of_ble_eq_true rfl) (Nat.le_of_ble_eq_true rfl) ⟨_, _, rfl, rfl, H⟩
    · have H := H.2 c2
      obtain ⟨o2, H⟩ := H
      refine XA.blk (e9 := 68) (ok := inB ((10 * x1) + x3) 240 && (true)) (ls' := [some (.ref 136), some (.int x1), some (.int x2), some (.int x3)]) (st' := [.int (σ 157 (Int32.toNatClampNeg ((10 * x1) + x3))), .int x3, .int x2, .ref 136]) (h' := hs σ) [(.aload_n 0, 1, 0, 0, 0, 0, 0, 0), (.iload_n 2, 1, 2, 0, 0, 0, 0, 0), (.iload_n 3, 1, 3, 0, 0, 0, 0, 0), (.aload_n 0, 1, 0, 0, 0, 0, 0, 0), (.getfield 70, 3, 11, 35, 22, 928, 0, 0), (.bipush 10, 2, 0, 0, 0, 0, 10, 0), (.iload_n 1, 1, 1, 0, 0, 0, 0, 0), (.imul, 1, 0, 0, 0, 0, 0, 0), (.iload_n 3, 1, 3, 0, 0, 0, 0, 0), (.iadd, 1, 0, 0, 0, 0, 0, 0), (.iaload, 1, 0, 0, 0, 0, 0, 0)] (by decide +kernel) rfl (by simp only [o2, Bool.and_true, Bool.true_and]) ?_
      refine XA.callV (as := [.int x2, .int x3, .int (σ 157 (Int32.toNatClampNeg ((10 * x1) + x3)))]) (rest := []) (mc' := 0) (ms' := 0) (idx := 348) (t := 1378) cv_X11_keep (by decide +kernel) rfl rfl rfl (Nat.le_of_ble_eq_true rfl) (Nat.le_of_ble_eq_true rfl) (Nat.le_of_ble_eq_true rfl) (Nat.le_of_ble_eq_true rfl) (H) (fun rv h' hp => ?_)
      obtain ⟨s9, rfl, rfl, hK⟩ := hp
      exact ⟨rfl, rfl, hK⟩
set_option maxRecDepth 20000 in
theorem W_X11_write_71 {scr : ScA}   {x1 : Int32} {x2 : Int32} {x3 : Int32}  {σ : Nat → Nat → Int32} {P : Int32 → (Nat → Nat → Int32) → Prop} (H : K_X11_write_38 scr x1 x2 (x3 + 1) σ P) : K_X11_write_71 scr x1 x2 x3 σ P := by
  show XA scr 7 mX11_write 172 4705 71 [some (.ref 136), some (.int x1), some (.int x2), some (.int x3)] [] (hs σ) (pI P)
  refine XA.blk (e9 := 38) (ok := true) (ls' := [some (.ref 136), some (.int x1), some (.int x2), some (.int (x3 + 1))]) (st' := []) (h' := hs σ) [(.iinc 3 1, 3, 3, 0, 0, 0, 1, 0), (.goto (-36), 3, 38, 0, 0, 0, 0, 0)] (by decide +kernel) rfl rfl ?_
  exact H
theorem E_X11_write {scr : ScA}  {x1 : Int32} {x2 : Int32} {σ : Nat → Nat → Int32} {P : Int32 → (Nat → Nat → Int32) → Prop} (h : K_X11_write_0 scr x1 x2 σ P) : CiA scr 7 mX11_write [.ref 136, .int x1, .int x2] σ P := CtA.of (by decide) (Nat.le_of_ble_eq_true rfl) (XA.drop (by simp [leL, enL]) h)
def K_X11_acrobatsOf_0 (scr : ScA)   (σ : Nat → Nat → Int32) (P : Int32 → (Nat → Nat → Int32) → Prop) : Prop := XA scr 5 mX11_acrobatsOf 172 4705 0 [some (.ref 136)] [] (hs σ) (pI P)
def K_X11_acrobatsOf_4 (scr : ScA)   (σ : Nat → Nat → Int32) (P : Int32 → (Nat → Nat → Int32) → Prop) : Prop := XA scr 5 mX11_acrobatsOf 172 4705 4 [some (.ref 136)] [] (hs σ) (pI P)
set_option maxRecDepth 20000 in
theorem W_X11_acrobatsOf_0 {scr : ScA}     {σ : Nat → Nat → Int32} {P : Int32 → (Nat → Nat → Int32) → Prop} (H : CvA scr 4 mX11_reads [.ref 136] σ (fun σ' => K_X11_acrobatsOf_4 scr σ' P)) : K_X11_acrobatsOf_0 scr σ P := by
  show XA scr 5 mX11_acrobatsOf 172 4705 0 [some (.ref 136)] [] (hs σ) (pI P)
  refine XA.blk (e9 := 1) (ok := true) (ls' := [some (.ref 136)]) (st' := [.ref 136]) (h' := hs σ) [(.aload_n 0, 1, 0, 0, 0, 0, 0, 0)] (by decide +kernel) rfl rfl ?_
  refine XA.callV (as := []) (rest := []) (mc' := 0) (ms' := 0) (idx := 152) (t := 1106) cv_X11_reads (by decide +kernel) rfl rfl rfl (Nat.le_of_ble_eq_true rfl) (Nat.le_of_ble_eq_true rfl) (Nat.le_of_ble_eq_true rfl) (Nat.le_of_ble_eq_true rfl) (H) (fun rv h' hp => ?_)
  obtain ⟨s9, rfl, rfl, hK⟩ := hp
  exact ⟨rfl, rfl, hK⟩
set_option maxRecDepth 20000 in
theorem W_X11_acrobatsOf_4 {scr : ScA}     {σ : Nat → Nat → Int32} {P : Int32 → (Nat → Nat → Int32) → Prop} (H : P (σ 136 2) σ) : K_X11_acrobatsOf_4 scr σ P := by
  show XA scr 5 mX11_acrobatsOf 172 4705 4 [some (.ref 136)] [] (hs σ) (pI P)
  refine XA.blk (e9 := 8) (ok := true) (ls' := [some (.ref 136)]) (st' := [.int (σ 136 2)]) (h' := hs σ) [(.aload_n 0, 1, 0, 0, 0, 0, 0, 0), (.getfield 141, 3, 11, 2, 0, 895, 0, 0)] (by decide +kernel) rfl rfl ?_
  exact XA.ret (some (.int (σ 136 2))) rfl (show ckRt mX11_acrobatsOf 8 .ireturn = true by decide +kernel) trivial (Nat.le_of_ble_eq_true rfl) (Nat.le_of_ble_eq_true rfl) ⟨_, _, rfl, rfl, H⟩
theorem E_X11_acrobatsOf {scr : ScA}   {σ : Nat → Nat → Int32} {P : Int32 → (Nat → Nat → Int32) → Prop} (h : K_X11_acrobatsOf_0 scr σ P) : CiA scr 5 mX11_acrobatsOf [.ref 136] σ P := CtA.of (by decide) (Nat.le_of_ble_eq_true rfl) (XA.drop (by simp [leL, enL]) h)
def K_X11_count_0 (scr : ScA)  (x1 : Int32) (σ : Nat → Nat → Int32) (P : Int32 → (Nat → Nat → Int32) → Prop) : Prop := XA scr 8 mX11_count 172 4705 0 [some (.ref 136), some (.int x1)] [] (hs σ) (pI P)
def K_X11_count_56 (scr : ScA)  (y0 : Int32) (σ : Nat → Nat → Int32) (P : Int32 → (Nat → Nat → Int32) → Prop) : Prop := XA scr 8 mX11_count 172 4705 56 [none, none] [.int y0] (hs σ) (pI P)
def K_X11_count_72 (scr : ScA)  (y0 : Int32) (σ : Nat → Nat → Int32) (P : Int32 → (Nat → Nat → Int32) → Prop) : Prop := XA scr 8 mX11_count 172 4705 72 [none, none] [.int y0] (hs σ) (pI P)
def K_X11_count_78 (scr : ScA)  (y0 : Int32) (σ : Nat → Nat → Int32) (P : Int32 → (Nat → Nat → Int32) → Prop) : Prop := XA scr 8 mX11_count 172 4705 78 [none, none] [.int y0] (hs σ) (pI P)
def K_X11_count_86 (scr : ScA)  (y0 : Int32) (σ : Nat → Nat → Int32) (P : Int32 → (Nat → Nat → Int32) → Prop) : Prop := XA scr 8 mX11_count 172 4705 86 [none, none] [.int y0] (hs σ) (pI P)
def K_X11_count_94 (scr : ScA)  (y0 : Int32) (σ : Nat → Nat → Int32) (P : Int32 → (Nat → Nat → Int32) → Prop) : Prop := XA scr 8 mX11_count 172 4705 94 [none, none] [.int y0] (hs σ) (pI P)
set_option maxRecDepth 20000 in
theorem W_X11_count_0 {scr : ScA}   {x1 : Int32}  {σ : Nat → Nat → Int32} {P : Int32 → (Nat → Nat → Int32) → Prop} (H : (x1 = 0 → CiA scr 5 mX11_acrobatsOf [.ref 136] σ (fun r9 σ' => K_X11_count_56 scr r9 σ' P)) ∧ (x1 = 1 → P (σ 136 0) σ) ∧ (x1 = 2 → P (σ 136 8) σ) ∧ (x1 = 3 → CiA scr 7 mX11_sumOf [.ref 136, .int 0] σ (fun r9 σ' => K_X11_count_72 scr r9 σ' P)) ∧ (x1 = 4 → CiA scr 7 mX11_sumOf [.ref 136, .int 1] σ (fun r9 σ' => K_X11_count_78 scr r9 σ' P)) ∧ (x1 = 5 → CiA scr 7 mX11_towerOf [.ref 136, .int 23, .int 0] σ (fun r9 σ' => K_X11_count_86 scr r9 σ' P)) ∧ (x1 = 6 → CiA scr 7 mX11_towerOf [.ref 136, .int 23, .int 1] σ (fun r9 σ' => K_X11_count_94 scr r9 σ' P)) ∧ (x1 = 7 → P (σ 136 43) σ) ∧ (x1 = 8 → P (σ 136 53) σ) ∧ (¬ x1 = 0 → ¬ x1 = 1 → ¬ x1 = 2 → ¬ x1 = 3 → ¬ x1 = 4 → ¬ x1 = 5 → ¬ x1 = 6 → ¬ x1 = 7 → ¬ x1 = 8 → P (-2) σ)) : K_X11_count_0 scr x1 σ P := by
  show XA scr 8 mX11_count 172 4705 0 [some (.ref 136), some (.int x1)] [] (hs σ) (pI P)
  refine XA.blk (e9 := 1) (ok := true) (ls' := [some (.ref 136), some (.int x1)]) (st' := [.int x1]) (h' := hs σ) [(.iload_n 1, 1, 1, 0, 0, 0, 0, 0)] (by decide +kernel) rfl rfl ?_
  refine XA.tsw (104) (0) (8) [51, 56, 61, 66, 72, 78, 86, 94, 99] 51 [(0, 52), (1, 57), (2, 62), (3, 67), (4, 73), (5, 79), (6, 87), (7, 95), (8, 100)] 105 (by decide +kernel) (fun q9 hq9 e9 => ?_) (fun e9 => ?_)
  · simp only [List.mem_cons, List.not_mem_nil, or_false] at hq9
    rcases hq9 with rfl | rfl | rfl | rfl | rfl | rfl | rfl | rfl | rfl
    · have H := H.1 e9
      refine XA.blk (e9 := 53) (ok := true) (ls' := [some (.ref 136), some (.int x1)]) (st' := [.ref 136]) (h' := hs σ) [(.aload_n 0, 1, 0, 0, 0, 0, 0, 0)] (by decide +kernel) rfl rfl ?_
      refine XA.callV (as := []) (rest := []) (mc' := 0) (ms' := 0) (idx := 353) (t := 1399) cv_X11_acrobatsOf (by decide +kernel) rfl rfl rfl (Nat.le_of_ble_eq_true rfl) (Nat.le_of_ble_eq_true rfl) (Nat.le_of_ble_eq_true rfl) (Nat.le_of_ble_eq_true rfl) (H) (fun rv h' hp => ?_)
      obtain ⟨r9, s9, rfl, rfl, hK⟩ := hp
      exact ⟨rfl, rfl, XA.drop (by simp [leL]) hK⟩
    · have H := H.2.1 e9
      refine XA.blk (e9 := 61) (ok := true) (ls' := [some (.ref 136), some (.int x1)]) (st' := [.int (σ 136 0)]) (h' := hs σ) [(.aload_n 0, 1, 0, 0, 0, 0, 0, 0), (.getfield 122, 3, 11, 0, 0, 893, 0, 0)] (by decide +kernel) rfl rfl ?_
      exact XA.ret (some (.int (σ 136 0))) rfl (show ckRt mX11_count 61 .ireturn = true by decide +kernel) trivial (Nat.le_of_ble_eq_true rfl) (Nat.le_of_ble_eq_true rfl) ⟨_, _, rfl, rfl, H⟩
    · have H := H.2.2.1 e9
      refine XA.blk (e9 := 66) (ok := true) (ls' := [some (.ref 136), some (.int x1)]) (st' := [.int (σ 136 8)]) (h' := hs σ) [(.aload_n 0, 1, 0, 0, 0, 0, 0, 0), (.getfield 164, 3, 11, 8, 0, 901, 0, 0)] (by decide +kernel) rfl rfl ?_
      exact XA.ret (some (.int (σ 136 8))) rfl (show ckRt mX11_count 66 .ireturn = true by decide +kernel) trivial (Nat.le_of_ble_eq_true rfl) (Nat.le_of_ble_eq_true rfl) ⟨_, _, rfl, rfl, H⟩
    · have H := H.2.2.2.1 e9
      refine XA.blk (e9 := 69) (ok := true) (ls' := [some (.ref 136), some (.int x1)]) (st' := [.int 0, .ref 136]) (h' := hs σ) [(.aload_n 0, 1, 0, 0, 0, 0, 0, 0), (.iconst 0, 1, 0, 0, 0, 0, 0, 0)] (by decide +kernel) rfl rfl ?_
      refine XA.callV (as := [.int 0]) (rest := []) (mc' := 0) (ms' := 0) (idx := 262) (t := 1214) cv_X11_sumOf (by decide +kernel) rfl rfl rfl (Nat.le_of_ble_eq_true rfl) (Nat.le_of_ble_eq_true rfl) (Nat.le_of_ble_eq_true rfl) (Nat.le_of_ble_eq_true rfl) (H) (fun rv h' hp => ?_)
      obtain ⟨r9, s9, rfl, rfl, hK⟩ := hp
      exact ⟨rfl, rfl, XA.drop (by simp [leL]) hK⟩
    · have H := H.2.2.2.2.1 e9
      refine XA.blk (e9 := 75) (ok := true) (ls' := [some (.ref 136), some (.int x1)]) (st' := [.int 1, .ref 136]) (h' := hs σ) [(.aload_n 0, 1, 0, 0, 0, 0, 0, 0), (.iconst 1, 1, 0, 0, 0, 0, 1, 0)] (by decide +kernel) rfl rfl ?_
      refine XA.callV (as := [.int 1]) (rest := []) (mc' := 0) (ms' := 0) (idx := 262) (t := 1214) cv_X11_sumOf (by decide +kernel) rfl rfl rfl (Nat.le_of_ble_eq_true rfl) (Nat.le_of_ble_eq_true rfl) (Nat.le_of_ble_eq_true rfl) (Nat.le_of_ble_eq_true rfl) (H) (fun rv h' hp => ?_)
      obtain ⟨r9, s9, rfl, rfl, hK⟩ := hp
      exact ⟨rfl, rfl, XA.drop (by simp [leL]) hK⟩
    · have H := H.2.2.2.2.2.1 e9
      refine XA.blk (e9 := 83) (ok := true) (ls' := [some (.ref 136), some (.int x1)]) (st' := [.int 0, .int 23, .ref 136]) (h' := hs σ) [(.aload_n 0, 1, 0, 0, 0, 0, 0, 0), (.bipush 23, 2, 0, 0, 0, 0, 23, 0), (.iconst 0, 1, 0, 0, 0, 0, 0, 0)] (by decide +kernel) rfl rfl ?_
      refine XA.callV (as := [.int 23, .int 0]) (rest := []) (mc' := 0) (ms' := 0) (idx := 259) (t := 1206) cv_X11_towerOf (by decide +kernel) rfl rfl rfl (Nat.le_of_ble_eq_true rfl) (Nat.le_of_ble_eq_true rfl) (Nat.le_of_ble_eq_true rfl) (Nat.le_of_ble_eq_true rfl) (H) (fun rv h' hp => ?_)
      obtain ⟨r9, s9, rfl, rfl, hK⟩ := hp
      exact ⟨rfl, rfl, XA.drop (by simp [leL]) hK⟩
    · have H := H.2.2.2.2.2.2.1 e9
      refine XA.blk (e9 := 91) (ok := true) (ls' := [some (.ref 136), some (.int x1)]) (st' := [.int 1, .int 23, .ref 136]) (h' := hs σ) [(.aload_n 0, 1, 0, 0, 0, 0, 0, 0), (.bipush 23, 2, 0, 0, 0, 0, 23, 0), (.iconst 1, 1, 0, 0, 0, 0, 1, 0)] (by decide +kernel) rfl rfl ?_
      refine XA.callV (as := [.int 23, .int 1]) (rest := []) (mc' := 0) (ms' := 0) (idx := 259) (t := 1206) cv_X11_towerOf (by decide +kernel) rfl rfl rfl (Nat.le_of_ble_eq_true rfl) (Nat.le_of_ble_eq_true rfl) (Nat.le_of_ble_eq_true rfl) (Nat.le_of_ble_eq_true rfl) (H) (fun rv h' hp => ?_)
      obtain ⟨r9, s9, rfl, rfl, hK⟩ := hp
      exact ⟨rfl, rfl, XA.drop (by simp [leL]) hK⟩
    · have H := H.2.2.2.2.2.2.2.1 e9
      refine XA.blk (e9 := 99) (ok := true) (ls' := [some (.ref 136), some (.int x1)]) (st' := [.int (σ 136 43)]) (h' := hs σ) [(.aload_n 0, 1, 0, 0, 0, 0, 0, 0), (.getfield 307, 3, 11, 43, 0, 936, 0, 0)] (by decide +kernel) rfl rfl ?_
      exact XA.ret (some (.int (σ 136 43))) rfl (show ckRt mX11_count 99 .ireturn = true by decide +kernel) trivial (Nat.le_of_ble_eq_true rfl) (Nat.le_of_ble_eq_true rfl) ⟨_, _, rfl, rfl, H⟩
    · have H := H.2.2.2.2.2.2.2.2.1 e9
      refine XA.blk (e9 := 104) (ok := true) (ls' := [some (.ref 136), some (.int x1)]) (st' := [.int (σ 136 53)]) (h' := hs σ) [(.aload_n 0, 1, 0, 0, 0, 0, 0, 0), (.getfield 342, 3, 11, 53, 0, 946, 0, 0)] (by decide +kernel) rfl rfl ?_
      exact XA.ret (some (.int (σ 136 53))) rfl (show ckRt mX11_count 104 .ireturn = true by decide +kernel) trivial (Nat.le_of_ble_eq_true rfl) (Nat.le_of_ble_eq_true rfl) ⟨_, _, rfl, rfl, H⟩
  · have H := H.2.2.2.2.2.2.2.2.2 (e9 (0, 52) (by simp)) (e9 (1, 57) (by simp)) (e9 (2, 62) (by simp)) (e9 (3, 67) (by simp)) (e9 (4, 73) (by simp)) (e9 (5, 79) (by simp)) (e9 (6, 87) (by simp)) (e9 (7, 95) (by simp)) (e9 (8, 100) (by simp))
    refine XA.blk (e9 := 107) (ok := true) (ls' := [some (.ref 136), some (.int x1)]) (st' := [.int (-2)]) (h' := hs σ) [(.bipush (-2), 2, 0, 0, 0, 0, (-2), 0)] (by decide +kernel) rfl rfl ?_
    exact XA.ret (some (.int (-2))) rfl (show ckRt mX11_count 107 .ireturn = true by decide +kernel) trivial (Nat.le_of_ble_eq_true rfl) (Nat.le_of_ble_eq_true rfl) ⟨_, _, rfl, rfl, H⟩
set_option maxRecDepth 20000 in
theorem W_X11_count_56 {scr : ScA}   {y0 : Int32}  {σ : Nat → Nat → Int32} {P : Int32 → (Nat → Nat → Int32) → Prop} (H : P y0 σ) : K_X11_count_56 scr y0 σ P := by
  show XA scr 8 mX11_count 172 4705 56 [none, none] [.int y0] (hs σ) (pI P)
  exact XA.ret (some (.int y0)) rfl (show ckRt mX11_count 56 .ireturn = true by decide +kernel) trivial (Nat.le_of_ble_eq_true rfl) (Nat.le_of_ble_eq_true rfl) ⟨_, _, rfl, rfl, H⟩
set_option maxRecDepth 20000 in
theorem W_X11_count_72 {scr : ScA}   {y0 : Int32}  {σ : Nat → Nat → Int32} {P : Int32 → (Nat → Nat → Int32) → Prop} (H : P y0 σ) : K_X11_count_72 scr y0 σ P := by
  show XA scr 8 mX11_count 172 4705 72 [none, none] [.int y0] (hs σ) (pI P)
  exact XA.ret (some (.int y0)) rfl (show ckRt mX11_count 72 .ireturn = true by decide +kernel) trivial (Nat.le_of_ble_eq_true rfl) (Nat.le_of_ble_eq_true rfl) ⟨_, _, rfl, rfl, H⟩
set_option maxRecDepth 20000 in
theorem W_X11_count_78 {scr : ScA}   {y0 : Int32}  {σ : Nat → Nat → Int32} {P : Int32 → (Nat → Nat → Int32) → Prop} (H : P y0 σ) : K_X11_count_78 scr y0 σ P := by
  show XA scr 8 mX11_count 172 4705 78 [none, none] [.int y0] (hs σ) (pI P)
  exact XA.ret (some (.int y0)) rfl (show ckRt mX11_count 78 .ireturn = true by decide +kernel) trivial (Nat.le_of_ble_eq_true rfl) (Nat.le_of_ble_eq_true rfl) ⟨_, _, rfl, rfl, H⟩
set_option maxRecDepth 20000 in
theorem W_X11_count_86 {scr : ScA}   {y0 : Int32}  {σ : Nat → Nat → Int32} {P : Int32 → (Nat → Nat → Int32) → Prop} (H : P y0 σ) : K_X11_count_86 scr y0 σ P := by
  show XA scr 8 mX11_count 172 4705 86 [none, none] [.int y0] (hs σ) (pI P)
  exact XA.ret (some (.int y0)) rfl (show ckRt mX11_count 86 .ireturn = true by decide +kernel) trivial (Nat.le_of_ble_eq_true rfl) (Nat.le_of_ble_eq_true rfl) ⟨_, _, rfl, rfl, H⟩
set_option maxRecDepth 20000 in
theorem W_X11_count_94 {scr : ScA}   {y0 : Int32}  {σ : Nat → Nat → Int32} {P : Int32 → (Nat → Nat → Int32) → Prop} (H : P y0 σ) : K_X11_count_94 scr y0 σ P := by
  show XA scr 8 mX11_count 172 4705 94 [none, none] [.int y0] (hs σ) (pI P)
  exact XA.ret (some (.int y0)) rfl (show ckRt mX11_count 94 .ireturn = true by decide +kernel) trivial (Nat.le_of_ble_eq_true rfl) (Nat.le_of_ble_eq_true rfl) ⟨_, _, rfl, rfl, H⟩
theorem E_X11_count {scr : ScA}  {x1 : Int32} {σ : Nat → Nat → Int32} {P : Int32 → (Nat → Nat → Int32) → Prop} (h : K_X11_count_0 scr x1 σ P) : CiA scr 8 mX11_count [.ref 136, .int x1] σ P := CtA.of (by decide) (Nat.le_of_ble_eq_true rfl) (XA.drop (by simp [leL, enL]) h)
def K_X11_atDigest_0 (scr : ScA)  (x1 : Int64) (x3 : Int32) (x4 : Int32) (σ : Nat → Nat → Int32) (P : Int64 → (Nat → Nat → Int32) → Prop) : Prop := XA scr 8 mX11_atDigest 172 4705 0 [some (.ref 136), some (.long x1), none, some (.int x3), some (.int x4), none, none, none] [] (hs σ) (pJ P)
def K_X11_atDigest_6 (scr : ScA)  (x3 : Int32) (x4 : Int32) (x5 : Int64) (x7 : Int32) (σ : Nat → Nat → Int32) (P : Int64 → (Nat → Nat → Int32) → Prop) : Prop := XA scr 8 mX11_atDigest 172 4705 6 [some (.ref 136), none, none, some (.int x3), some (.int x4), some (.long x5), none, some (.int x7)] [] (hs σ) (pJ P)
def K_X11_atDigest_27 (scr : ScA)  (x3 : Int32) (x4 : Int32) (x7 : Int32) (y0 : Int64) (y1 : Int32) (σ : Nat → Nat → Int32) (P : Int64 → (Nat → Nat → Int32) → Prop) : Prop := XA scr 8 mX11_atDigest 172 4705 27 [some (.ref 136), none, none, some (.int x3), some (.int x4), none, none, some (.int x7)] [.int y1, .long y0] (hs σ) (pJ P)
set_option maxRecDepth 20000 in
theorem W_X11_atDigest_0 {scr : ScA}   {x1 : Int64} {x3 : Int32} {x4 : Int32}  {σ : Nat → Nat → Int32} {P : Int64 → (Nat → Nat → Int32) → Prop} (H : K_X11_atDigest_6 scr x3 x4 x1 0 σ P) : K_X11_atDigest_0 scr x1 x3 x4 σ P := by
  show XA scr 8 mX11_atDigest 172 4705 0 [some (.ref 136), some (.long x1), none, some (.int x3), some (.int x4), none, none, none] [] (hs σ) (pJ P)
  refine XA.blk (e9 := 6) (ok := true) (ls' := [some (.ref 136), some (.long x1), none, some (.int x3), some (.int x4), some (.long x1), none, some (.int 0)]) (st' := []) (h' := hs σ) [(.lload_n 1, 1, 1, 0, 0, 0, 0, 0), (.lstore 5, 2, 5, 0, 0, 0, 0, 0), (.iconst 0, 1, 0, 0, 0, 0, 0, 0), (.istore 7, 2, 7, 0, 0, 0, 0, 0)] (by decide +kernel) rfl rfl ?_
  exact XA.drop (by simp [leL]) H
set_option maxRecDepth 20000 in
theorem W_X11_atDigest_6 {scr : ScA}   {x3 : Int32} {x4 : Int32} {x5 : Int64} {x7 : Int32}  {σ : Nat → Nat → Int32} {P : Int64 → (Nat → Nat → Int32) → Prop} (H : (4 ≤ x7 → P x5 σ) ∧ (¬ 4 ≤ x7 → CiA scr 7 mX11_atOf [.ref 136, .int x3, .int x4, .int x7] σ (fun r9 σ' => K_X11_atDigest_27 scr x3 x4 x7 (31 * x5) r9 σ' P))) : K_X11_atDigest_6 scr x3 x4 x5 x7 σ P := by
  show XA scr 8 mX11_atDigest 172 4705 6 [some (.ref 136), none, none, some (.int x3), some (.int x4), some (.long x5), none, some (.int x7)] [] (hs σ) (pJ P)
  refine XA.blk (e9 := 9) (ok := true) (ls' := [some (.ref 136), none, none, some (.int x3), some (.int x4), some (.long x5), none, some (.int x7)]) (st' := [.int 4, .int x7]) (h' := hs σ) [(.iload 7, 2, 7, 0, 0, 0, 0, 0), (.iconst 4, 1, 0, 0, 0, 0, 4, 0)] (by decide +kernel) rfl rfl ?_
  refine XA.icmp_ge (28) 37 (by decide +kernel) (fun c1 => ?_) (fun c1 => ?_)
  · have H := H.1 c1
    refine XA.blk (e9 := 39) (ok := true) (ls' := [some (.ref 136), none, none, some (.int x3), some (.int x4), some (.long x5), none, some (.int x7)]) (st' := [.long x5]) (h' := hs σ) [(.lload 5, 2, 5, 0, 0, 0, 0, 0)] (by decide +kernel) rfl rfl ?_
    exact XA.ret (some (.long x5)) rfl (show ckRt mX11_atDigest 39 .lreturn = true by decide +kernel) trivial (Nat.le_of_ble_eq_true rfl) (Nat.le_of_ble_eq_true rfl) ⟨_, _, rfl, rfl, H⟩
  · have H := H.2 c1
    refine XA.blk (e9 := 24) (ok := true) (ls' := [some (.ref 136), none, none, some (.int x3), some (.int x4), some (.long x5), none, some (.int x7)]) (st' := [.int x7, .int x4, .int x3, .ref 136, .long (31 * x5)]) (h' := hs σ) [(.ldc2_w 356, 3, 0, 0, 0, 1408, 0, 31), (.lload 5, 2, 5, 0, 0, 0, 0, 0), (.lmul, 1, 0, 0, 0, 0, 0, 0), (.aload_n 0, 1, 0, 0, 0, 0, 0, 0), (.iload_n 3, 1, 3, 0, 0, 0, 0, 0), (.iload 4, 2, 4, 0, 0, 0, 0, 0), (.iload 7, 2, 7, 0, 0, 0, 0, 0)] (by decide +kernel) rfl rfl ?_
    refine XA.callV (as := [.int x3, .int x4, .int x7]) (rest := [.long (31 * x5)]) (mc' := 0) (ms' := 0) (idx := 250) (t := 1141) cv_X11_atOf (by decide +kernel) rfl rfl rfl (Nat.le_of_ble_eq_true rfl) (Nat.le_of_ble_eq_true rfl) (Nat.le_of_ble_eq_true rfl) (Nat.le_of_ble_eq_true rfl) (H) (fun rv h' hp => ?_)
    obtain ⟨r9, s9, rfl, rfl, hK⟩ := hp
    exact ⟨rfl, rfl, XA.drop (by simp [leL]) hK⟩
set_option maxRecDepth 20000 in
theorem W_X11_atDigest_27 {scr : ScA}   {x3 : Int32} {x4 : Int32} {x7 : Int32} {y0 : Int64} {y1 : Int32}  {σ : Nat → Nat → Int32} {P : Int64 → (Nat → Nat → Int32) → Prop} (H : K_X11_atDigest_6 scr x3 x4 (y0 + (Int32.toInt64 y1)) (x7 + 1) σ P) : K_X11_atDigest_27 scr x3 x4 x7 y0 y1 σ P := by
  show XA scr 8 mX11_atDigest 172 4705 27 [some (.ref 136), none, none, some (.int x3), some (.int x4), none, none, some (.int x7)] [.int y1, .long y0] (hs σ) (pJ P)
  refine XA.blk (e9 := 6) (ok := true) (ls' := [some (.ref 136), none, none, some (.int x3), some (.int x4), some (.long (y0 + (Int32.toInt64 y1))), none, some (.int (x7 + 1))]) (st' := []) (h' := hs σ) [(.i2l, 1, 0, 0, 0, 0, 0, 0), (.ladd, 1, 0, 0, 0, 0, 0, 0), (.lstore 5, 2, 5, 0, 0, 0, 0, 0), (.iinc 7 1, 3, 7, 0, 0, 0, 1, 0), (.goto (-28), 3, 6, 0, 0, 0, 0, 0)] (by decide +kernel) rfl rfl ?_
  exact H
theorem E_X11_atDigest {scr : ScA}  {x1 : Int64} {x3 : Int32} {x4 : Int32} {σ : Nat → Nat → Int32} {P : Int64 → (Nat → Nat → Int32) → Prop} (h : K_X11_atDigest_0 scr x1 x3 x4 σ P) : ClA scr 8 mX11_atDigest [.ref 136, .long x1, .int x3, .int x4] σ P := CtA.of (by decide) (Nat.le_of_ble_eq_true rfl) (XA.drop (by simp [leL, enL]) h)
def K_X11_acrobatDigest_0 (scr : ScA)  (x1 : Int64) (x3 : Int32) (σ : Nat → Nat → Int32) (P : Int64 → (Nat → Nat → Int32) → Prop) : Prop := XA scr 9 mX11_acrobatDigest 172 4705 0 [some (.ref 136), some (.long x1), none, some (.int x3), none, none, none] [] (hs σ) (pJ P)
def K_X11_acrobatDigest_6 (scr : ScA)  (x3 : Int32) (x4 : Int64) (x6 : Int32) (σ : Nat → Nat → Int32) (P : Int64 → (Nat → Nat → Int32) → Prop) : Prop := XA scr 9 mX11_acrobatDigest 172 4705 6 [some (.ref 136), none, none, some (.int x3), some (.long x4), none, some (.int x6)] [] (hs σ) (pJ P)
def K_X11_acrobatDigest_43 (scr : ScA)  (x3 : Int32) (y0 : Int64) (σ : Nat → Nat → Int32) (P : Int64 → (Nat → Nat → Int32) → Prop) : Prop := XA scr 9 mX11_acrobatDigest 172 4705 43 [some (.ref 136), none, none, some (.int x3), none, none, none] [.long y0] (hs σ) (pJ P)
def K_X11_acrobatDigest_53 (scr : ScA)  (x3 : Int32) (y0 : Int64) (σ : Nat → Nat → Int32) (P : Int64 → (Nat → Nat → Int32) → Prop) : Prop := XA scr 9 mX11_acrobatDigest 172 4705 53 [some (.ref 136), none, none, some (.int x3), none, none, none] [.long y0] (hs σ) (pJ P)
def K_X11_acrobatDigest_64 (scr : ScA)  (x3 : Int32) (y0 : Int64) (σ : Nat → Nat → Int32) (P : Int64 → (Nat → Nat → Int32) → Prop) : Prop := XA scr 9 mX11_acrobatDigest 172 4705 64 [some (.ref 136), none, none, some (.int x3), none, none, none] [.long y0] (hs σ) (pJ P)
def K_X11_acrobatDigest_75 (scr : ScA)  (x3 : Int32) (y0 : Int64) (σ : Nat → Nat → Int32) (P : Int64 → (Nat → Nat → Int32) → Prop) : Prop := XA scr 9 mX11_acrobatDigest 172 4705 75 [some (.ref 136), none, none, some (.int x3), none, none, none] [.long y0] (hs σ) (pJ P)
def K_X11_acrobatDigest_86 (scr : ScA)  (x3 : Int32) (y0 : Int64) (σ : Nat → Nat → Int32) (P : Int64 → (Nat → Nat → Int32) → Prop) : Prop := XA scr 9 mX11_acrobatDigest 172 4705 86 [some (.ref 136), none, none, some (.int x3), none, none, none] [.long y0] (hs σ) (pJ P)
def K_X11_acrobatDigest_100 (scr : ScA)  (x3 : Int32) (y0 : Int64) (y1 : Int32) (σ : Nat → Nat → Int32) (P : Int64 → (Nat → Nat → Int32) → Prop) : Prop := XA scr 9 mX11_acrobatDigest 172 4705 100 [some (.ref 136), none, none, some (.int x3), none, none, none] [.int y1, .long y0] (hs σ) (pJ P)
def K_X11_acrobatDigest_116 (scr : ScA)  (x3 : Int32) (y0 : Int64) (y1 : Int32) (σ : Nat → Nat → Int32) (P : Int64 → (Nat → Nat → Int32) → Prop) : Prop := XA scr 9 mX11_acrobatDigest 172 4705 116 [some (.ref 136), none, none, some (.int x3), none, none, none] [.int y1, .long y0] (hs σ) (pJ P)
def K_X11_acrobatDigest_131 (scr : ScA)  (x3 : Int32) (y0 : Int64) (y1 : Int32) (σ : Nat → Nat → Int32) (P : Int64 → (Nat → Nat → Int32) → Prop) : Prop := XA scr 9 mX11_acrobatDigest 172 4705 131 [some (.ref 136), none, none, some (.int x3), none, none, none] [.int y1, .long y0] (hs σ) (pJ P)
def K_X11_acrobatDigest_146 (scr : ScA)  (x3 : Int32) (y0 : Int64) (y1 : Int32) (σ : Nat → Nat → Int32) (P : Int64 → (Nat → Nat → Int32) → Prop) : Prop := XA scr 9 mX11_acrobatDigest 172 4705 146 [some (.ref 136), none, none, some (.int x3), none, none, none] [.int y1, .long y0] (hs σ) (pJ P)
def K_X11_acrobatDigest_161 (scr : ScA)  (y0 : Int64) (y1 : Int32) (σ : Nat → Nat → Int32) (P : Int64 → (Nat → Nat → Int32) → Prop) : Prop := XA scr 9 mX11_acrobatDigest 172 4705 161 [none, none, none, none, none, none, none] [.int y1, .long y0] (hs σ) (pJ P)
set_option maxRecDepth 20000 in
theorem W_X11_acrobatDigest_0 {scr : ScA}   {x1 : Int64} {x3 : Int32}  {σ : Nat → Nat → Int32} {P : Int64 → (Nat → Nat → Int32) → Prop} (H : K_X11_acrobatDigest_6 scr x3 x1 0 σ P) : K_X11_acrobatDigest_0 scr x1 x3 σ P := by
  show XA scr 9 mX11_acrobatDigest 172 4705 0 [some (.ref 136), some (.long x1), none, some (.int x3), none, none, none] [] (hs σ) (pJ P)
  refine XA.blk (e9 := 6) (ok := true) (ls' := [some (.ref 136), some (.long x1), none, some (.int x3), some (.long x1), none, some (.int 0)]) (st' := []) (h' := hs σ) [(.lload_n 1, 1, 1, 0, 0, 0, 0, 0), (.lstore 4, 2, 4, 0, 0, 0, 0, 0), (.iconst 0, 1, 0, 0, 0, 0, 0, 0), (.istore 6, 2, 6, 0, 0, 0, 0, 0)] (by decide +kernel) rfl rfl ?_
  exact XA.drop (by simp [leL]) H
set_option maxRecDepth 20000 in
theorem W_X11_acrobatDigest_6 {scr : ScA}   {x3 : Int32} {x4 : Int64} {x6 : Int32}  {σ : Nat → Nat → Int32} {P : Int64 → (Nat → Nat → Int32) → Prop} (H : (5 ≤ x6 → ClA scr 8 mX11_atDigest [.ref 136, .long x4, .int 0, .int x3] σ (fun r9 σ' => K_X11_acrobatDigest_43 scr x3 r9 σ' P)) ∧ (¬ 5 ≤ x6 → (inB x3 11 = true) ∧ (K_X11_acrobatDigest_6 scr x3 ((31 * x4) + (Int32.toInt64 (aoV σ x3 x6))) (x6 + 1) σ P))) : K_X11_acrobatDigest_6 scr x3 x4 x6 σ P := by
  show XA scr 9 mX11_acrobatDigest 172 4705 6 [some (.ref 136), none, none, some (.int x3), some (.long x4), none, some (.int x6)] [] (hs σ) (pJ P)
  refine XA.blk (e9 := 9) (ok := true) (ls' := [some (.ref 136), none, none, some (.int x3), some (.long x4), none, some (.int x6)]) (st' := [.int 5, .int x6]) (h' := hs σ) [(.iload 6, 2, 6, 0, 0, 0, 0, 0), (.iconst 5, 1, 0, 0, 0, 0, 5, 0)] (by decide +kernel) rfl rfl ?_
  refine XA.icmp_ge (26) 35 (by decide +kernel) (fun c1 => ?_) (fun c1 => ?_)
  · have H := H.1 c1
    refine XA.blk (e9 := 40) (ok := true) (ls' := [some (.ref 136), none, none, some (.int x3), some (.long x4), none, some (.int x6)]) (st' := [.int x3, .int 0, .long x4, .ref 136]) (h' := hs σ) [(.aload_n 0, 1, 0, 0, 0, 0, 0, 0), (.lload 4, 2, 4, 0, 0, 0, 0, 0), (.iconst 0, 1, 0, 0, 0, 0, 0, 0), (.iload_n 3, 1, 3, 0, 0, 0, 0, 0)] (by decide +kernel) rfl rfl ?_
    refine XA.callV (as := [.long x4, .int 0, .int x3]) (rest := []) (mc' := 0) (ms' := 0) (idx := 358) (t := 1414) cv_X11_atDigest (by decide +kernel) rfl rfl rfl (Nat.le_of_ble_eq_true rfl) (Nat.le_of_ble_eq_true rfl) (Nat.le_of_ble_eq_true rfl) (Nat.le_of_ble_eq_true rfl) (H) (fun rv h' hp => ?_)
    obtain ⟨r9, s9, rfl, rfl, hK⟩ := hp
    exact ⟨rfl, rfl, XA.drop (by simp [leL]) hK⟩
  · have H := H.2 c1
    refine XA.blk (e9 := 22) (ok := true) (ls' := [some (.ref 136), none, none, some (.int x3), some (.long x4), none, some (.int x6)]) (st' := [.int x6, .int x3, .ref 136, .long (31 * x4)]) (h' := hs σ) [(.ldc2_w 356, 3, 0, 0, 0, 1408, 0, 31), (.lload 4, 2, 4, 0, 0, 0, 0, 0), (.lmul, 1, 0, 0, 0, 0, 0, 0), (.aload_n 0, 1, 0, 0, 0, 0, 0, 0), (.iload_n 3, 1, 3, 0, 0, 0, 0, 0), (.iload 6, 2, 6, 0, 0, 0, 0, 0)] (by decide +kernel) rfl rfl ?_
    obtain ⟨o1, H⟩ := H
    refine XA.callV (as := [.int x3, .int x6]) (rest := [.long (31 * x4)]) (mc' := 0) (ms' := 0) (idx := 158) (t := 1110) cv_X11_acrobatOf (by decide +kernel) rfl rfl rfl (Nat.le_of_ble_eq_true rfl) (Nat.le_of_ble_eq_true rfl) (Nat.le_of_ble_eq_true rfl) (Nat.le_of_ble_eq_true rfl) (pu_X11_acrobatOf scr σ x3 x6 o1) (fun rv h' hp => ?_)
    obtain ⟨rfl, rfl⟩ := hp
    refine ⟨rfl, rfl, ?_⟩
    show XA scr 9 mX11_acrobatDigest 172 4705 25 [some (.ref 136), none, none, some (.int x3), some (.long x4), none, some (.int x6)] [.int (aoV σ x3 x6), .long (31 * x4)] (hs σ) (pJ P)
    refine XA.blk (e9 := 6) (ok := true) (ls' := [some (.ref 136), none, none, some (.int x3), some (.long ((31 * x4) + (Int32.toInt64 (aoV σ x3 x6)))), none, some (.int (x6 + 1))]) (st' := []) (h' := hs σ) [(.i2l, 1, 0, 0, 0, 0, 0, 0), (.ladd, 1, 0, 0, 0, 0, 0, 0), (.lstore 4, 2, 4, 0, 0, 0, 0, 0), (.iinc 6 1, 3, 6, 0, 0, 0, 1, 0), (.goto (-26), 3, 6, 0, 0, 0, 0, 0)] (by decide +kernel) rfl rfl ?_
    exact H
set_option maxRecDepth 20000 in
theorem W_X11_acrobatDigest_43 {scr : ScA}   {x3 : Int32} {y0 : Int64}  {σ : Nat → Nat → Int32} {P : Int64 → (Nat → Nat → Int32) → Prop} (H : ClA scr 8 mX11_atDigest [.ref 136, .long y0, .int 4, .int x3] σ (fun r9 σ' => K_X11_acrobatDigest_53 scr x3 r9 σ' P)) : K_X11_acrobatDigest_43 scr x3 y0 σ P := by
  show XA scr 9 mX11_acrobatDigest 172 4705 43 [some (.ref 136), none, none, some (.int x3), none, none, none] [.long y0] (hs σ) (pJ P)
  refine XA.blk (e9 := 50) (ok := true) (ls' := [some (.ref 136), none, none, some (.int x3), some (.long y0), none, none]) (st' := [.int x3, .int 4, .long y0, .ref 136]) (h' := hs σ) [(.lstore 4, 2, 4, 0, 0, 0, 0, 0), (.aload_n 0, 1, 0, 0, 0, 0, 0, 0), (.lload 4, 2, 4, 0, 0, 0, 0, 0), (.iconst 4, 1, 0, 0, 0, 0, 4, 0), (.iload_n 3, 1, 3, 0, 0, 0, 0, 0)] (by decide +kernel) rfl rfl ?_
  refine XA.callV (as := [.long y0, .int 4, .int x3]) (rest := []) (mc' := 0) (ms' := 0) (idx := 358) (t := 1414) cv_X11_atDigest (by decide +kernel) rfl rfl rfl (Nat.le_of_ble_eq_true rfl) (Nat.le_of_ble_eq_true rfl) (Nat.le_of_ble_eq_true rfl) (Nat.le_of_ble_eq_true rfl) (H) (fun rv h' hp => ?_)
  obtain ⟨r9, s9, rfl, rfl, hK⟩ := hp
  exact ⟨rfl, rfl, XA.drop (by simp [leL]) hK⟩
set_option maxRecDepth 20000 in
theorem W_X11_acrobatDigest_53 {scr : ScA}   {x3 : Int32} {y0 : Int64}  {σ : Nat → Nat → Int32} {P : Int64 → (Nat → Nat → Int32) → Prop} (H : ClA scr 8 mX11_atDigest [.ref 136, .long y0, .int 10, .int x3] σ (fun r9 σ' => K_X11_acrobatDigest_64 scr x3 r9 σ' P)) : K_X11_acrobatDigest_53 scr x3 y0 σ P := by
  show XA scr 9 mX11_acrobatDigest 172 4705 53 [some (.ref 136), none, none, some (.int x3), none, none, none] [.long y0] (hs σ) (pJ P)
  refine XA.blk (e9 := 61) (ok := true) (ls' := [some (.ref 136), none, none, some (.int x3), some (.long y0), none, none]) (st' := [.int x3, .int 10, .long y0, .ref 136]) (h' := hs σ) [(.lstore 4, 2, 4, 0, 0, 0, 0, 0), (.aload_n 0, 1, 0, 0, 0, 0, 0, 0), (.lload 4, 2, 4, 0, 0, 0, 0, 0), (.bipush 10, 2, 0, 0, 0, 0, 10, 0), (.iload_n 3, 1, 3, 0, 0, 0, 0, 0)] (by decide +kernel) rfl rfl ?_
  refine XA.callV (as := [.long y0, .int 10, .int x3]) (rest := []) (mc' := 0) (ms' := 0) (idx := 358) (t := 1414) cv_X11_atDigest (by decide +kernel) rfl rfl rfl (Nat.le_of_ble_eq_true rfl) (Nat.le_of_ble_eq_true rfl) (Nat.le_of_ble_eq_true rfl) (Nat.le_of_ble_eq_true rfl) (H) (fun rv h' hp => ?_)
  obtain ⟨r9, s9, rfl, rfl, hK⟩ := hp
  exact ⟨rfl, rfl, XA.drop (by simp [leL]) hK⟩
set_option maxRecDepth 20000 in
theorem W_X11_acrobatDigest_64 {scr : ScA}   {x3 : Int32} {y0 : Int64}  {σ : Nat → Nat → Int32} {P : Int64 → (Nat → Nat → Int32) → Prop} (H : ClA scr 8 mX11_atDigest [.ref 136, .long y0, .int 17, .int x3] σ (fun r9 σ' => K_X11_acrobatDigest_75 scr x3 r9 σ' P)) : K_X11_acrobatDigest_64 scr x3 y0 σ P := by
  show XA scr 9 mX11_acrobatDigest 172 4705 64 [some (.ref 136), none, none, some (.int x3), none, none, none] [.long y0] (hs σ) (pJ P)
  refine XA.blk (e9 := 72) (ok := true) (ls' := [some (.ref 136), none, none, some (.int x3), some (.long y0), none, none]) (st' := [.int x3, .int 17, .long y0, .ref 136]) (h' := hs σ) [(.lstore 4, 2, 4, 0, 0, 0, 0, 0), (.aload_n 0, 1, 0, 0, 0, 0, 0, 0), (.lload 4, 2, 4, 0, 0, 0, 0, 0), (.bipush 17, 2, 0, 0, 0, 0, 17, 0), (.iload_n 3, 1, 3, 0, 0, 0, 0, 0)] (by decide +kernel) rfl rfl ?_
  refine XA.callV (as := [.long y0, .int 17, .int x3]) (rest := []) (mc' := 0) (ms' := 0) (idx := 358) (t := 1414) cv_X11_atDigest (by decide +kernel) rfl rfl rfl (Nat.le_of_ble_eq_true rfl) (Nat.le_of_ble_eq_true rfl) (Nat.le_of_ble_eq_true rfl) (Nat.le_of_ble_eq_true rfl) (H) (fun rv h' hp => ?_)
  obtain ⟨r9, s9, rfl, rfl, hK⟩ := hp
  exact ⟨rfl, rfl, XA.drop (by simp [leL]) hK⟩
set_option maxRecDepth 20000 in
theorem W_X11_acrobatDigest_75 {scr : ScA}   {x3 : Int32} {y0 : Int64}  {σ : Nat → Nat → Int32} {P : Int64 → (Nat → Nat → Int32) → Prop} (H : ClA scr 8 mX11_atDigest [.ref 136, .long y0, .int 23, .int x3] σ (fun r9 σ' => K_X11_acrobatDigest_86 scr x3 r9 σ' P)) : K_X11_acrobatDigest_75 scr x3 y0 σ P := by
  show XA scr 9 mX11_acrobatDigest 172 4705 75 [some (.ref 136), none, none, some (.int x3), none, none, none] [.long y0] (hs σ) (pJ P)
  refine XA.blk (e9 := 83) (ok := true) (ls' := [some (.ref 136), none, none, some (.int x3), some (.long y0), none, none]) (st' := [.int x3, .int 23, .long y0, .ref 136]) (h' := hs σ) [(.lstore 4, 2, 4, 0, 0, 0, 0, 0), (.aload_n 0, 1, 0, 0, 0, 0, 0, 0), (.lload 4, 2, 4, 0, 0, 0, 0, 0), (.bipush 23, 2, 0, 0, 0, 0, 23, 0), (.iload_n 3, 1, 3, 0, 0, 0, 0, 0)] (by decide +kernel) rfl rfl ?_
  refine XA.callV (as := [.long y0, .int 23, .int x3]) (rest := []) (mc' := 0) (ms' := 0) (idx := 358) (t := 1414) cv_X11_atDigest (by decide +kernel) rfl rfl rfl (Nat.le_of_ble_eq_true rfl) (Nat.le_of_ble_eq_true rfl) (Nat.le_of_ble_eq_true rfl) (Nat.le_of_ble_eq_true rfl) (H) (fun rv h' hp => ?_)
  obtain ⟨r9, s9, rfl, rfl, hK⟩ := hp
  exact ⟨rfl, rfl, XA.drop (by simp [leL]) hK⟩
set_option maxRecDepth 20000 in
theorem W_X11_acrobatDigest_86 {scr : ScA}   {x3 : Int32} {y0 : Int64}  {σ : Nat → Nat → Int32} {P : Int64 → (Nat → Nat → Int32) → Prop} (H : CiA scr 7 mX11_comeOf [.ref 136, .int x3, .int 0] σ (fun r9 σ' => K_X11_acrobatDigest_100 scr x3 (31 * y0) r9 σ' P)) : K_X11_acrobatDigest_86 scr x3 y0 σ P := by
  show XA scr 9 mX11_acrobatDigest 172 4705 86 [some (.ref 136), none, none, some (.int x3), none, none, none] [.long y0] (hs σ) (pJ P)
  refine XA.blk (e9 := 97) (ok := true) (ls' := [some (.ref 136), none, none, some (.int x3), some (.long y0), none, none]) (st' := [.int 0, .int x3, .ref 136, .long (31 * y0)]) (h' := hs σ) [(.lstore 4, 2, 4, 0, 0, 0, 0, 0), (.ldc2_w 356, 3, 0, 0, 0, 1408, 0, 31), (.lload 4, 2, 4, 0, 0, 0, 0, 0), (.lmul, 1, 0, 0, 0, 0, 0, 0), (.aload_n 0, 1, 0, 0, 0, 0, 0, 0), (.iload_n 3, 1, 3, 0, 0, 0, 0, 0), (.iconst 0, 1, 0, 0, 0, 0, 0, 0)] (by decide +kernel) rfl rfl ?_
  refine XA.callV (as := [.int x3, .int 0]) (rest := [.long (31 * y0)]) (mc' := 0) (ms' := 0) (idx := 292) (t := 1270) cv_X11_comeOf (by decide +kernel) rfl rfl rfl (Nat.le_of_ble_eq_true rfl) (Nat.le_of_ble_eq_true rfl) (Nat.le_of_ble_eq_true rfl) (Nat.le_of_ble_eq_true rfl) (H) (fun rv h' hp => ?_)
  obtain ⟨r9, s9, rfl, rfl, hK⟩ := hp
  exact ⟨rfl, rfl, XA.drop (by simp [leL]) hK⟩
set_option maxRecDepth 20000 in
theorem W_X11_acrobatDigest_100 {scr : ScA}   {x3 : Int32} {y0 : Int64} {y1 : Int32}  {σ : Nat → Nat → Int32} {P : Int64 → (Nat → Nat → Int32) → Prop} (H : CiA scr 7 mX11_comeOf [.ref 136, .int x3, .int 1] σ (fun r9 σ' => K_X11_acrobatDigest_116 scr x3 (31 * (y0 + (Int32.toInt64 y1))) r9 σ' P)) : K_X11_acrobatDigest_100 scr x3 y0 y1 σ P := by
  show XA scr 9 mX11_acrobatDigest 172 4705 100 [some (.ref 136), none, none, some (.int x3), none, none, none] [.int y1, .long y0] (hs σ) (pJ P)
  refine XA.blk (e9 := 113) (ok := true) (ls' := [some (.ref 136), none, none, some (.int x3), some (.long (y0 + (Int32.toInt64 y1))), none, none]) (st' := [.int 1, .int x3, .ref 136, .long (31 * (y0 + (Int32.toInt64 y1)))]) (h' := hs σ) [(.i2l, 1, 0, 0, 0, 0, 0, 0), (.ladd, 1, 0, 0, 0, 0, 0, 0), (.lstore 4, 2, 4, 0, 0, 0, 0, 0), (.ldc2_w 356, 3, 0, 0, 0, 1408, 0, 31), (.lload 4, 2, 4, 0, 0, 0, 0, 0), (.lmul, 1, 0, 0, 0, 0, 0, 0), (.aload_n 0, 1, 0, 0, 0, 0, 0, 0), (.iload_n 3, 1, 3, 0, 0, 0, 0, 0), (.iconst 1, 1, 0, 0, 0, 0, 1, 0)] (by decide +kernel) rfl rfl ?_
  refine XA.callV (as := [.int x3, .int 1]) (rest := [.long (31 * (y0 + (Int32.toInt64 y1)))]) (mc' := 0) (ms' := 0) (idx := 292) (t := 1270) cv_X11_comeOf (by decide +kernel) rfl rfl rfl (Nat.le_of_ble_eq_true rfl) (Nat.le_of_ble_eq_true rfl) (Nat.le_of_ble_eq_true rfl) (Nat.le_of_ble_eq_true rfl) (H) (fun rv h' hp => ?_)
  obtain ⟨r9, s9, rfl, rfl, hK⟩ := hp
  exact ⟨rfl, rfl, XA.drop (by simp [leL]) hK⟩
set_option maxRecDepth 20000 in
theorem W_X11_acrobatDigest_116 {scr : ScA}   {x3 : Int32} {y0 : Int64} {y1 : Int32}  {σ : Nat → Nat → Int32} {P : Int64 → (Nat → Nat → Int32) → Prop} (H : CiA scr 6 mX11_strengthsBy [.ref 136, .int x3] σ (fun r9 σ' => K_X11_acrobatDigest_131 scr x3 (31 * (y0 + (Int32.toInt64 y1))) r9 σ' P)) : K_X11_acrobatDigest_116 scr x3 y0 y1 σ P := by
  show XA scr 9 mX11_acrobatDigest 172 4705 116 [some (.ref 136), none, none, some (.int x3), none, none, none] [.int y1, .long y0] (hs σ) (pJ P)
  refine XA.blk (e9 := 128) (ok := true) (ls' := [some (.ref 136), none, none, some (.int x3), some (.long (y0 + (Int32.toInt64 y1))), none, none]) (st' := [.int x3, .ref 136, .long (31 * (y0 + (Int32.toInt64 y1)))]) (h' := hs σ) [(.i2l, 1, 0, 0, 0, 0, 0, 0), (.ladd, 1, 0, 0, 0, 0, 0, 0), (.lstore 4, 2, 4, 0, 0, 0, 0, 0), (.ldc2_w 356, 3, 0, 0, 0, 1408, 0, 31), (.lload 4, 2, 4, 0, 0, 0, 0, 0), (.lmul, 1, 0, 0, 0, 0, 0, 0), (.aload_n 0, 1, 0, 0, 0, 0, 0, 0), (.iload_n 3, 1, 3, 0, 0, 0, 0, 0)] (by decide +kernel) rfl rfl ?_
  refine XA.callV (as := [.int x3]) (rest := [.long (31 * (y0 + (Int32.toInt64 y1)))]) (mc' := 0) (ms' := 0) (idx := 317) (t := 1322) cv_X11_strengthsBy (by decide +kernel) rfl rfl rfl (Nat.le_of_ble_eq_true rfl) (Nat.le_of_ble_eq_true rfl) (Nat.le_of_ble_eq_true rfl) (Nat.le_of_ble_eq_true rfl) (H) (fun rv h' hp => ?_)
  obtain ⟨r9, s9, rfl, rfl, hK⟩ := hp
  exact ⟨rfl, rfl, XA.drop (by simp [leL]) hK⟩
set_option maxRecDepth 20000 in
theorem W_X11_acrobatDigest_131 {scr : ScA}   {x3 : Int32} {y0 : Int64} {y1 : Int32}  {σ : Nat → Nat → Int32} {P : Int64 → (Nat → Nat → Int32) → Prop} (H : CiA scr 6 mX11_weightsBy [.ref 136, .int x3] σ (fun r9 σ' => K_X11_acrobatDigest_146 scr x3 (31 * (y0 + (Int32.toInt64 y1))) r9 σ' P)) : K_X11_acrobatDigest_131 scr x3 y0 y1 σ P := by
  show XA scr 9 mX11_acrobatDigest 172 4705 131 [some (.ref 136), none, none, some (.int x3), none, none, none] [.int y1, .long y0] (hs σ) (pJ P)
  refine XA.blk (e9 := 143) (ok := true) (ls' := [some (.ref 136), none, none, some (.int x3), some (.long (y0 + (Int32.toInt64 y1))), none, none]) (st' := [.int x3, .ref 136, .long (31 * (y0 + (Int32.toInt64 y1)))]) (h' := hs σ) [(.i2l, 1, 0, 0, 0, 0, 0, 0), (.ladd, 1, 0, 0, 0, 0, 0, 0), (.lstore 4, 2, 4, 0, 0, 0, 0, 0), (.ldc2_w 356, 3, 0, 0, 0, 1408, 0, 31), (.lload 4, 2, 4, 0, 0, 0, 0, 0), (.lmul, 1, 0, 0, 0, 0, 0, 0), (.aload_n 0, 1, 0, 0, 0, 0, 0, 0), (.iload_n 3, 1, 3, 0, 0, 0, 0, 0)] (by decide +kernel) rfl rfl ?_
  refine XA.callV (as := [.int x3]) (rest := [.long (31 * (y0 + (Int32.toInt64 y1)))]) (mc' := 0) (ms' := 0) (idx := 320) (t := 1326) cv_X11_weightsBy (by decide +kernel) rfl rfl rfl (Nat.le_of_ble_eq_true rfl) (Nat.le_of_ble_eq_true rfl) (Nat.le_of_ble_eq_true rfl) (Nat.le_of_ble_eq_true rfl) (H) (fun rv h' hp => ?_)
  obtain ⟨r9, s9, rfl, rfl, hK⟩ := hp
  exact ⟨rfl, rfl, XA.drop (by simp [leL]) hK⟩
set_option maxRecDepth 20000 in
theorem W_X11_acrobatDigest_146 {scr : ScA}   {x3 : Int32} {y0 : Int64} {y1 : Int32}  {σ : Nat → Nat → Int32} {P : Int64 → (Nat → Nat → Int32) → Prop} (H : CiA scr 7 mX11_askOf [.ref 136, .int x3] σ (fun r9 σ' => K_X11_acrobatDigest_161 scr (31 * (y0 + (Int32.toInt64 y1))) r9 σ' P)) : K_X11_acrobatDigest_146 scr x3 y0 y1 σ P := by
  show XA scr 9 mX11_acrobatDigest 172 4705 146 [some (.ref 136), none, none, some (.int x3), none, none, none] [.int y1, .long y0] (hs σ) (pJ P)
  refine XA.blk (e9 := 158) (ok := true) (ls' := [some (.ref 136), none, none, some (.int x3), some (.long (y0 + (Int32.toInt64 y1))), none, none]) (st' := [.int x3, .ref 136, .long (31 * (y0 + (Int32.toInt64 y1)))]) (h' := hs σ) [(.i2l, 1, 0, 0, 0, 0, 0, 0), (.ladd, 1, 0, 0, 0, 0, 0, 0), (.lstore 4, 2, 4, 0, 0, 0, 0, 0), (.ldc2_w 356, 3, 0, 0, 0, 1408, 0, 31), (.lload 4, 2, 4, 0, 0, 0, 0, 0), (.lmul, 1, 0, 0, 0, 0, 0, 0), (.aload_n 0, 1, 0, 0, 0, 0, 0, 0), (.iload_n 3, 1, 3, 0, 0, 0, 0, 0)] (by decide +kernel) rfl rfl ?_
  refine XA.callV (as := [.int x3]) (rest := [.long (31 * (y0 + (Int32.toInt64 y1)))]) (mc' := 0) (ms' := 0) (idx := 323) (t := 1334) cv_X11_askOf (by decide +kernel) rfl rfl rfl (Nat.le_of_ble_eq_true rfl) (Nat.le_of_ble_eq_true rfl) (Nat.le_of_ble_eq_true rfl) (Nat.le_of_ble_eq_true rfl) (H) (fun rv h' hp => ?_)
  obtain ⟨r9, s9, rfl, rfl, hK⟩ := hp
  exact ⟨rfl, rfl, XA.drop (by simp [leL]) hK⟩
set_option maxRecDepth 20000 in
theorem W_X11_acrobatDigest_161 {scr : ScA}   {y0 : Int64} {y1 : Int32}  {σ : Nat → Nat → Int32} {P : Int64 → (Nat → Nat → Int32) → Prop} (H : P (y0 + (Int32.toInt64 y1)) σ) : K_X11_acrobatDigest_161 scr y0 y1 σ P := by
  show XA scr 9 mX11_acrobatDigest 172 4705 161 [none, none, none, none, none, none, none] [.int y1, .long y0] (hs σ) (pJ P)
  refine XA.blk (e9 := 163) (ok := true) (ls' := [none, none, none, none, none, none, none]) (st' := [.long (y0 + (Int32.toInt64 y1))]) (h' := hs σ) [(.i2l, 1, 0, 0, 0, 0, 0, 0), (.ladd, 1, 0, 0, 0, 0, 0, 0)] (by decide +kernel) rfl rfl ?_
  exact XA.ret (some (.long (y0 + (Int32.toInt64 y1)))) rfl (show ckRt mX11_acrobatDigest 163 .lreturn = true by decide +kernel) trivial (Nat.le_of_ble_eq_true rfl) (Nat.le_of_ble_eq_true rfl) ⟨_, _, rfl, rfl, H⟩
theorem E_X11_acrobatDigest {scr : ScA}  {x1 : Int64} {x3 : Int32} {σ : Nat → Nat → Int32} {P : Int64 → (Nat → Nat → Int32) → Prop} (h : K_X11_acrobatDigest_0 scr x1 x3 σ P) : ClA scr 9 mX11_acrobatDigest [.ref 136, .long x1, .int x3] σ P := CtA.of (by decide) (Nat.le_of_ble_eq_true rfl) (XA.drop (by simp [leL, enL]) h)
def K_X11_digest_0 (scr : ScA)   (σ : Nat → Nat → Int32) (P : Int64 → (Nat → Nat → Int32) → Prop) : Prop := XA scr 10 mX11_digest 172 4705 0 [some (.ref 136), none, none, none] [] (hs σ) (pJ P)
def K_X11_digest_6 (scr : ScA)  (x1 : Int64) (x3 : Int32) (σ : Nat → Nat → Int32) (P : Int64 → (Nat → Nat → Int32) → Prop) : Prop := XA scr 10 mX11_digest 172 4705 6 [some (.ref 136), some (.long x1), none, some (.int x3)] [] (hs σ) (pJ P)
def K_X11_digest_22 (scr : ScA)  (x3 : Int32) (y0 : Int64) (y1 : Int32) (σ : Nat → Nat → Int32) (P : Int64 → (Nat → Nat → Int32) → Prop) : Prop := XA scr 10 mX11_digest 172 4705 22 [some (.ref 136), none, none, some (.int x3)] [.int y1, .long y0] (hs σ) (pJ P)
def K_X11_digest_40 (scr : ScA)  (y0 : Int64) (y1 : Int32) (σ : Nat → Nat → Int32) (P : Int64 → (Nat → Nat → Int32) → Prop) : Prop := XA scr 10 mX11_digest 172 4705 40 [some (.ref 136), none, none, none] [.int y1, .long y0] (hs σ) (pJ P)
def K_X11_digest_45 (scr : ScA)  (x1 : Int64) (x3 : Int32) (σ : Nat → Nat → Int32) (P : Int64 → (Nat → Nat → Int32) → Prop) : Prop := XA scr 10 mX11_digest 172 4705 45 [some (.ref 136), some (.long x1), none, some (.int x3)] [] (hs σ) (pJ P)
def K_X11_digest_62 (scr : ScA)  (x3 : Int32) (y0 : Int64) (y1 : Int32) (σ : Nat → Nat → Int32) (P : Int64 → (Nat → Nat → Int32) → Prop) : Prop := XA scr 10 mX11_digest 172 4705 62 [some (.ref 136), none, none, some (.int x3)] [.int y1, .long y0] (hs σ) (pJ P)
def K_X11_digest_76 (scr : ScA)  (x3 : Int32) (y0 : Int64) (y1 : Int32) (σ : Nat → Nat → Int32) (P : Int64 → (Nat → Nat → Int32) → Prop) : Prop := XA scr 10 mX11_digest 172 4705 76 [some (.ref 136), none, none, some (.int x3)] [.int y1, .long y0] (hs σ) (pJ P)
def K_X11_digest_90 (scr : ScA)  (x3 : Int32) (y0 : Int64) (y1 : Int32) (σ : Nat → Nat → Int32) (P : Int64 → (Nat → Nat → Int32) → Prop) : Prop := XA scr 10 mX11_digest 172 4705 90 [some (.ref 136), none, none, some (.int x3)] [.int y1, .long y0] (hs σ) (pJ P)
def K_X11_digest_104 (scr : ScA)  (x3 : Int32) (y0 : Int64) (y1 : Int32) (σ : Nat → Nat → Int32) (P : Int64 → (Nat → Nat → Int32) → Prop) : Prop := XA scr 10 mX11_digest 172 4705 104 [some (.ref 136), none, none, some (.int x3)] [.int y1, .long y0] (hs σ) (pJ P)
def K_X11_digest_115 (scr : ScA)  (x1 : Int64) (x3 : Int32) (σ : Nat → Nat → Int32) (P : Int64 → (Nat → Nat → Int32) → Prop) : Prop := XA scr 10 mX11_digest 172 4705 115 [some (.ref 136), some (.long x1), none, some (.int x3)] [] (hs σ) (pJ P)
def K_X11_digest_129 (scr : ScA)  (x3 : Int32) (y0 : Int64) (σ : Nat → Nat → Int32) (P : Int64 → (Nat → Nat → Int32) → Prop) : Prop := XA scr 10 mX11_digest 172 4705 129 [some (.ref 136), none, none, some (.int x3)] [.long y0] (hs σ) (pJ P)
def K_X11_digest_148 (scr : ScA)  (y0 : Int64) (y1 : Int64) (σ : Nat → Nat → Int32) (P : Int64 → (Nat → Nat → Int32) → Prop) : Prop := XA scr 10 mX11_digest 172 4705 148 [some (.ref 136), none, none, none] [.long y1, .long y0] (hs σ) (pJ P)
def K_X11_digest_162 (scr : ScA)  (y0 : Int64) (y1 : Int64) (σ : Nat → Nat → Int32) (P : Int64 → (Nat → Nat → Int32) → Prop) : Prop := XA scr 10 mX11_digest 172 4705 162 [some (.ref 136), none, none, none] [.long y1, .long y0] (hs σ) (pJ P)
def K_X11_digest_177 (scr : ScA)  (y0 : Int64) (y1 : Int64) (σ : Nat → Nat → Int32) (P : Int64 → (Nat → Nat → Int32) → Prop) : Prop := XA scr 10 mX11_digest 172 4705 177 [some (.ref 136), none, none, none] [.long y1, .long y0] (hs σ) (pJ P)
def K_X11_digest_192 (scr : ScA)  (y0 : Int64) (y1 : Int64) (σ : Nat → Nat → Int32) (P : Int64 → (Nat → Nat → Int32) → Prop) : Prop := XA scr 10 mX11_digest 172 4705 192 [some (.ref 136), none, none, none] [.long y1, .long y0] (hs σ) (pJ P)
def K_X11_digest_204 (scr : ScA)  (y0 : Int64) (y1 : Int32) (σ : Nat → Nat → Int32) (P : Int64 → (Nat → Nat → Int32) → Prop) : Prop := XA scr 10 mX11_digest 172 4705 204 [some (.ref 136), none, none, none] [.int y1, .long y0] (hs σ) (pJ P)
def K_X11_digest_217 (scr : ScA)  (y0 : Int64) (y1 : Int32) (σ : Nat → Nat → Int32) (P : Int64 → (Nat → Nat → Int32) → Prop) : Prop := XA scr 10 mX11_digest 172 4705 217 [some (.ref 136), none, none, none] [.int y1, .long y0] (hs σ) (pJ P)
def K_X11_digest_230 (scr : ScA)  (y0 : Int64) (y1 : Int32) (σ : Nat → Nat → Int32) (P : Int64 → (Nat → Nat → Int32) → Prop) : Prop := XA scr 10 mX11_digest 172 4705 230 [some (.ref 136), none, none, none] [.int y1, .long y0] (hs σ) (pJ P)
def K_X11_digest_243 (scr : ScA)  (y0 : Int64) (y1 : Int32) (σ : Nat → Nat → Int32) (P : Int64 → (Nat → Nat → Int32) → Prop) : Prop := XA scr 10 mX11_digest 172 4705 243 [some (.ref 136), none, none, none] [.int y1, .long y0] (hs σ) (pJ P)
def K_X11_digest_255 (scr : ScA)  (y0 : Int64) (y1 : Int32) (σ : Nat → Nat → Int32) (P : Int64 → (Nat → Nat → Int32) → Prop) : Prop := XA scr 10 mX11_digest 172 4705 255 [some (.ref 136), none, none, none] [.int y1, .long y0] (hs σ) (pJ P)
def K_X11_digest_267 (scr : ScA)  (y0 : Int64) (y1 : Int32) (σ : Nat → Nat → Int32) (P : Int64 → (Nat → Nat → Int32) → Prop) : Prop := XA scr 10 mX11_digest 172 4705 267 [some (.ref 136), none, none, none] [.int y1, .long y0] (hs σ) (pJ P)
def K_X11_digest_272 (scr : ScA)  (x1 : Int64) (x3 : Int32) (σ : Nat → Nat → Int32) (P : Int64 → (Nat → Nat → Int32) → Prop) : Prop := XA scr 10 mX11_digest 172 4705 272 [some (.ref 136), some (.long x1), none, some (.int x3)] [] (hs σ) (pJ P)
def K_X11_digest_287 (scr : ScA)  (x3 : Int32) (y0 : Int64) (y1 : Int32) (σ : Nat → Nat → Int32) (P : Int64 → (Nat → Nat → Int32) → Prop) : Prop := XA scr 10 mX11_digest 172 4705 287 [some (.ref 136), none, none, some (.int x3)] [.int y1, .long y0] (hs σ) (pJ P)
def K_X11_digest_306 (scr : ScA)  (y0 : Int64) (y1 : Int32) (σ : Nat → Nat → Int32) (P : Int64 → (Nat → Nat → Int32) → Prop) : Prop := XA scr 10 mX11_digest 172 4705 306 [some (.ref 136), none, none, none] [.int y1, .long y0] (hs σ) (pJ P)
def K_X11_digest_319 (scr : ScA)  (y0 : Int64) (y1 : Int32) (σ : Nat → Nat → Int32) (P : Int64 → (Nat → Nat → Int32) → Prop) : Prop := XA scr 10 mX11_digest 172 4705 319 [some (.ref 136), none, none, none] [.int y1, .long y0] (hs σ) (pJ P)
def K_X11_digest_326 (scr : ScA)  (x1 : Int64) (y0 : Int32) (σ : Nat → Nat → Int32) (P : Int64 → (Nat → Nat → Int32) → Prop) : Prop := XA scr 10 mX11_digest 172 4705 326 [some (.ref 136), some (.long x1), none, none] [.int y0] (hs σ) (pJ P)
def K_X11_digest_359 (scr : ScA)  (y0 : Int64) (y1 : Int32) (σ : Nat → Nat → Int32) (P : Int64 → (Nat → Nat → Int32) → Prop) : Prop := XA scr 10 mX11_digest 172 4705 359 [some (.ref 136), none, none, none] [.int y1, .long y0] (hs σ) (pJ P)
def K_X11_digest_376 (scr : ScA)  (y0 : Int64) (y1 : Int32) (σ : Nat → Nat → Int32) (P : Int64 → (Nat → Nat → Int32) → Prop) : Prop := XA scr 10 mX11_digest 172 4705 376 [some (.ref 136), none, none, none] [.int y1, .long y0] (hs σ) (pJ P)
def K_X11_digest_393 (scr : ScA)  (y0 : Int64) (y1 : Int32) (σ : Nat → Nat → Int32) (P : Int64 → (Nat → Nat → Int32) → Prop) : Prop := XA scr 10 mX11_digest 172 4705 393 [none, none, none, none] [.int y1, .long y0] (hs σ) (pJ P)
set_option maxRecDepth 20000 in
theorem W_X11_digest_0 {scr : ScA}     {σ : Nat → Nat → Int32} {P : Int64 → (Nat → Nat → Int32) → Prop} (H : K_X11_digest_6 scr 17 0 σ P) : K_X11_digest_0 scr σ P := by
  show XA scr 10 mX11_digest 172 4705 0 [some (.ref 136), none, none, none] [] (hs σ) (pJ P)
  refine XA.blk (e9 := 6) (ok := true) (ls' := [some (.ref 136), some (.long 17), none, some (.int 0)]) (st' := []) (h' := hs σ) [(.ldc2_w 362, 3, 0, 0, 0, 1407, 0, 17), (.lstore_n 1, 1, 1, 0, 0, 0, 0, 0), (.iconst 0, 1, 0, 0, 0, 0, 0, 0), (.istore_n 3, 1, 3, 0, 0, 0, 0, 0)] (by decide +kernel) rfl rfl ?_
  exact H
set_option maxRecDepth 20000 in
theorem W_X11_digest_6 {scr : ScA}   {x1 : Int64} {x3 : Int32}  {σ : Nat → Nat → Int32} {P : Int64 → (Nat → Nat → Int32) → Prop} (H : (8 ≤ x3 → CiA scr 3 mX11_faultOf [.ref 136] σ (fun r9 σ' => K_X11_digest_40 scr (31 * x1) r9 σ' P)) ∧ (¬ 8 ≤ x3 → CiA scr 8 mX11_count [.ref 136, .int x3] σ (fun r9 σ' => K_X11_digest_22 scr x3 (31 * x1) r9 σ' P))) : K_X11_digest_6 scr x1 x3 σ P := by
  show XA scr 10 mX11_digest 172 4705 6 [some (.ref 136), some (.long x1), none, some (.int x3)] [] (hs σ) (pJ P)
  refine XA.blk (e9 := 9) (ok := true) (ls' := [some (.ref 136), some (.long x1), none, some (.int x3)]) (st' := [.int 8, .int x3]) (h' := hs σ) [(.iload_n 3, 1, 3, 0, 0, 0, 0, 0), (.bipush 8, 2, 0, 0, 0, 0, 8, 0)] (by decide +kernel) rfl rfl ?_
  refine XA.icmp_ge (22) 31 (by decide +kernel) (fun c1 => ?_) (fun c1 => ?_)
  · have H := H.1 c1
    refine XA.blk (e9 := 37) (ok := true) (ls' := [some (.ref 136), some (.long x1), none, some (.int x3)]) (st' := [.ref 136, .long (31 * x1)]) (h' := hs σ) [(.ldc2_w 356, 3, 0, 0, 0, 1408, 0, 31), (.lload_n 1, 1, 1, 0, 0, 0, 0, 0), (.lmul, 1, 0, 0, 0, 0, 0, 0), (.aload_n 0, 1, 0, 0, 0, 0, 0, 0)] (by decide +kernel) rfl rfl ?_
    refine XA.callV (as := []) (rest := [.long (31 * x1)]) (mc' := 0) (ms' := 0) (idx := 148) (t := 1076) cv_X11_faultOf (by decide +kernel) rfl rfl rfl (Nat.le_of_ble_eq_true rfl) (Nat.le_of_ble_eq_true rfl) (Nat.le_of_ble_eq_true rfl) (Nat.le_of_ble_eq_true rfl) (H) (fun rv h' hp => ?_)
    obtain ⟨r9, s9, rfl, rfl, hK⟩ := hp
    exact ⟨rfl, rfl, XA.drop (by simp [leL]) hK⟩
  · have H := H.2 c1
    refine XA.blk (e9 := 19) (ok := true) (ls' := [some (.ref 136), some (.long x1), none, some (.int x3)]) (st' := [.int x3, .ref 136, .long (31 * x1)]) (h' := hs σ) [(.ldc2_w 356, 3, 0, 0, 0, 1408, 0, 31), (.lload_n 1, 1, 1, 0, 0, 0, 0, 0), (.lmul, 1, 0, 0, 0, 0, 0, 0), (.aload_n 0, 1, 0, 0, 0, 0, 0, 0), (.iload_n 3, 1, 3, 0, 0, 0, 0, 0)] (by decide +kernel) rfl rfl ?_
    refine XA.callV (as := [.int x3]) (rest := [.long (31 * x1)]) (mc' := 0) (ms' := 0) (idx := 364) (t := 1409) cv_X11_count (by decide +kernel) rfl rfl rfl (Nat.le_of_ble_eq_true rfl) (Nat.le_of_ble_eq_true rfl) (Nat.le_of_ble_eq_true rfl) (Nat.le_of_ble_eq_true rfl) (H) (fun rv h' hp => ?_)
    obtain ⟨r9, s9, rfl, rfl, hK⟩ := hp
    exact ⟨rfl, rfl, XA.drop (by simp [leL]) hK⟩
set_option maxRecDepth 20000 in
theorem W_X11_digest_22 {scr : ScA}   {x3 : Int32} {y0 : Int64} {y1 : Int32}  {σ : Nat → Nat → Int32} {P : Int64 → (Nat → Nat → Int32) → Prop} (H : K_X11_digest_6 scr (y0 + (Int32.toInt64 y1)) (x3 + 1) σ P) : K_X11_digest_22 scr x3 y0 y1 σ P := by
  show XA scr 10 mX11_digest 172 4705 22 [some (.ref 136), none, none, some (.int x3)] [.int y1, .long y0] (hs σ) (pJ P)
  refine XA.blk (e9 := 6) (ok := true) (ls' := [some (.ref 136), some (.long (y0 + (Int32.toInt64 y1))), none, some (.int (x3 + 1))]) (st' := []) (h' := hs σ) [(.i2l, 1, 0, 0, 0, 0, 0, 0), (.ladd, 1, 0, 0, 0, 0, 0, 0), (.lstore_n 1, 1, 1, 0, 0, 0, 0, 0), (.iinc 3 1, 3, 3, 0, 0, 0, 1, 0), (.goto (-22), 3, 6, 0, 0, 0, 0, 0)] (by decide +kernel) rfl rfl ?_
  exact H
set_option maxRecDepth 20000 in
theorem W_X11_digest_40 {scr : ScA}   {y0 : Int64} {y1 : Int32}  {σ : Nat → Nat → Int32} {P : Int64 → (Nat → Nat → Int32) → Prop} (H : K_X11_digest_45 scr (y0 + (Int32.toInt64 y1)) 0 σ P) : K_X11_digest_40 scr y0 y1 σ P := by
  show XA scr 10 mX11_digest 172 4705 40 [some (.ref 136), none, none, none] [.int y1, .long y0] (hs σ) (pJ P)
  refine XA.blk (e9 := 45) (ok := true) (ls' := [some (.ref 136), some (.long (y0 + (Int32.toInt64 y1))), none, some (.int 0)]) (st' := []) (h' := hs σ) [(.i2l, 1, 0, 0, 0, 0, 0, 0), (.ladd, 1, 0, 0, 0, 0, 0, 0), (.lstore_n 1, 1, 1, 0, 0, 0, 0, 0), (.iconst 0, 1, 0, 0, 0, 0, 0, 0), (.istore_n 3, 1, 3, 0, 0, 0, 0, 0)] (by decide +kernel) rfl rfl ?_
  exact H
set_option maxRecDepth 20000 in
theorem W_X11_digest_45 {scr : ScA}   {x1 : Int64} {x3 : Int32}  {σ : Nat → Nat → Int32} {P : Int64 → (Nat → Nat → Int32) → Prop} (H : (24 ≤ x3 → K_X11_digest_115 scr x1 0 σ P) ∧ (¬ 24 ≤ x3 → CiA scr 7 mX11_towerOf [.ref 136, .int x3, .int 0] σ (fun r9 σ' => K_X11_digest_62 scr x3 (31 * x1) r9 σ' P))) : K_X11_digest_45 scr x1 x3 σ P := by
  show XA scr 10 mX11_digest 172 4705 45 [some (.ref 136), some (.long x1), none, some (.int x3)] [] (hs σ) (pJ P)
  refine XA.blk (e9 := 48) (ok := true) (ls' := [some (.ref 136), some (.long x1), none, some (.int x3)]) (st' := [.int 24, .int x3]) (h' := hs σ) [(.iload_n 3, 1, 3, 0, 0, 0, 0, 0), (.bipush 24, 2, 0, 0, 0, 0, 24, 0)] (by decide +kernel) rfl rfl ?_
  refine XA.icmp_ge (65) 113 (by decide +kernel) (fun c1 => ?_) (fun c1 => ?_)
  · have H := H.1 c1
    refine XA.blk (e9 := 115) (ok := true) (ls' := [some (.ref 136), some (.long x1), none, some (.int 0)]) (st' := []) (h' := hs σ) [(.iconst 0, 1, 0, 0, 0, 0, 0, 0), (.istore_n 3, 1, 3, 0, 0, 0, 0, 0)] (by decide +kernel) rfl rfl ?_
    exact H
  · have H := H.2 c1
    refine XA.blk (e9 := 59) (ok := true) (ls' := [some (.ref 136), some (.long x1), none, some (.int x3)]) (st' := [.int 0, .int x3, .ref 136, .long (31 * x1)]) (h' := hs σ) [(.ldc2_w 356, 3, 0, 0, 0, 1408, 0, 31), (.lload_n 1, 1, 1, 0, 0, 0, 0, 0), (.lmul, 1, 0, 0, 0, 0, 0, 0), (.aload_n 0, 1, 0, 0, 0, 0, 0, 0), (.iload_n 3, 1, 3, 0, 0, 0, 0, 0), (.iconst 0, 1, 0, 0, 0, 0, 0, 0)] (by decide +kernel) rfl rfl ?_
    refine XA.callV (as := [.int x3, .int 0]) (rest := [.long (31 * x1)]) (mc' := 0) (ms' := 0) (idx := 259) (t := 1206) cv_X11_towerOf (by decide +kernel) rfl rfl rfl (Nat.le_of_ble_eq_true rfl) (Nat.le_of_ble_eq_true rfl) (Nat.le_of_ble_eq_true rfl) (Nat.le_of_ble_eq_true rfl) (H) (fun rv h' hp => ?_)
    obtain ⟨r9, s9, rfl, rfl, hK⟩ := hp
    exact ⟨rfl, rfl, XA.drop (by simp [leL]) hK⟩
set_option maxRecDepth 20000 in
theorem W_X11_digest_62 {scr : ScA}   {x3 : Int32} {y0 : Int64} {y1 : Int32}  {σ : Nat → Nat → Int32} {P : Int64 → (Nat → Nat → Int32) → Prop} (H : CiA scr 7 mX11_towerOf [.ref 136, .int x3, .int 1] σ (fun r9 σ' => K_X11_digest_76 scr x3 (31 * (y0 + (Int32.toInt64 y1))) r9 σ' P)) : K_X11_digest_62 scr x3 y0 y1 σ P := by
  show XA scr 10 mX11_digest 172 4705 62 [some (.ref 136), none, none, some (.int x3)] [.int y1, .long y0] (hs σ) (pJ P)
  refine XA.blk (e9 := 73) (ok := true) (ls' := [some (.ref 136), some (.long (y0 + (Int32.toInt64 y1))), none, some (.int x3)]) (st' := [.int 1, .int x3, .ref 136, .long (31 * (y0 + (Int32.toInt64 y1)))]) (h' := hs σ) [(.i2l, 1, 0, 0, 0, 0, 0, 0), (.ladd, 1, 0, 0, 0, 0, 0, 0), (.lstore_n 1, 1, 1, 0, 0, 0, 0, 0), (.ldc2_w 356, 3, 0, 0, 0, 1408, 0, 31), (.lload_n 1, 1, 1, 0, 0, 0, 0, 0), (.lmul, 1, 0, 0, 0, 0, 0, 0), (.aload_n 0, 1, 0, 0, 0, 0, 0, 0), (.iload_n 3, 1, 3, 0, 0, 0, 0, 0), (.iconst 1, 1, 0, 0, 0, 0, 1, 0)] (by decide +kernel) rfl rfl ?_
  refine XA.callV (as := [.int x3, .int 1]) (rest := [.long (31 * (y0 + (Int32.toInt64 y1)))]) (mc' := 0) (ms' := 0) (idx := 259) (t := 1206) cv_X11_towerOf (by decide +kernel) rfl rfl rfl (Nat.le_of_ble_eq_true rfl) (Nat.le_of_ble_eq_true rfl) (Nat.le_of_ble_eq_true rfl) (Nat.le_of_ble_eq_true rfl) (H) (fun rv h' hp => ?_)
  obtain ⟨r9, s9, rfl, rfl, hK⟩ := hp
  exact ⟨rfl, rfl, XA.drop (by simp [leL]) hK⟩
set_option maxRecDepth 20000 in
theorem W_X11_digest_76 {scr : ScA}   {x3 : Int32} {y0 : Int64} {y1 : Int32}  {σ : Nat → Nat → Int32} {P : Int64 → (Nat → Nat → Int32) → Prop} (H : CiA scr 7 mX11_standsOf [.ref 136, .int x3, .int 0] σ (fun r9 σ' => K_X11_digest_90 scr x3 (31 * (y0 + (Int32.toInt64 y1))) r9 σ' P)) : K_X11_digest_76 scr x3 y0 y1 σ P := by
  show XA scr 10 mX11_digest 172 4705 76 [some (.ref 136), none, none, some (.int x3)] [.int y1, .long y0] (hs σ) (pJ P)
  refine XA.blk (e9 := 87) (ok := true) (ls' := [some (.ref 136), some (.long (y0 + (Int32.toInt64 y1))), none, some (.int x3)]) (st' := [.int 0, .int x3, .ref 136, .long (31 * (y0 + (Int32.toInt64 y1)))]) (h' := hs σ) [(.i2l, 1, 0, 0, 0, 0, 0, 0), (.ladd, 1, 0, 0, 0, 0, 0, 0), (.lstore_n 1, 1, 1, 0, 0, 0, 0, 0), (.ldc2_w 356, 3, 0, 0, 0, 1408, 0, 31), (.lload_n 1, 1, 1, 0, 0, 0, 0, 0), (.lmul, 1, 0, 0, 0, 0, 0, 0), (.aload_n 0, 1, 0, 0, 0, 0, 0, 0), (.iload_n 3, 1, 3, 0, 0, 0, 0, 0), (.iconst 0, 1, 0, 0, 0, 0, 0, 0)] (by decide +kernel) rfl rfl ?_
  refine XA.callV (as := [.int x3, .int 0]) (rest := [.long (31 * (y0 + (Int32.toInt64 y1)))]) (mc' := 0) (ms' := 0) (idx := 253) (t := 1195) cv_X11_standsOf (by decide +kernel) rfl rfl rfl (Nat.le_of_ble_eq_true rfl) (Nat.le_of_ble_eq_true rfl) (Nat.le_of_ble_eq_true rfl) (Nat.le_of_ble_eq_true rfl) (H) (fun rv h' hp => ?_)
  obtain ⟨r9, s9, rfl, rfl, hK⟩ := hp
  exact ⟨rfl, rfl, XA.drop (by simp [leL]) hK⟩
set_option maxRecDepth 20000 in
theorem W_X11_digest_90 {scr : ScA}   {x3 : Int32} {y0 : Int64} {y1 : Int32}  {σ : Nat → Nat → Int32} {P : Int64 → (Nat → Nat → Int32) → Prop} (H : CiA scr 7 mX11_standsOf [.ref 136, .int x3, .int 5] σ (fun r9 σ' => K_X11_digest_104 scr x3 (31 * (y0 + (Int32.toInt64 y1))) r9 σ' P)) : K_X11_digest_90 scr x3 y0 y1 σ P := by
  show XA scr 10 mX11_digest 172 4705 90 [some (.ref 136), none, none, some (.int x3)] [.int y1, .long y0] (hs σ) (pJ P)
  refine XA.blk (e9 := 101) (ok := true) (ls' := [some (.ref 136), some (.long (y0 + (Int32.toInt64 y1))), none, some (.int x3)]) (st' := [.int 5, .int x3, .ref 136, .long (31 * (y0 + (Int32.toInt64 y1)))]) (h' := hs σ) [(.i2l, 1, 0, 0, 0, 0, 0, 0), (.ladd, 1, 0, 0, 0, 0, 0, 0), (.lstore_n 1, 1, 1, 0, 0, 0, 0, 0), (.ldc2_w 356, 3, 0, 0, 0, 1408, 0, 31), (.lload_n 1, 1, 1, 0, 0, 0, 0, 0), (.lmul, 1, 0, 0, 0, 0, 0, 0), (.aload_n 0, 1, 0, 0, 0, 0, 0, 0), (.iload_n 3, 1, 3, 0, 0, 0, 0, 0), (.iconst 5, 1, 0, 0, 0, 0, 5, 0)] (by decide +kernel) rfl rfl ?_
  refine XA.callV (as := [.int x3, .int 5]) (rest := [.long (31 * (y0 + (Int32.toInt64 y1)))]) (mc' := 0) (ms' := 0) (idx := 253) (t := 1195) cv_X11_standsOf (by decide +kernel) rfl rfl rfl (Nat.le_of_ble_eq_true rfl) (Nat.le_of_ble_eq_true rfl) (Nat.le_of_ble_eq_true rfl) (Nat.le_of_ble_eq_true rfl) (H) (fun rv h' hp => ?_)
  obtain ⟨r9, s9, rfl, rfl, hK⟩ := hp
  exact ⟨rfl, rfl, XA.drop (by simp [leL]) hK⟩
set_option maxRecDepth 20000 in
theorem W_X11_digest_104 {scr : ScA}   {x3 : Int32} {y0 : Int64} {y1 : Int32}  {σ : Nat → Nat → Int32} {P : Int64 → (Nat → Nat → Int32) → Prop} (H : K_X11_digest_45 scr (y0 + (Int32.toInt64 y1)) (x3 + 1) σ P) : K_X11_digest_104 scr x3 y0 y1 σ P := by
  show XA scr 10 mX11_digest 172 4705 104 [some (.ref 136), none, none, some (.int x3)] [.int y1, .long y0] (hs σ) (pJ P)
  refine XA.blk (e9 := 45) (ok := true) (ls' := [some (.ref 136), some (.long (y0 + (Int32.toInt64 y1))), none, some (.int (x3 + 1))]) (st' := []) (h' := hs σ) [(.i2l, 1, 0, 0, 0, 0, 0, 0), (.ladd, 1, 0, 0, 0, 0, 0, 0), (.lstore_n 1, 1, 1, 0, 0, 0, 0, 0), (.iinc 3 1, 3, 3, 0, 0, 0, 1, 0), (.goto (-65), 3, 45, 0, 0, 0, 0, 0)] (by decide +kernel) rfl rfl ?_
  exact H
set_option maxRecDepth 20000 in
theorem W_X11_digest_115 {scr : ScA}   {x1 : Int64} {x3 : Int32}  {σ : Nat → Nat → Int32} {P : Int64 → (Nat → Nat → Int32) → Prop} (H : ((σ 136 2) ≤ x3 → ClA scr 6 mX11_chanceOf [.ref 136, .int 5, .int 5, .int 0] σ (fun r9 σ' => K_X11_digest_148 scr (31 * x1) r9 σ' P)) ∧ (¬ (σ 136 2) ≤ x3 → ClA scr 9 mX11_acrobatDigest [.ref 136, .long x1, .int x3] σ (fun r9 σ' => K_X11_digest_129 scr x3 r9 σ' P))) : K_X11_digest_115 scr x1 x3 σ P := by
  show XA scr 10 mX11_digest 172 4705 115 [some (.ref 136), some (.long x1), none, some (.int x3)] [] (hs σ) (pJ P)
  refine XA.blk (e9 := 120) (ok := true) (ls' := [some (.ref 136), some (.long x1), none, some (.int x3)]) (st' := [.int (σ 136 2), .int x3]) (h' := hs σ) [(.iload_n 3, 1, 3, 0, 0, 0, 0, 0), (.aload_n 0, 1, 0, 0, 0, 0, 0, 0), (.getfield 141, 3, 11, 2, 0, 895, 0, 0)] (by decide +kernel) rfl rfl ?_
  refine XA.icmp_ge (16) 136 (by decide +kernel) (fun c1 => ?_) (fun c1 => ?_)
  · have H := H.1 c1
    refine XA.blk (e9 := 145) (ok := true) (ls' := [some (.ref 136), some (.long x1), none, some (.int x3)]) (st' := [.int 0, .int 5, .int 5, .ref 136, .long (31 * x1)]) (h' := hs σ) [(.ldc2_w 356, 3, 0, 0, 0, 1408, 0, 31), (.lload_n 1, 1, 1, 0, 0, 0, 0, 0), (.lmul, 1, 0, 0, 0, 0, 0, 0), (.aload_n 0, 1, 0, 0, 0, 0, 0, 0), (.iconst 5, 1, 0, 0, 0, 0, 5, 0), (.iconst 5, 1, 0, 0, 0, 0, 5, 0), (.iconst 0, 1, 0, 0, 0, 0, 0, 0)] (by decide +kernel) rfl rfl ?_
    refine XA.callV (as := [.int 5, .int 5, .int 0]) (rest := [.long (31 * x1)]) (mc' := 0) (ms' := 0) (idx := 330) (t := 1342) cv_X11_chanceOf (by decide +kernel) rfl rfl rfl (Nat.le_of_ble_eq_true rfl) (Nat.le_of_ble_eq_true rfl) (Nat.le_of_ble_eq_true rfl) (Nat.le_of_ble_eq_true rfl) (H) (fun rv h' hp => ?_)
    obtain ⟨r9, s9, rfl, rfl, hK⟩ := hp
    exact ⟨rfl, rfl, XA.drop (by simp [leL]) hK⟩
  · have H := H.2 c1
    refine XA.blk (e9 := 126) (ok := true) (ls' := [some (.ref 136), some (.long x1), none, some (.int x3)]) (st' := [.int x3, .long x1, .ref 136]) (h' := hs σ) [(.aload_n 0, 1, 0, 0, 0, 0, 0, 0), (.lload_n 1, 1, 1, 0, 0, 0, 0, 0), (.iload_n 3, 1, 3, 0, 0, 0, 0, 0)] (by decide +kernel) rfl rfl ?_
    refine XA.callV (as := [.long x1, .int x3]) (rest := []) (mc' := 0) (ms' := 0) (idx := 367) (t := 1410) cv_X11_acrobatDigest (by decide +kernel) rfl rfl rfl (Nat.le_of_ble_eq_true rfl) (Nat.le_of_ble_eq_true rfl) (Nat.le_of_ble_eq_true rfl) (Nat.le_of_ble_eq_true rfl) (H) (fun rv h' hp => ?_)
    obtain ⟨r9, s9, rfl, rfl, hK⟩ := hp
    exact ⟨rfl, rfl, XA.drop (by simp [leL]) hK⟩
set_option maxRecDepth 20000 in
theorem W_X11_digest_129 {scr : ScA}   {x3 : Int32} {y0 : Int64}  {σ : Nat → Nat → Int32} {P : Int64 → (Nat → Nat → Int32) → Prop} (H : K_X11_digest_115 scr y0 (x3 + 1) σ P) : K_X11_digest_129 scr x3 y0 σ P := by
  show XA scr 10 mX11_digest 172 4705 129 [some (.ref 136), none, none, some (.int x3)] [.long y0] (hs σ) (pJ P)
  refine XA.blk (e9 := 115) (ok := true) (ls' := [some (.ref 136), some (.long y0), none, some (.int (x3 + 1))]) (st' := []) (h' := hs σ) [(.lstore_n 1, 1, 1, 0, 0, 0, 0, 0), (.iinc 3 1, 3, 3, 0, 0, 0, 1, 0), (.goto (-18), 3, 115, 0, 0, 0, 0, 0)] (by decide +kernel) rfl rfl ?_
  exact H
set_option maxRecDepth 20000 in
theorem W_X11_digest_148 {scr : ScA}   {y0 : Int64} {y1 : Int64}  {σ : Nat → Nat → Int32} {P : Int64 → (Nat → Nat → Int32) → Prop} (H : ClA scr 6 mX11_chanceOf [.ref 136, .int 5, .int 5, .int 1] σ (fun r9 σ' => K_X11_digest_162 scr (31 * (y0 + y1)) r9 σ' P)) : K_X11_digest_148 scr y0 y1 σ P := by
  show XA scr 10 mX11_digest 172 4705 148 [some (.ref 136), none, none, none] [.long y1, .long y0] (hs σ) (pJ P)
  refine XA.blk (e9 := 159) (ok := true) (ls' := [some (.ref 136), some (.long (y0 + y1)), none, none]) (st' := [.int 1, .int 5, .int 5, .ref 136, .long (31 * (y0 + y1))]) (h' := hs σ) [(.ladd, 1, 0, 0, 0, 0, 0, 0), (.lstore_n 1, 1, 1, 0, 0, 0, 0, 0), (.ldc2_w 356, 3, 0, 0, 0, 1408, 0, 31), (.lload_n 1, 1, 1, 0, 0, 0, 0, 0), (.lmul, 1, 0, 0, 0, 0, 0, 0), (.aload_n 0, 1, 0, 0, 0, 0, 0, 0), (.iconst 5, 1, 0, 0, 0, 0, 5, 0), (.iconst 5, 1, 0, 0, 0, 0, 5, 0), (.iconst 1, 1, 0, 0, 0, 0, 1, 0)] (by decide +kernel) rfl rfl ?_
  refine XA.callV (as := [.int 5, .int 5, .int 1]) (rest := [.long (31 * (y0 + y1))]) (mc' := 0) (ms' := 0) (idx := 330) (t := 1342) cv_X11_chanceOf (by decide +kernel) rfl rfl rfl (Nat.le_of_ble_eq_true rfl) (Nat.le_of_ble_eq_true rfl) (Nat.le_of_ble_eq_true rfl) (Nat.le_of_ble_eq_true rfl) (H) (fun rv h' hp => ?_)
  obtain ⟨r9, s9, rfl, rfl, hK⟩ := hp
  exact ⟨rfl, rfl, XA.drop (by simp [leL]) hK⟩
set_option maxRecDepth 20000 in
theorem W_X11_digest_162 {scr : ScA}   {y0 : Int64} {y1 : Int64}  {σ : Nat → Nat → Int32} {P : Int64 → (Nat → Nat → Int32) → Prop} (H : ClA scr 6 mX11_chanceOf [.ref 136, .int 5, .int 15, .int 0] σ (fun r9 σ' => K_X11_digest_177 scr (31 * (y0 + y1)) r9 σ' P)) : K_X11_digest_162 scr y0 y1 σ P := by
  show XA scr 10 mX11_digest 172 4705 162 [some (.ref 136), none, none, none] [.long y1, .long y0] (hs σ) (pJ P)
  refine XA.blk (e9 := 174) (ok := true) (ls' := [some (.ref 136), some (.long (y0 + y1)), none, none]) (st' := [.int 0, .int 15, .int 5, .ref 136, .long (31 * (y0 + y1))]) (h' := hs σ) [(.ladd, 1, 0, 0, 0, 0, 0, 0), (.lstore_n 1, 1, 1, 0, 0, 0, 0, 0), (.ldc2_w 356, 3, 0, 0, 0, 1408, 0, 31), (.lload_n 1, 1, 1, 0, 0, 0, 0, 0), (.lmul, 1, 0, 0, 0, 0, 0, 0), (.aload_n 0, 1, 0, 0, 0, 0, 0, 0), (.iconst 5, 1, 0, 0, 0, 0, 5, 0), (.bipush 15, 2, 0, 0, 0, 0, 15, 0), (.iconst 0, 1, 0, 0, 0, 0, 0, 0)] (by decide +kernel) rfl rfl ?_
  refine XA.callV (as := [.int 5, .int 15, .int 0]) (rest := [.long (31 * (y0 + y1))]) (mc' := 0) (ms' := 0) (idx := 330) (t := 1342) cv_X11_chanceOf (by decide +kernel) rfl rfl rfl (Nat.le_of_ble_eq_true rfl) (Nat.le_of_ble_eq_true rfl) (Nat.le_of_ble_eq_true rfl) (Nat.le_of_ble_eq_true rfl) (H) (fun rv h' hp => ?_)
  obtain ⟨r9, s9, rfl, rfl, hK⟩ := hp
  exact ⟨rfl, rfl, XA.drop (by simp [leL]) hK⟩
set_option maxRecDepth 20000 in
theorem W_X11_digest_177 {scr : ScA}   {y0 : Int64} {y1 : Int64}  {σ : Nat → Nat → Int32} {P : Int64 → (Nat → Nat → Int32) → Prop} (H : ClA scr 6 mX11_chanceOf [.ref 136, .int 5, .int 15, .int 1] σ (fun r9 σ' => K_X11_digest_192 scr (31 * (y0 + y1)) r9 σ' P)) : K_X11_digest_177 scr y0 y1 σ P := by
  show XA scr 10 mX11_digest 172 4705 177 [some (.ref 136), none, none, none] [.long y1, .long y0] (hs σ) (pJ P)
  refine XA.blk (e9 := 189) (ok := true) (ls' := [some (.ref 136), some (.long (y0 + y1)), none, none]) (st' := [.int 1, .int 15, .int 5, .ref 136, .long (31 * (y0 + y1))]) (h' := hs σ) [(.ladd, 1, 0, 0, 0, 0, 0, 0), (.lstore_n 1, 1, 1, 0, 0, 0, 0, 0), (.ldc2_w 356, 3, 0, 0, 0, 1408, 0, 31), (.lload_n 1, 1, 1, 0, 0, 0, 0, 0), (.lmul, 1, 0, 0, 0, 0, 0, 0), (.aload_n 0, 1, 0, 0, 0, 0, 0, 0), (.iconst 5, 1, 0, 0, 0, 0, 5, 0), (.bipush 15, 2, 0, 0, 0, 0, 15, 0), (.iconst 1, 1, 0, 0, 0, 0, 1, 0)] (by decide +kernel) rfl rfl ?_
  refine XA.callV (as := [.int 5, .int 15, .int 1]) (rest := [.long (31 * (y0 + y1))]) (mc' := 0) (ms' := 0) (idx := 330) (t := 1342) cv_X11_chanceOf (by decide +kernel) rfl rfl rfl (Nat.le_of_ble_eq_true rfl) (Nat.le_of_ble_eq_true rfl) (Nat.le_of_ble_eq_true rfl) (Nat.le_of_ble_eq_true rfl) (H) (fun rv h' hp => ?_)
  obtain ⟨r9, s9, rfl, rfl, hK⟩ := hp
  exact ⟨rfl, rfl, XA.drop (by simp [leL]) hK⟩
set_option maxRecDepth 20000 in
theorem W_X11_digest_192 {scr : ScA}   {y0 : Int64} {y1 : Int64}  {σ : Nat → Nat → Int32} {P : Int64 → (Nat → Nat → Int32) → Prop} (H : CiA scr 7 mX11_topOf [.ref 136, .int 0] σ (fun r9 σ' => K_X11_digest_204 scr (31 * (y0 + y1)) r9 σ' P)) : K_X11_digest_192 scr y0 y1 σ P := by
  show XA scr 10 mX11_digest 172 4705 192 [some (.ref 136), none, none, none] [.long y1, .long y0] (hs σ) (pJ P)
  refine XA.blk (e9 := 201) (ok := true) (ls' := [some (.ref 136), some (.long (y0 + y1)), none, none]) (st' := [.int 0, .ref 136, .long (31 * (y0 + y1))]) (h' := hs σ) [(.ladd, 1, 0, 0, 0, 0, 0, 0), (.lstore_n 1, 1, 1, 0, 0, 0, 0, 0), (.ldc2_w 356, 3, 0, 0, 0, 1408, 0, 31), (.lload_n 1, 1, 1, 0, 0, 0, 0, 0), (.lmul, 1, 0, 0, 0, 0, 0, 0), (.aload_n 0, 1, 0, 0, 0, 0, 0, 0), (.iconst 0, 1, 0, 0, 0, 0, 0, 0)] (by decide +kernel) rfl rfl ?_
  refine XA.callV (as := [.int 0]) (rest := [.long (31 * (y0 + y1))]) (mc' := 0) (ms' := 0) (idx := 265) (t := 1222) cv_X11_topOf (by decide +kernel) rfl rfl rfl (Nat.le_of_ble_eq_true rfl) (Nat.le_of_ble_eq_true rfl) (Nat.le_of_ble_eq_true rfl) (Nat.le_of_ble_eq_true rfl) (H) (fun rv h' hp => ?_)
  obtain ⟨r9, s9, rfl, rfl, hK⟩ := hp
  exact ⟨rfl, rfl, XA.drop (by simp [leL]) hK⟩
set_option maxRecDepth 20000 in
theorem W_X11_digest_204 {scr : ScA}   {y0 : Int64} {y1 : Int32}  {σ : Nat → Nat → Int32} {P : Int64 → (Nat → Nat → Int32) → Prop} (H : CiA scr 7 mX11_topOf [.ref 136, .int 1] σ (fun r9 σ' => K_X11_digest_217 scr (31 * (y0 + (Int32.toInt64 y1))) r9 σ' P)) : K_X11_digest_204 scr y0 y1 σ P := by
  show XA scr 10 mX11_digest 172 4705 204 [some (.ref 136), none, none, none] [.int y1, .long y0] (hs σ) (pJ P)
  refine XA.blk (e9 := 214) (ok := true) (ls' := [some (.ref 136), some (.long (y0 + (Int32.toInt64 y1))), none, none]) (st' := [.int 1, .ref 136, .long (31 * (y0 + (Int32.toInt64 y1)))]) (h' := hs σ) [(.i2l, 1, 0, 0, 0, 0, 0, 0), (.ladd, 1, 0, 0, 0, 0, 0, 0), (.lstore_n 1, 1, 1, 0, 0, 0, 0, 0), (.ldc2_w 356, 3, 0, 0, 0, 1408, 0, 31), (.lload_n 1, 1, 1, 0, 0, 0, 0, 0), (.lmul, 1, 0, 0, 0, 0, 0, 0), (.aload_n 0, 1, 0, 0, 0, 0, 0, 0), (.iconst 1, 1, 0, 0, 0, 0, 1, 0)] (by decide +kernel) rfl rfl ?_
  refine XA.callV (as := [.int 1]) (rest := [.long (31 * (y0 + (Int32.toInt64 y1)))]) (mc' := 0) (ms' := 0) (idx := 265) (t := 1222) cv_X11_topOf (by decide +kernel) rfl rfl rfl (Nat.le_of_ble_eq_true rfl) (Nat.le_of_ble_eq_true rfl) (Nat.le_of_ble_eq_true rfl) (Nat.le_of_ble_eq_true rfl) (H) (fun rv h' hp => ?_)
  obtain ⟨r9, s9, rfl, rfl, hK⟩ := hp
  exact ⟨rfl, rfl, XA.drop (by simp [leL]) hK⟩
set_option maxRecDepth 20000 in
theorem W_X11_digest_217 {scr : ScA}   {y0 : Int64} {y1 : Int32}  {σ : Nat → Nat → Int32} {P : Int64 → (Nat → Nat → Int32) → Prop} (H : CiA scr 7 mX11_mostOf [.ref 136, .int 0] σ (fun r9 σ' => K_X11_digest_230 scr (31 * (y0 + (Int32.toInt64 y1))) r9 σ' P)) : K_X11_digest_217 scr y0 y1 σ P := by
  show XA scr 10 mX11_digest 172 4705 217 [some (.ref 136), none, none, none] [.int y1, .long y0] (hs σ) (pJ P)
  refine XA.blk (e9 := 227) (ok := true) (ls' := [some (.ref 136), some (.long (y0 + (Int32.toInt64 y1))), none, none]) (st' := [.int 0, .ref 136, .long (31 * (y0 + (Int32.toInt64 y1)))]) (h' := hs σ) [(.i2l, 1, 0, 0, 0, 0, 0, 0), (.ladd, 1, 0, 0, 0, 0, 0, 0), (.lstore_n 1, 1, 1, 0, 0, 0, 0, 0), (.ldc2_w 356, 3, 0, 0, 0, 1408, 0, 31), (.lload_n 1, 1, 1, 0, 0, 0, 0, 0), (.lmul, 1, 0, 0, 0, 0, 0, 0), (.aload_n 0, 1, 0, 0, 0, 0, 0, 0), (.iconst 0, 1, 0, 0, 0, 0, 0, 0)] (by decide +kernel) rfl rfl ?_
  refine XA.callV (as := [.int 0]) (rest := [.long (31 * (y0 + (Int32.toInt64 y1)))]) (mc' := 0) (ms' := 0) (idx := 268) (t := 1230) cv_X11_mostOf (by decide +kernel) rfl rfl rfl (Nat.le_of_ble_eq_true rfl) (Nat.le_of_ble_eq_true rfl) (Nat.le_of_ble_eq_true rfl) (Nat.le_of_ble_eq_true rfl) (H) (fun rv h' hp => ?_)
  obtain ⟨r9, s9, rfl, rfl, hK⟩ := hp
  exact ⟨rfl, rfl, XA.drop (by simp [leL]) hK⟩
set_option maxRecDepth 20000 in
theorem W_X11_digest_230 {scr : ScA}   {y0 : Int64} {y1 : Int32}  {σ : Nat → Nat → Int32} {P : Int64 → (Nat → Nat → Int32) → Prop} (H : CiA scr 7 mX11_mostOf [.ref 136, .int 1] σ (fun r9 σ' => K_X11_digest_243 scr (31 * (y0 + (Int32.toInt64 y1))) r9 σ' P)) : K_X11_digest_230 scr y0 y1 σ P := by
  show XA scr 10 mX11_digest 172 4705 230 [some (.ref 136), none, none, none] [.int y1, .long y0] (hs σ) (pJ P)
  refine XA.blk (e9 := 240) (ok := true) (ls' := [some (.ref 136), some (.long (y0 + (Int32.toInt64 y1))), none, none]) (st' := [.int 1, .ref 136, .long (31 * (y0 + (Int32.toInt64 y1)))]) (h' := hs σ) [(.i2l, 1, 0, 0, 0, 0, 0, 0), (.ladd, 1, 0, 0, 0, 0, 0, 0), (.lstore_n 1, 1, 1, 0, 0, 0, 0, 0), (.ldc2_w 356, 3, 0, 0, 0, 1408, 0, 31), (.lload_n 1, 1, 1, 0, 0, 0, 0, 0), (.lmul, 1, 0, 0, 0, 0, 0, 0), (.aload_n 0, 1, 0, 0, 0, 0, 0, 0), (.iconst 1, 1, 0, 0, 0, 0, 1, 0)] (by decide +kernel) rfl rfl ?_
  refine XA.callV (as := [.int 1]) (rest := [.long (31 * (y0 + (Int32.toInt64 y1)))]) (mc' := 0) (ms' := 0) (idx := 268) (t := 1230) cv_X11_mostOf (by decide +kernel) rfl rfl rfl (Nat.le_of_ble_eq_true rfl) (Nat.le_of_ble_eq_true rfl) (Nat.le_of_ble_eq_true rfl) (Nat.le_of_ble_eq_true rfl) (H) (fun rv h' hp => ?_)
  obtain ⟨r9, s9, rfl, rfl, hK⟩ := hp
  exact ⟨rfl, rfl, XA.drop (by simp [leL]) hK⟩
set_option maxRecDepth 20000 in
theorem W_X11_digest_243 {scr : ScA}   {y0 : Int64} {y1 : Int32}  {σ : Nat → Nat → Int32} {P : Int64 → (Nat → Nat → Int32) → Prop} (H : CiA scr 7 mX11_clumsyOf [.ref 136] σ (fun r9 σ' => K_X11_digest_255 scr (31 * (y0 + (Int32.toInt64 y1))) r9 σ' P)) : K_X11_digest_243 scr y0 y1 σ P := by
  show XA scr 10 mX11_digest 172 4705 243 [some (.ref 136), none, none, none] [.int y1, .long y0] (hs σ) (pJ P)
  refine XA.blk (e9 := 252) (ok := true) (ls' := [some (.ref 136), some (.long (y0 + (Int32.toInt64 y1))), none, none]) (st' := [.ref 136, .long (31 * (y0 + (Int32.toInt64 y1)))]) (h' := hs σ) [(.i2l, 1, 0, 0, 0, 0, 0, 0), (.ladd, 1, 0, 0, 0, 0, 0, 0), (.lstore_n 1, 1, 1, 0, 0, 0, 0, 0), (.ldc2_w 356, 3, 0, 0, 0, 1408, 0, 31), (.lload_n 1, 1, 1, 0, 0, 0, 0, 0), (.lmul, 1, 0, 0, 0, 0, 0, 0), (.aload_n 0, 1, 0, 0, 0, 0, 0, 0)] (by decide +kernel) rfl rfl ?_
  refine XA.callV (as := []) (rest := [.long (31 * (y0 + (Int32.toInt64 y1)))]) (mc' := 0) (ms' := 0) (idx := 271) (t := 1238) cv_X11_clumsyOf (by decide +kernel) rfl rfl rfl (Nat.le_of_ble_eq_true rfl) (Nat.le_of_ble_eq_true rfl) (Nat.le_of_ble_eq_true rfl) (Nat.le_of_ble_eq_true rfl) (H) (fun rv h' hp => ?_)
  obtain ⟨r9, s9, rfl, rfl, hK⟩ := hp
  exact ⟨rfl, rfl, XA.drop (by simp [leL]) hK⟩
set_option maxRecDepth 20000 in
theorem W_X11_digest_255 {scr : ScA}   {y0 : Int64} {y1 : Int32}  {σ : Nat → Nat → Int32} {P : Int64 → (Nat → Nat → Int32) → Prop} (H : CiA scr 7 mX11_downOf [.ref 136] σ (fun r9 σ' => K_X11_digest_267 scr (31 * (y0 + (Int32.toInt64 y1))) r9 σ' P)) : K_X11_digest_255 scr y0 y1 σ P := by
  show XA scr 10 mX11_digest 172 4705 255 [some (.ref 136), none, none, none] [.int y1, .long y0] (hs σ) (pJ P)
  refine XA.blk (e9 := 264) (ok := true) (ls' := [some (.ref 136), some (.long (y0 + (Int32.toInt64 y1))), none, none]) (st' := [.ref 136, .long (31 * (y0 + (Int32.toInt64 y1)))]) (h' := hs σ) [(.i2l, 1, 0, 0, 0, 0, 0, 0), (.ladd, 1, 0, 0, 0, 0, 0, 0), (.lstore_n 1, 1, 1, 0, 0, 0, 0, 0), (.ldc2_w 356, 3, 0, 0, 0, 1408, 0, 31), (.lload_n 1, 1, 1, 0, 0, 0, 0, 0), (.lmul, 1, 0, 0, 0, 0, 0, 0), (.aload_n 0, 1, 0, 0, 0, 0, 0, 0)] (by decide +kernel) rfl rfl ?_
  refine XA.callV (as := []) (rest := [.long (31 * (y0 + (Int32.toInt64 y1)))]) (mc' := 0) (ms' := 0) (idx := 274) (t := 1246) cv_X11_downOf (by decide +kernel) rfl rfl rfl (Nat.le_of_ble_eq_true rfl) (Nat.le_of_ble_eq_true rfl) (Nat.le_of_ble_eq_true rfl) (Nat.le_of_ble_eq_true rfl) (H) (fun rv h' hp => ?_)
  obtain ⟨r9, s9, rfl, rfl, hK⟩ := hp
  exact ⟨rfl, rfl, XA.drop (by simp [leL]) hK⟩
set_option maxRecDepth 20000 in
theorem W_X11_digest_267 {scr : ScA}   {y0 : Int64} {y1 : Int32}  {σ : Nat → Nat → Int32} {P : Int64 → (Nat → Nat → Int32) → Prop} (H : K_X11_digest_272 scr (y0 + (Int32.toInt64 y1)) 0 σ P) : K_X11_digest_267 scr y0 y1 σ P := by
  show XA scr 10 mX11_digest 172 4705 267 [some (.ref 136), none, none, none] [.int y1, .long y0] (hs σ) (pJ P)
  refine XA.blk (e9 := 272) (ok := true) (ls' := [some (.ref 136), some (.long (y0 + (Int32.toInt64 y1))), none, some (.int 0)]) (st' := []) (h' := hs σ) [(.i2l, 1, 0, 0, 0, 0, 0, 0), (.ladd, 1, 0, 0, 0, 0, 0, 0), (.lstore_n 1, 1, 1, 0, 0, 0, 0, 0), (.iconst 0, 1, 0, 0, 0, 0, 0, 0), (.istore_n 3, 1, 3, 0, 0, 0, 0, 0)] (by decide +kernel) rfl rfl ?_
  exact H
set_option maxRecDepth 20000 in
theorem W_X11_digest_272 {scr : ScA}   {x1 : Int64} {x3 : Int32}  {σ : Nat → Nat → Int32} {P : Int64 → (Nat → Nat → Int32) → Prop} (H : (3 ≤ x3 → CiA scr 7 mX11_trainOf [.ref 136, .int 0] σ (fun r9 σ' => K_X11_digest_306 scr (31 * x1) r9 σ' P)) ∧ (¬ 3 ≤ x3 → CiA scr 7 mX11_swapOf [.ref 136, .int x3] σ (fun r9 σ' => K_X11_digest_287 scr x3 (31 * x1) r9 σ' P))) : K_X11_digest_272 scr x1 x3 σ P := by
  show XA scr 10 mX11_digest 172 4705 272 [some (.ref 136), some (.long x1), none, some (.int x3)] [] (hs σ) (pJ P)
  refine XA.blk (e9 := 274) (ok := true) (ls' := [some (.ref 136), some (.long x1), none, some (.int x3)]) (st' := [.int 3, .int x3]) (h' := hs σ) [(.iload_n 3, 1, 3, 0, 0, 0, 0, 0), (.iconst 3, 1, 0, 0, 0, 0, 3, 0)] (by decide +kernel) rfl rfl ?_
  refine XA.icmp_ge (22) 296 (by decide +kernel) (fun c1 => ?_) (fun c1 => ?_)
  · have H := H.1 c1
    refine XA.blk (e9 := 303) (ok := true) (ls' := [some (.ref 136), some (.long x1), none, some (.int x3)]) (st' := [.int 0, .ref 136, .long (31 * x1)]) (h' := hs σ) [(.ldc2_w 356, 3, 0, 0, 0, 1408, 0, 31), (.lload_n 1, 1, 1, 0, 0, 0, 0, 0), (.lmul, 1, 0, 0, 0, 0, 0, 0), (.aload_n 0, 1, 0, 0, 0, 0, 0, 0), (.iconst 0, 1, 0, 0, 0, 0, 0, 0)] (by decide +kernel) rfl rfl ?_
    refine XA.callV (as := [.int 0]) (rest := [.long (31 * x1)]) (mc' := 0) (ms' := 0) (idx := 295) (t := 1278) cv_X11_trainOf (by decide +kernel) rfl rfl rfl (Nat.le_of_ble_eq_true rfl) (Nat.le_of_ble_eq_true rfl) (Nat.le_of_ble_eq_true rfl) (Nat.le_of_ble_eq_true rfl) (H) (fun rv h' hp => ?_)
    obtain ⟨r9, s9, rfl, rfl, hK⟩ := hp
    exact ⟨rfl, rfl, XA.drop (by simp [leL]) hK⟩
  · have H := H.2 c1
    refine XA.blk (e9 := 284) (ok := true) (ls' := [some (.ref 136), some (.long x1), none, some (.int x3)]) (st' := [.int x3, .ref 136, .long (31 * x1)]) (h' := hs σ) [(.ldc2_w 356, 3, 0, 0, 0, 1408, 0, 31), (.lload_n 1, 1, 1, 0, 0, 0, 0, 0), (.lmul, 1, 0, 0, 0, 0, 0, 0), (.aload_n 0, 1, 0, 0, 0, 0, 0, 0), (.iload_n 3, 1, 3, 0, 0, 0, 0, 0)] (by decide +kernel) rfl rfl ?_
    refine XA.callV (as := [.int x3]) (rest := [.long (31 * x1)]) (mc' := 0) (ms' := 0) (idx := 289) (t := 1254) cv_X11_swapOf (by decide +kernel) rfl rfl rfl (Nat.le_of_ble_eq_true rfl) (Nat.le_of_ble_eq_true rfl) (Nat.le_of_ble_eq_true rfl) (Nat.le_of_ble_eq_true rfl) (H) (fun rv h' hp => ?_)
    obtain ⟨r9, s9, rfl, rfl, hK⟩ := hp
    exact ⟨rfl, rfl, XA.drop (by simp [leL]) hK⟩
set_option maxRecDepth 20000 in
theorem W_X11_digest_287 {scr : ScA}   {x3 : Int32} {y0 : Int64} {y1 : Int32}  {σ : Nat → Nat → Int32} {P : Int64 → (Nat → Nat → Int32) → Prop} (H : K_X11_digest_272 scr (y0 + (Int32.toInt64 y1)) (x3 + 1) σ P) : K_X11_digest_287 scr x3 y0 y1 σ P := by
  show XA scr 10 mX11_digest 172 4705 287 [some (.ref 136), none, none, some (.int x3)] [.int y1, .long y0] (hs σ) (pJ P)
  refine XA.blk (e9 := 272) (ok := true) (ls' := [some (.ref 136), some (.long (y0 + (Int32.toInt64 y1))), none, some (.int (x3 + 1))]) (st' := []) (h' := hs σ) [(.i2l, 1, 0, 0, 0, 0, 0, 0), (.ladd, 1, 0, 0, 0, 0, 0, 0), (.lstore_n 1, 1, 1, 0, 0, 0, 0, 0), (.iinc 3 1, 3, 3, 0, 0, 0, 1, 0), (.goto (-21), 3, 272, 0, 0, 0, 0, 0)] (by decide +kernel) rfl rfl ?_
  exact H
set_option maxRecDepth 20000 in
theorem W_X11_digest_306 {scr : ScA}   {y0 : Int64} {y1 : Int32}  {σ : Nat → Nat → Int32} {P : Int64 → (Nat → Nat → Int32) → Prop} (H : CiA scr 7 mX11_trainOf [.ref 136, .int 1] σ (fun r9 σ' => K_X11_digest_319 scr (31 * (y0 + (Int32.toInt64 y1))) r9 σ' P)) : K_X11_digest_306 scr y0 y1 σ P := by
  show XA scr 10 mX11_digest 172 4705 306 [some (.ref 136), none, none, none] [.int y1, .long y0] (hs σ) (pJ P)
  refine XA.blk (e9 := 316) (ok := true) (ls' := [some (.ref 136), some (.long (y0 + (Int32.toInt64 y1))), none, none]) (st' := [.int 1, .ref 136, .long (31 * (y0 + (Int32.toInt64 y1)))]) (h' := hs σ) [(.i2l, 1, 0, 0, 0, 0, 0, 0), (.ladd, 1, 0, 0, 0, 0, 0, 0), (.lstore_n 1, 1, 1, 0, 0, 0, 0, 0), (.ldc2_w 356, 3, 0, 0, 0, 1408, 0, 31), (.lload_n 1, 1, 1, 0, 0, 0, 0, 0), (.lmul, 1, 0, 0, 0, 0, 0, 0), (.aload_n 0, 1, 0, 0, 0, 0, 0, 0), (.iconst 1, 1, 0, 0, 0, 0, 1, 0)] (by decide +kernel) rfl rfl ?_
  refine XA.callV (as := [.int 1]) (rest := [.long (31 * (y0 + (Int32.toInt64 y1)))]) (mc' := 0) (ms' := 0) (idx := 295) (t := 1278) cv_X11_trainOf (by decide +kernel) rfl rfl rfl (Nat.le_of_ble_eq_true rfl) (Nat.le_of_ble_eq_true rfl) (Nat.le_of_ble_eq_true rfl) (Nat.le_of_ble_eq_true rfl) (H) (fun rv h' hp => ?_)
  obtain ⟨r9, s9, rfl, rfl, hK⟩ := hp
  exact ⟨rfl, rfl, XA.drop (by simp [leL]) hK⟩
set_option maxRecDepth 20000 in
theorem W_X11_digest_319 {scr : ScA}   {y0 : Int64} {y1 : Int32}  {σ : Nat → Nat → Int32} {P : Int64 → (Nat → Nat → Int32) → Prop} (H : CiA scr 6 mX11_spareBy [.ref 136] σ (fun r9 σ' => K_X11_digest_326 scr (y0 + (Int32.toInt64 y1)) r9 σ' P)) : K_X11_digest_319 scr y0 y1 σ P := by
  show XA scr 10 mX11_digest 172 4705 319 [some (.ref 136), none, none, none] [.int y1, .long y0] (hs σ) (pJ P)
  refine XA.blk (e9 := 323) (ok := true) (ls' := [some (.ref 136), some (.long (y0 + (Int32.toInt64 y1))), none, none]) (st' := [.ref 136]) (h' := hs σ) [(.i2l, 1, 0, 0, 0, 0, 0, 0), (.ladd, 1, 0, 0, 0, 0, 0, 0), (.lstore_n 1, 1, 1, 0, 0, 0, 0, 0), (.aload_n 0, 1, 0, 0, 0, 0, 0, 0)] (by decide +kernel) rfl rfl ?_
  refine XA.callV (as := []) (rest := []) (mc' := 0) (ms' := 0) (idx := 301) (t := 1286) cv_X11_spareBy (by decide +kernel) rfl rfl rfl (Nat.le_of_ble_eq_true rfl) (Nat.le_of_ble_eq_true rfl) (Nat.le_of_ble_eq_true rfl) (Nat.le_of_ble_eq_true rfl) (H) (fun rv h' hp => ?_)
  obtain ⟨r9, s9, rfl, rfl, hK⟩ := hp
  exact ⟨rfl, rfl, hK⟩
set_option maxRecDepth 20000 in
theorem W_X11_digest_326 {scr : ScA}   {x1 : Int64} {y0 : Int32}  {σ : Nat → Nat → Int32} {P : Int64 → (Nat → Nat → Int32) → Prop} (H : (¬ (0 : Int32) = (-1) → (¬ y0 ≤ 0 → inB 0 2 = true)) ∧ (CiA scr 6 mX11_neverNow [.ref 136] σ (fun r9 σ' => K_X11_digest_359 scr (31 * ((31 * ((31 * x1) + (Int32.toInt64 y0))) + (Int32.toInt64 (orV σ y0 0)))) r9 σ' P))) : K_X11_digest_326 scr x1 y0 σ P := by
  show XA scr 10 mX11_digest 172 4705 326 [some (.ref 136), some (.long x1), none, none] [.int y0] (hs σ) (pJ P)
  refine XA.blk (e9 := 344) (ok := true) (ls' := [some (.ref 136), some (.long ((31 * x1) + (Int32.toInt64 y0))), none, some (.int y0)]) (st' := [.int 0, .int y0, .ref 136, .long (31 * ((31 * x1) + (Int32.toInt64 y0)))]) (h' := hs σ) [(.istore_n 3, 1, 3, 0, 0, 0, 0, 0), (.ldc2_w 356, 3, 0, 0, 0, 1408, 0, 31), (.lload_n 1, 1, 1, 0, 0, 0, 0, 0), (.lmul, 1, 0, 0, 0, 0, 0, 0), (.iload_n 3, 1, 3, 0, 0, 0, 0, 0), (.i2l, 1, 0, 0, 0, 0, 0, 0), (.ladd, 1, 0, 0, 0, 0, 0, 0), (.lstore_n 1, 1, 1, 0, 0, 0, 0, 0), (.ldc2_w 356, 3, 0, 0, 0, 1408, 0, 31), (.lload_n 1, 1, 1, 0, 0, 0, 0, 0), (.lmul, 1, 0, 0, 0, 0, 0, 0), (.aload_n 0, 1, 0, 0, 0, 0, 0, 0), (.iload_n 3, 1, 3, 0, 0, 0, 0, 0), (.iconst 0, 1, 0, 0, 0, 0, 0, 0)] (by decide +kernel) rfl rfl ?_
  obtain ⟨o1, H⟩ := H
  refine XA.callV (as := [.int y0, .int 0]) (rest := [.long (31 * ((31 * x1) + (Int32.toInt64 y0)))]) (mc' := 0) (ms' := 0) (idx := 304) (t := 1294) cv_X11_ofRow (by decide +kernel) rfl rfl rfl (Nat.le_of_ble_eq_true rfl) (Nat.le_of_ble_eq_true rfl) (Nat.le_of_ble_eq_true rfl) (Nat.le_of_ble_eq_true rfl) (pu_X11_ofRow scr σ y0 0 o1) (fun rv h' hp => ?_)
  obtain ⟨rfl, rfl⟩ := hp
  refine ⟨rfl, rfl, ?_⟩
  show XA scr 10 mX11_digest 172 4705 347 [some (.ref 136), some (.long ((31 * x1) + (Int32.toInt64 y0))), none, some (.int y0)] [.int (orV σ y0 0), .long (31 * ((31 * x1) + (Int32.toInt64 y0)))] (hs σ) (pJ P)
  refine XA.blk (e9 := 356) (ok := true) (ls' := [some (.ref 136), some (.long ((31 * ((31 * x1) + (Int32.toInt64 y0))) + (Int32.toInt64 (orV σ y0 0)))), none, some (.int y0)]) (st' := [.ref 136, .long (31 * ((31 * ((31 * x1) + (Int32.toInt64 y0))) + (Int32.toInt64 (orV σ y0 0))))]) (h' := hs σ) [(.i2l, 1, 0, 0, 0, 0, 0, 0), (.ladd, 1, 0, 0, 0, 0, 0, 0), (.lstore_n 1, 1, 1, 0, 0, 0, 0, 0), (.ldc2_w 356, 3, 0, 0, 0, 1408, 0, 31), (.lload_n 1, 1, 1, 0, 0, 0, 0, 0), (.lmul, 1, 0, 0, 0, 0, 0, 0), (.aload_n 0, 1, 0, 0, 0, 0, 0, 0)] (by decide +kernel) rfl rfl ?_
  refine XA.callV (as := []) (rest := [.long (31 * ((31 * ((31 * x1) + (Int32.toInt64 y0))) + (Int32.toInt64 (orV σ y0 0))))]) (mc' := 0) (ms' := 0) (idx := 314) (t := 1310) cv_X11_neverNow (by decide +kernel) rfl rfl rfl (Nat.le_of_ble_eq_true rfl) (Nat.le_of_ble_eq_true rfl) (Nat.le_of_ble_eq_true rfl) (Nat.le_of_ble_eq_true rfl) (H) (fun rv h' hp => ?_)
  obtain ⟨r9, s9, rfl, rfl, hK⟩ := hp
  exact ⟨rfl, rfl, XA.drop (by simp [leL]) hK⟩
set_option maxRecDepth 20000 in
theorem W_X11_digest_359 {scr : ScA}   {y0 : Int64} {y1 : Int32}  {σ : Nat → Nat → Int32} {P : Int64 → (Nat → Nat → Int32) → Prop} (H : CiA scr 6 mX11_yearsOf [.ref 136, .int 7, .int 6, .int 0] σ (fun r9 σ' => K_X11_digest_376 scr (31 * (y0 + (Int32.toInt64 y1))) r9 σ' P)) : K_X11_digest_359 scr y0 y1 σ P := by
  show XA scr 10 mX11_digest 172 4705 359 [some (.ref 136), none, none, none] [.int y1, .long y0] (hs σ) (pJ P)
  refine XA.blk (e9 := 373) (ok := true) (ls' := [some (.ref 136), some (.long (y0 + (Int32.toInt64 y1))), none, none]) (st' := [.int 0, .int 6, .int 7, .ref 136, .long (31 * (y0 + (Int32.toInt64 y1)))]) (h' := hs σ) [(.i2l, 1, 0, 0, 0, 0, 0, 0), (.ladd, 1, 0, 0, 0, 0, 0, 0), (.lstore_n 1, 1, 1, 0, 0, 0, 0, 0), (.ldc2_w 356, 3, 0, 0, 0, 1408, 0, 31), (.lload_n 1, 1, 1, 0, 0, 0, 0, 0), (.lmul, 1, 0, 0, 0, 0, 0, 0), (.aload_n 0, 1, 0, 0, 0, 0, 0, 0), (.bipush 7, 2, 0, 0, 0, 0, 7, 0), (.bipush 6, 2, 0, 0, 0, 0, 6, 0), (.iconst 0, 1, 0, 0, 0, 0, 0, 0)] (by decide +kernel) rfl rfl ?_
  refine XA.callV (as := [.int 7, .int 6, .int 0]) (rest := [.long (31 * (y0 + (Int32.toInt64 y1)))]) (mc' := 0) (ms' := 0) (idx := 339) (t := 1357) cv_X11_yearsOf (by decide +kernel) rfl rfl rfl (Nat.le_of_ble_eq_true rfl) (Nat.le_of_ble_eq_true rfl) (Nat.le_of_ble_eq_true rfl) (Nat.le_of_ble_eq_true rfl) (H) (fun rv h' hp => ?_)
  obtain ⟨r9, s9, rfl, rfl, hK⟩ := hp
  exact ⟨rfl, rfl, XA.drop (by simp [leL]) hK⟩
set_option maxRecDepth 20000 in
theorem W_X11_digest_376 {scr : ScA}   {y0 : Int64} {y1 : Int32}  {σ : Nat → Nat → Int32} {P : Int64 → (Nat → Nat → Int32) → Prop} (H : CiA scr 6 mX11_yearsOf [.ref 136, .int 7, .int 6, .int 1] σ (fun r9 σ' => K_X11_digest_393 scr (31 * (y0 + (Int32.toInt64 y1))) r9 σ' P)) : K_X11_digest_376 scr y0 y1 σ P := by
  show XA scr 10 mX11_digest 172 4705 376 [some (.ref 136), none, none, none] [.int y1, .long y0] (hs σ) (pJ P)
  refine XA.blk (e9 := 390) (ok := true) (ls' := [some (.ref 136), some (.long (y0 + (Int32.toInt64 y1))), none, none]) (st' := [.int 1, .int 6, .int 7, .ref 136, .long (31 * (y0 + (Int32.toInt64 y1)))]) (h' := hs σ) [(.i2l, 1, 0, 0, 0, 0, 0, 0), (.ladd, 1, 0, 0, 0, 0, 0, 0), (.lstore_n 1, 1, 1, 0, 0, 0, 0, 0), (.ldc2_w 356, 3, 0, 0, 0, 1408, 0, 31), (.lload_n 1, 1, 1, 0, 0, 0, 0, 0), (.lmul, 1, 0, 0, 0, 0, 0, 0), (.aload_n 0, 1, 0, 0, 0, 0, 0, 0), (.bipush 7, 2, 0, 0, 0, 0, 7, 0), (.bipush 6, 2, 0, 0, 0, 0, 6, 0), (.iconst 1, 1, 0, 0, 0, 0, 1, 0)] (by decide +kernel) rfl rfl ?_
  refine XA.callV (as := [.int 7, .int 6, .int 1]) (rest := [.long (31 * (y0 + (Int32.toInt64 y1)))]) (mc' := 0) (ms' := 0) (idx := 339) (t := 1357) cv_X11_yearsOf (by decide +kernel) rfl rfl rfl (Nat.le_of_ble_eq_true rfl) (Nat.le_of_ble_eq_true rfl) (Nat.le_of_ble_eq_true rfl) (Nat.le_of_ble_eq_true rfl) (H) (fun rv h' hp => ?_)
  obtain ⟨r9, s9, rfl, rfl, hK⟩ := hp
  exact ⟨rfl, rfl, XA.drop (by simp [leL]) hK⟩
set_option maxRecDepth 20000 in
theorem W_X11_digest_393 {scr : ScA}   {y0 : Int64} {y1 : Int32}  {σ : Nat → Nat → Int32} {P : Int64 → (Nat → Nat → Int32) → Prop} (H : P (y0 + (Int32.toInt64 y1)) σ) : K_X11_digest_393 scr y0 y1 σ P := by
  show XA scr 10 mX11_digest 172 4705 393 [none, none, none, none] [.int y1, .long y0] (hs σ) (pJ P)
  refine XA.blk (e9 := 395) (ok := true) (ls' := [none, none, none, none]) (st' := [.long (y0 + (Int32.toInt64 y1))]) (h' := hs σ) [(.i2l, 1, 0, 0, 0, 0, 0, 0), (.ladd, 1, 0, 0, 0, 0, 0, 0)] (by decide +kernel) rfl rfl ?_
  exact XA.ret (some (.long (y0 + (Int32.toInt64 y1)))) rfl (show ckRt mX11_digest 395 .lreturn = true by decide +kernel) trivial (Nat.le_of_ble_eq_true rfl) (Nat.le_of_ble_eq_true rfl) ⟨_, _, rfl, rfl, H⟩
theorem E_X11_digest {scr : ScA}   {σ : Nat → Nat → Int32} {P : Int64 → (Nat → Nat → Int32) → Prop} (h : K_X11_digest_0 scr σ P) : ClA scr 10 mX11_digest [.ref 136] σ P := CtA.of (by decide) (Nat.le_of_ble_eq_true rfl) (XA.drop (by simp [leL, enL]) h)
