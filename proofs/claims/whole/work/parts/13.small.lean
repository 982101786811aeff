def K_X10_isWithin_0 (scr : ScA)  (x0 : Int32) (x1 : Int32) (σ : Nat → Nat → Int32) (P : Int32 → (Nat → Nat → Int32) → Prop) : Prop := XA scr 0 mX10_isWithin 172 4705 0 [some (.int x0), some (.int x1)] [] (hs σ) (pI P)
set_option maxRecDepth 20000 in
theorem W_X10_isWithin_0 {scr : ScA}   {x0 : Int32} {x1 : Int32}  {σ : Nat → Nat → Int32} {P : Int32 → (Nat → Nat → Int32) → Prop} (H : (((if x0 < 0 then 0 else (if x1 ≤ x0 then 0 else 1 : Int32) : Int32) : Int32) = 0 ∨ ((if x0 < 0 then 0 else (if x1 ≤ x0 then 0 else 1 : Int32) : Int32) : Int32) = 1) ∧ P (if x0 < 0 then 0 else (if x1 ≤ x0 then 0 else 1 : Int32) : Int32) σ) : K_X10_isWithin_0 scr x0 x1 σ P := by
  show XA scr 0 mX10_isWithin 172 4705 0 [some (.int x0), some (.int x1)] [] (hs σ) (pI P)
  refine XA.blk (e9 := 1) (ok := true) (ls' := [some (.int x0), some (.int x1)]) (st' := [.int x0]) (h' := hs σ) [(.iload_n 0, 1, 0, 0, 0, 0, 0, 0)] (by decide +kernel) rfl rfl ?_
  have hJ1 : XA scr 0 mX10_isWithin 172 4705 14 [none, none] [.int (if x0 < 0 then 0 else (if x1 ≤ x0 then 0 else 1 : Int32) : Int32)] (hs σ) (pI P) := by
    exact XA.ret (some (.int (if x0 < 0 then 0 else (if x1 ≤ x0 then 0 else 1 : Int32) : Int32))) rfl (show ckRt mX10_isWithin 14 .ireturn = true by decide +kernel) H.1 (Nat.le_of_ble_eq_true rfl) (Nat.le_of_ble_eq_true rfl) ⟨_, _, rfl, rfl, H.2⟩
  refine XA.if_lt (12) 13 (by decide +kernel) (fun c1 => ?_) (fun c1 => ?_)
  · refine XA.blk (e9 := 14) (ok := true) (ls' := [some (.int x0), some (.int x1)]) (st' := [.int 0]) (h' := hs σ) [(.iconst 0, 1, 0, 0, 0, 0, 0, 0)] (by decide +kernel) rfl rfl ?_
    refine XA.drop (ls := [none, none]) (by simp [leL]) ?_
    simpa only [if_pos c1] using hJ1
  · refine XA.blk (e9 := 6) (ok := true) (ls' := [some (.int x0), some (.int x1)]) (st' := [.int x1, .int x0]) (h' := hs σ) [(.iload_n 0, 1, 0, 0, 0, 0, 0, 0), (.iload_n 1, 1, 1, 0, 0, 0, 0, 0)] (by decide +kernel) rfl rfl ?_
    have hJ6 : XA scr 0 mX10_isWithin 172 4705 14 [none, none] [.int (if x1 ≤ x0 then 0 else 1 : Int32)] (hs σ) (pI P) := by
      simpa only [if_neg c1] using hJ1
    refine XA.icmp_ge (7) 13 (by decide +kernel) (fun c2 => ?_) (fun c2 => ?_)
    · refine XA.blk (e9 := 14) (ok := true) (ls' := [some (.int x0), some (.int x1)]) (st' := [.int 0]) (h' := hs σ) [(.iconst 0, 1, 0, 0, 0, 0, 0, 0)] (by decide +kernel) rfl rfl ?_
      refine XA.drop (ls := [none, none]) (by simp [leL]) ?_
      simpa only [if_pos c2] using hJ6
    · refine XA.blk (e9 := 14) (ok := true) (ls' := [some (.int x0), some (.int x1)]) (st' := [.int 1]) (h' := hs σ) [(.iconst 1, 1, 0, 0, 0, 0, 1, 0), (.goto 4, 3, 14, 0, 0, 0, 0, 0)] (by decide +kernel) rfl rfl ?_
      refine XA.drop (ls := [none, none]) (by simp [leL]) ?_
      simpa only [if_neg c2] using hJ6
theorem E_X10_isWithin {scr : ScA}  {x0 : Int32} {x1 : Int32} {σ : Nat → Nat → Int32} {P : Int32 → (Nat → Nat → Int32) → Prop} (h : K_X10_isWithin_0 scr x0 x1 σ P) : CiA scr 0 mX10_isWithin [.int x0, .int x1] σ P := CtA.of (by decide) (Nat.le_of_ble_eq_true rfl) (XA.drop (by simp [leL, enL]) h)
def K_X10_hasBit_0 (scr : ScA)  (x0 : Int32) (x1 : Int32) (σ : Nat → Nat → Int32) (P : Int32 → (Nat → Nat → Int32) → Prop) : Prop := XA scr 0 mX10_hasBit 172 4705 0 [some (.int x0), some (.int x1)] [] (hs σ) (pI P)
set_option maxRecDepth 20000 in
theorem W_X10_hasBit_0 {scr : ScA}   {x0 : Int32} {x1 : Int32}  {σ : Nat → Nat → Int32} {P : Int32 → (Nat → Nat → Int32) → Prop} (H : (((if ((x0 >>> (x1 &&& 31)) &&& 1) = 0 then 0 else 1 : Int32) : Int32) = 0 ∨ ((if ((x0 >>> (x1 &&& 31)) &&& 1) = 0 then 0 else 1 : Int32) : Int32) = 1) ∧ P (if ((x0 >>> (x1 &&& 31)) &&& 1) = 0 then 0 else 1 : Int32) σ) : K_X10_hasBit_0 scr x0 x1 σ P := by
  show XA scr 0 mX10_hasBit 172 4705 0 [some (.int x0), some (.int x1)] [] (hs σ) (pI P)
  refine XA.blk (e9 := 5) (ok := true) (ls' := [some (.int x0), some (.int x1)]) (st' := [.int ((x0 >>> (x1 &&& 31)) &&& 1)]) (h' := hs σ) [(.iload_n 0, 1, 0, 0, 0, 0, 0, 0), (.iload_n 1, 1, 1, 0, 0, 0, 0, 0), (.ishr, 1, 0, 0, 0, 0, 0, 0), (.iconst 1, 1, 0, 0, 0, 0, 1, 0), (.iand, 1, 0, 0, 0, 0, 0, 0)] (by decide +kernel) rfl rfl ?_
  have hJ5 : XA scr 0 mX10_hasBit 172 4705 13 [none, none] [.int (if ((x0 >>> (x1 &&& 31)) &&& 1) = 0 then 0 else 1 : Int32)] (hs σ) (pI P) := by
    exact XA.ret (some (.int (if ((x0 >>> (x1 &&& 31)) &&& 1) = 0 then 0 else 1 : Int32))) rfl (show ckRt mX10_hasBit 13 .ireturn = true by decide +kernel) H.1 (Nat.le_of_ble_eq_true rfl) (Nat.le_of_ble_eq_true rfl) ⟨_, _, rfl, rfl, H.2⟩
  refine XA.if_eq (7) 12 (by decide +kernel) (fun c1 => ?_) (fun c1 => ?_)
  · refine XA.blk (e9 := 13) (ok := true) (ls' := [some (.int x0), some (.int x1)]) (st' := [.int 0]) (h' := hs σ) [(.iconst 0, 1, 0, 0, 0, 0, 0, 0)] (by decide +kernel) rfl rfl ?_
    refine XA.drop (ls := [none, none]) (by simp [leL]) ?_
    simpa only [if_pos c1] using hJ5
  · refine XA.blk (e9 := 13) (ok := true) (ls' := [some (.int x0), some (.int x1)]) (st' := [.int 1]) (h' := hs σ) [(.iconst 1, 1, 0, 0, 0, 0, 1, 0), (.goto 4, 3, 13, 0, 0, 0, 0, 0)] (by decide +kernel) rfl rfl ?_
    refine XA.drop (ls := [none, none]) (by simp [leL]) ?_
    simpa only [if_neg c1] using hJ5
theorem E_X10_hasBit {scr : ScA}  {x0 : Int32} {x1 : Int32} {σ : Nat → Nat → Int32} {P : Int32 → (Nat → Nat → Int32) → Prop} (h : K_X10_hasBit_0 scr x0 x1 σ P) : CiA scr 0 mX10_hasBit [.int x0, .int x1] σ P := CtA.of (by decide) (Nat.le_of_ble_eq_true rfl) (XA.drop (by simp [leL, enL]) h)
def K_X10_height_0 (scr : ScA)  (x0 : Int32) (σ : Nat → Nat → Int32) (P : Int32 → (Nat → Nat → Int32) → Prop) : Prop := XA scr 0 mX10_height 172 4705 0 [some (.int x0), none, none, none, none, none] [] (hs σ) (pI P)
def K_X10_height_12 (scr : ScA)  (x0 : Int32) (x1 : Int32) (x3 : Int32) (x4 : Int32) (σ : Nat → Nat → Int32) (P : Int32 → (Nat → Nat → Int32) → Prop) : Prop := XA scr 0 mX10_height 172 4705 12 [some (.int x0), some (.int x1), some (.retAddr 2), some (.int x3), some (.int x4), none] [] (hs σ) (pI P)
set_option maxRecDepth 20000 in
theorem W_X10_height_0 {scr : ScA}   {x0 : Int32}  {σ : Nat → Nat → Int32} {P : Int32 → (Nat → Nat → Int32) → Prop} (H : K_X10_height_12 scr x0 0 4 0 σ P) : K_X10_height_0 scr x0 σ P := by
  show XA scr 0 mX10_height 172 4705 0 [some (.int x0), none, none, none, none, none] [] (hs σ) (pI P)
  refine XA.blk (e9 := 12) (ok := true) (ls' := [some (.int x0), some (.int 0), some (.retAddr 2), some (.int 4), some (.int 0), none]) (st' := []) (h' := hs σ) [(.iconst 0, 1, 0, 0, 0, 0, 0, 0), (.istore_n 1, 1, 1, 0, 0, 0, 0, 0), (.getstatic 354, 3, 2, 0, 0, 628, 0, 0), (.astore_n 2, 1, 2, 0, 0, 0, 0, 0), (.aload_n 2, 1, 2, 0, 0, 0, 0, 0), (.arraylength, 1, 0, 0, 0, 0, 0, 0), (.istore_n 3, 1, 3, 0, 0, 0, 0, 0), (.iconst 0, 1, 0, 0, 0, 0, 0, 0), (.istore 4, 2, 4, 0, 0, 0, 0, 0)] (by decide +kernel) rfl rfl ?_
  exact H
set_option maxRecDepth 20000 in
theorem W_X10_height_12 {scr : ScA}   {x0 : Int32} {x1 : Int32} {x3 : Int32} {x4 : Int32}  {σ : Nat → Nat → Int32} {P : Int32 → (Nat → Nat → Int32) → Prop} (H : (x3 ≤ x4 → P x1 σ) ∧ (¬ x3 ≤ x4 → (inB x4 4 = true) ∧ (K_X10_height_12 scr x0 (if (x0 &&& (tbV scr 2 (Int32.toNatClampNeg x4))) = 0 then x1 else x1 + 1 : Int32) x3 (x4 + 1) σ P))) : K_X10_height_12 scr x0 x1 x3 x4 σ P := by
  show XA scr 0 mX10_height 172 4705 12 [some (.int x0), some (.int x1), some (.retAddr 2), some (.int x3), some (.int x4), none] [] (hs σ) (pI P)
  refine XA.blk (e9 := 15) (ok := true) (ls' := [some (.int x0), some (.int x1), some (.retAddr 2), some (.int x3), some (.int x4), none]) (st' := [.int x3, .int x4]) (h' := hs σ) [(.iload 4, 2, 4, 0, 0, 0, 0, 0), (.iload_n 3, 1, 3, 0, 0, 0, 0, 0)] (by decide +kernel) rfl rfl ?_
  refine XA.icmp_ge (25) 40 (by decide +kernel) (fun c1 => ?_) (fun c1 => ?_)
  · have H := H.1 c1
    refine XA.blk (e9 := 41) (ok := true) (ls' := [some (.int x0), some (.int x1), some (.retAddr 2), some (.int x3), some (.int x4), none]) (st' := [.int x1]) (h' := hs σ) [(.iload_n 1, 1, 1, 0, 0, 0, 0, 0)] (by decide +kernel) rfl rfl ?_
    exact XA.ret (some (.int x1)) rfl (show ckRt mX10_height 41 .ireturn = true by decide +kernel) trivial (Nat.le_of_ble_eq_true rfl) (Nat.le_of_ble_eq_true rfl) ⟨_, _, rfl, rfl, H⟩
  · have H := H.2 c1
    obtain ⟨o1, H⟩ := H
    refine XA.blk (e9 := 28) (ok := inB x4 4 && (true)) (ls' := [some (.int x0), some (.int x1), some (.retAddr 2), some (.int x3), some (.int x4), some (.int (tbV scr 2 (Int32.toNatClampNeg x4)))]) (st' := [.int (x0 &&& (tbV scr 2 (Int32.toNatClampNeg x4)))]) (h' := hs σ) [(.aload_n 2, 1, 2, 0, 0, 0, 0, 0), (.iload 4, 2, 4, 0, 0, 0, 0, 0), (.iaload, 1, 0, 0, 0, 0, 0, 0), (.istore 5, 2, 5, 0, 0, 0, 0, 0), (.iload_n 0, 1, 0, 0, 0, 0, 0, 0), (.iload 5, 2, 5, 0, 0, 0, 0, 0), (.iand, 1, 0, 0, 0, 0, 0, 0)] (by decide +kernel) rfl (by simp only [o1, Bool.and_true, Bool.true_and]) ?_
    have hJ28 : XA scr 0 mX10_height 172 4705 34 [some (.int x0), some (.int (if (x0 &&& (tbV scr 2 (Int32.toNatClampNeg x4))) = 0 then x1 else x1 + 1 : Int32)), some (.retAddr 2), some (.int x3), some (.int x4), none] [] (hs σ) (pI P) := by
      refine XA.blk (e9 := 12) (ok := true) (ls' := [some (.int x0), some (.int (if (x0 &&& (tbV scr 2 (Int32.toNatClampNeg x4))) = 0 then x1 else x1 + 1 : Int32)), some (.retAddr 2), some (.int x3), some (.int (x4 + 1)), none]) (st' := []) (h' := hs σ) [(.iinc 4 1, 3, 4, 0, 0, 0, 1, 0), (.goto (-25), 3, 12, 0, 0, 0, 0, 0)] (by decide +kernel) rfl rfl ?_
      exact H
    refine XA.if_eq (6) 34 (by decide +kernel) (fun c2 => ?_) (fun c2 => ?_)
    · refine XA.drop (ls := [some (.int x0), some (.int x1), some (.retAddr 2), some (.int x3), some (.int x4), none]) (by simp [leL]) ?_
      simpa only [if_pos c2] using hJ28
    · refine XA.blk (e9 := 34) (ok := true) (ls' := [some (.int x0), some (.int (x1 + 1)), some (.retAddr 2), some (.int x3), some (.int x4), some (.int (tbV scr 2 (Int32.toNatClampNeg x4)))]) (st' := []) (h' := hs σ) [(.iinc 1 1, 3, 1, 0, 0, 0, 1, 0)] (by decide +kernel) rfl rfl ?_
      refine XA.drop (ls := [some (.int x0), some (.int (x1 + 1)), some (.retAddr 2), some (.int x3), some (.int x4), none]) (by simp [leL]) ?_
      simpa only [if_neg c2] using hJ28
theorem E_X10_height {scr : ScA}  {x0 : Int32} {σ : Nat → Nat → Int32} {P : Int32 → (Nat → Nat → Int32) → Prop} (h : K_X10_height_0 scr x0 σ P) : CiA scr 0 mX10_height [.int x0] σ P := CtA.of (by decide) (Nat.le_of_ble_eq_true rfl) (XA.drop (by simp [leL, enL]) h)
def K_X10_mixed_0 (scr : ScA)  (x0 : Int64) (x2 : Int64) (σ : Nat → Nat → Int32) (P : Int64 → (Nat → Nat → Int32) → Prop) : Prop := XA scr 0 mX10_mixed 172 4705 0 [some (.long x0), none, some (.long x2), none] [] (hs σ) (pJ P)
set_option maxRecDepth 20000 in
theorem W_X10_mixed_0 {scr : ScA}   {x0 : Int64} {x2 : Int64}  {σ : Nat → Nat → Int32} {P : Int64 → (Nat → Nat → Int32) → Prop} (H : P ((31 * x0) + x2) σ) : K_X10_mixed_0 scr x0 x2 σ P := by
  show XA scr 0 mX10_mixed 172 4705 0 [some (.long x0), none, some (.long x2), none] [] (hs σ) (pJ P)
  refine XA.blk (e9 := 7) (ok := true) (ls' := [some (.long x0), none, some (.long x2), none]) (st' := [.long ((31 * x0) + x2)]) (h' := hs σ) [(.ldc2_w 352, 3, 0, 0, 0, 864, 0, 31), (.lload_n 0, 1, 0, 0, 0, 0, 0, 0), (.lmul, 1, 0, 0, 0, 0, 0, 0), (.lload_n 2, 1, 2, 0, 0, 0, 0, 0), (.ladd, 1, 0, 0, 0, 0, 0, 0)] (by decide +kernel) rfl rfl ?_
  exact XA.ret (some (.long ((31 * x0) + x2))) rfl (show ckRt mX10_mixed 7 .lreturn = true by decide +kernel) trivial (Nat.le_of_ble_eq_true rfl) (Nat.le_of_ble_eq_true rfl) ⟨_, _, rfl, rfl, H⟩
theorem E_X10_mixed {scr : ScA}  {x0 : Int64} {x2 : Int64} {σ : Nat → Nat → Int32} {P : Int64 → (Nat → Nat → Int32) → Prop} (h : K_X10_mixed_0 scr x0 x2 σ P) : ClA scr 0 mX10_mixed [.long x0, .long x2] σ P := CtA.of (by decide) (Nat.le_of_ble_eq_true rfl) (XA.drop (by simp [leL, enL]) h)
def K_X5_tiring_0 (scr : ScA)  (x0 : Int32) (x1 : Int32) (σ : Nat → Nat → Int32) (P : Int32 → (Nat → Nat → Int32) → Prop) : Prop := XA scr 0 mX5_tiring 172 4705 0 [some (.int x0), some (.int x1), none] [] (hs σ) (pI P)
set_option maxRecDepth 20000 in
theorem W_X5_tiring_0 {scr : ScA}   {x0 : Int32} {x1 : Int32}  {σ : Nat → Nat → Int32} {P : Int32 → (Nat → Nat → Int32) → Prop} (H : (x0 = 1 → P ((x1 / 8) + 1) σ) ∧ (x0 = 2 → P (if (x1 / 8) ≤ 0 then 0 else (x1 / 8) - 1 : Int32) σ) ∧ (¬ x0 = 1 → ¬ x0 = 2 → P (x1 / 8) σ)) : K_X5_tiring_0 scr x0 x1 σ P := by
  show XA scr 0 mX5_tiring 172 4705 0 [some (.int x0), some (.int x1), none] [] (hs σ) (pI P)
  refine XA.blk (e9 := 6) (ok := true) (ls' := [some (.int x0), some (.int x1), some (.int (x1 / 8))]) (st' := [.int x0]) (h' := hs σ) [(.iload_n 1, 1, 1, 0, 0, 0, 0, 0), (.bipush 8, 2, 0, 0, 0, 0, 8, 0), (.idiv, 1, 0, 0, 0, 0, 0, 0), (.istore_n 2, 1, 2, 0, 0, 0, 0, 0), (.iload_n 0, 1, 0, 0, 0, 0, 0, 0)] (by decide +kernel) rfl rfl ?_
  refine XA.lsw (42) [(1, 26), (2, 30)] 26 [(1, 32), (2, 36)] 48 (by decide +kernel) (fun q9 hq9 e9 => ?_) (fun e9 => ?_)
  · simp only [List.mem_cons, List.not_mem_nil, or_false] at hq9
    rcases hq9 with rfl | rfl
    · have H := H.1 e9
      refine XA.blk (e9 := 35) (ok := true) (ls' := [some (.int x0), some (.int x1), some (.int (x1 / 8))]) (st' := [.int ((x1 / 8) + 1)]) (h' := hs σ) [(.iload_n 2, 1, 2, 0, 0, 0, 0, 0), (.iconst 1, 1, 0, 0, 0, 0, 1, 0), (.iadd, 1, 0, 0, 0, 0, 0, 0)] (by decide +kernel) rfl rfl ?_
      exact XA.ret (some (.int ((x1 / 8) + 1))) rfl (show ckRt mX5_tiring 35 .ireturn = true by decide +kernel) trivial (Nat.le_of_ble_eq_true rfl) (Nat.le_of_ble_eq_true rfl) ⟨_, _, rfl, rfl, H⟩
    · have H := H.2.1 e9
      refine XA.blk (e9 := 37) (ok := true) (ls' := [some (.int x0), some (.int x1), some (.int (x1 / 8))]) (st' := [.int (x1 / 8)]) (h' := hs σ) [(.iload_n 2, 1, 2, 0, 0, 0, 0, 0)] (by decide +kernel) rfl rfl ?_
      have hJ37 : XA scr 0 mX5_tiring 172 4705 47 [none, none, none] [.int (if (x1 / 8) ≤ 0 then 0 else (x1 / 8) - 1 : Int32)] (hs σ) (pI P) := by
        exact XA.ret (some (.int (if (x1 / 8) ≤ 0 then 0 else (x1 / 8) - 1 : Int32))) rfl (show ckRt mX5_tiring 47 .ireturn = true by decide +kernel) trivial (Nat.le_of_ble_eq_true rfl) (Nat.le_of_ble_eq_true rfl) ⟨_, _, rfl, rfl, H⟩
      refine XA.if_le (9) 46 (by decide +kernel) (fun c1 => ?_) (fun c1 => ?_)
      · refine XA.blk (e9 := 47) (ok := true) (ls' := [some (.int x0), some (.int x1), some (.int (x1 / 8))]) (st' := [.int 0]) (h' := hs σ) [(.iconst 0, 1, 0, 0, 0, 0, 0, 0)] (by decide +kernel) rfl rfl ?_
        refine XA.drop (ls := [none, none, none]) (by simp [leL]) ?_
        simpa only [if_pos c1] using hJ37
      · refine XA.blk (e9 := 47) (ok := true) (ls' := [some (.int x0), some (.int x1), some (.int (x1 / 8))]) (st' := [.int ((x1 / 8) - 1)]) (h' := hs σ) [(.iload_n 2, 1, 2, 0, 0, 0, 0, 0), (.iconst 1, 1, 0, 0, 0, 0, 1, 0), (.isub, 1, 0, 0, 0, 0, 0, 0), (.goto 4, 3, 47, 0, 0, 0, 0, 0)] (by decide +kernel) rfl rfl ?_
        refine XA.drop (ls := [none, none, none]) (by simp [leL]) ?_
        simpa only [if_neg c1] using hJ37
  · have H := H.2.2 (e9 (1, 32) (by simp)) (e9 (2, 36) (by simp))
    refine XA.blk (e9 := 49) (ok := true) (ls' := [some (.int x0), some (.int x1), some (.int (x1 / 8))]) (st' := [.int (x1 / 8)]) (h' := hs σ) [(.iload_n 2, 1, 2, 0, 0, 0, 0, 0)] (by decide +kernel) rfl rfl ?_
    exact XA.ret (some (.int (x1 / 8))) rfl (show ckRt mX5_tiring 49 .ireturn = true by decide +kernel) trivial (Nat.le_of_ble_eq_true rfl) (Nat.le_of_ble_eq_true rfl) ⟨_, _, rfl, rfl, H⟩
theorem E_X5_tiring {scr : ScA}  {x0 : Int32} {x1 : Int32} {σ : Nat → Nat → Int32} {P : Int32 → (Nat → Nat → Int32) → Prop} (h : K_X5_tiring_0 scr x0 x1 σ P) : CiA scr 0 mX5_tiring [.int x0, .int x1] σ P := CtA.of (by decide) (Nat.le_of_ble_eq_true rfl) (XA.drop (by simp [leL, enL]) h)
def K_X1_following_0 (scr : ScA)  (x0 : Int32) (σ : Nat → Nat → Int32) (P : Int32 → (Nat → Nat → Int32) → Prop) : Prop := XA scr 0 mX1_following 172 4705 0 [some (.int x0)] [] (hs σ) (pI P)
set_option maxRecDepth 20000 in
theorem W_X1_following_0 {scr : ScA}   {x0 : Int32}  {σ : Nat → Nat → Int32} {P : Int32 → (Nat → Nat → Int32) → Prop} (H : P ((1103515245 * x0) + 12345) σ) : K_X1_following_0 scr x0 σ P := by
  show XA scr 0 mX1_following 172 4705 0 [some (.int x0)] [] (hs σ) (pI P)
  refine XA.blk (e9 := 8) (ok := true) (ls' := [some (.int x0)]) (st' := [.int ((1103515245 * x0) + 12345)]) (h' := hs σ) [(.ldc 33, 2, 0, 0, 0, 800, 1103515245, 0), (.iload_n 0, 1, 0, 0, 0, 0, 0, 0), (.imul, 1, 0, 0, 0, 0, 0, 0), (.sipush 12345, 3, 0, 0, 0, 0, 12345, 0), (.iadd, 1, 0, 0, 0, 0, 0, 0)] (by decide +kernel) rfl rfl ?_
  exact XA.ret (some (.int ((1103515245 * x0) + 12345))) rfl (show ckRt mX1_following 8 .ireturn = true by decide +kernel) trivial (Nat.le_of_ble_eq_true rfl) (Nat.le_of_ble_eq_true rfl) ⟨_, _, rfl, rfl, H⟩
theorem E_X1_following {scr : ScA}  {x0 : Int32} {σ : Nat → Nat → Int32} {P : Int32 → (Nat → Nat → Int32) → Prop} (h : K_X1_following_0 scr x0 σ P) : CiA scr 0 mX1_following [.int x0] σ P := CtA.of (by decide) (Nat.le_of_ble_eq_true rfl) (XA.drop (by simp [leL, enL]) h)
def K_X1_allBits_0 (scr : ScA) (v : Nat)  (σ : Nat → Nat → Int32) (P : Int32 → (Nat → Nat → Int32) → Prop) : Prop := XA scr 0 mX1_allBits 172 4705 0 [some (.ref v)] [] (hs σ) (pI P)
set_option maxRecDepth 20000 in
theorem W_X1_allBits_0 {scr : ScA} {v : Nat} (hv : isEv v)   {σ : Nat → Nat → Int32} {P : Int32 → (Nat → Nat → Int32) → Prop} (H : P (((1 : Int32) <<< ((σ v 3) &&& 31)) - 1) σ) : K_X1_allBits_0 scr v σ P := by
  show XA scr 0 mX1_allBits 172 4705 0 [some (.ref v)] [] (hs σ) (pI P)
  refine XA.blk (e9 := 8) (ok := kO 172 S0 v 1 && (true)) (ls' := [some (.ref v)]) (st' := [.int (((1 : Int32) <<< ((σ v 3) &&& 31)) - 1)]) (h' := hs σ) [(.iconst 1, 1, 0, 0, 0, 0, 1, 0), (.aload_n 0, 1, 0, 0, 0, 0, 0, 0), (.getfield 21, 3, 1, 3, 0, 171, 0, 0), (.ishl, 1, 0, 0, 0, 0, 0, 0), (.iconst 1, 1, 0, 0, 0, 0, 1, 0), (.isub, 1, 0, 0, 0, 0, 0, 0)] (by decide +kernel) rfl (by simp only [evO hv, Bool.and_true, Bool.true_and]) ?_
  exact XA.ret (some (.int (((1 : Int32) <<< ((σ v 3) &&& 31)) - 1))) rfl (show ckRt mX1_allBits 8 .ireturn = true by decide +kernel) trivial (Nat.le_of_ble_eq_true rfl) (Nat.le_of_ble_eq_true rfl) ⟨_, _, rfl, rfl, H⟩
theorem E_X1_allBits {scr : ScA} {v : Nat}  {σ : Nat → Nat → Int32} {P : Int32 → (Nat → Nat → Int32) → Prop} (h : K_X1_allBits_0 scr v σ P) : CiA scr 0 mX1_allBits [.ref v] σ P := CtA.of (by decide) (Nat.le_of_ble_eq_true rfl) (XA.drop (by simp [leL, enL]) h)
def K_X1_add_0 (scr : ScA) (v : Nat) (x1 : Int32) (x2 : Int32) (x3 : Int32) (σ : Nat → Nat → Int32) (P : (Nat → Nat → Int32) → Prop) : Prop := XA scr 0 mX1_add 172 4705 0 [some (.ref v), some (.int x1), some (.int x2), some (.int x3)] [] (hs σ) (pV P)
set_option maxRecDepth 20000 in
theorem W_X1_add_0 {scr : ScA} {v : Nat} (hv : isEv v) {x1 : Int32} {x2 : Int32} {x3 : Int32}  {σ : Nat → Nat → Int32} {P : (Nat → Nat → Int32) → Prop} (H : (8 ≤ (σ v 3) → P σ) ∧ (¬ 8 ≤ (σ v 3) → (inB (σ v 3) 8 = true) ∧ (∀ σ1, σ1 = (su σ (v + 1) (Int32.toNatClampNeg (σ v 3)) x1) → (inB (σ1 v 3) 8 = true) ∧ (∀ σ2, σ2 = (su σ1 (v + 2) (Int32.toNatClampNeg (σ1 v 3)) x2) → (inB (σ2 v 3) 8 = true) ∧ (∀ σ3, σ3 = (su σ2 (v + 3) (Int32.toNatClampNeg (σ2 v 3)) x3) → ∀ σ4, σ4 = (su σ3 v 3 ((σ3 v 3) + 1)) → P σ4))))) : K_X1_add_0 scr v x1 x2 x3 σ P := by
  show XA scr 0 mX1_add 172 4705 0 [some (.ref v), some (.int x1), some (.int x2), some (.int x3)] [] (hs σ) (pV P)
  refine XA.blk (e9 := 6) (ok := kO 172 S0 v 1 && (true)) (ls' := [some (.ref v), some (.int x1), some (.int x2), some (.int x3)]) (st' := [.int 8, .int (σ v 3)]) (h' := hs σ) [(.aload_n 0, 1, 0, 0, 0, 0, 0, 0), (.getfield 21, 3, 1, 3, 0, 171, 0, 0), (.bipush 8, 2, 0, 0, 0, 0, 8, 0)] (by decide +kernel) rfl (by simp only [evO hv, Bool.and_true, Bool.true_and]) ?_
  refine XA.icmp_ge (43) 49 (by decide +kernel) (fun c1 => ?_) (fun c1 => ?_)
  · have H := H.1 c1
    exact XA.ret none rfl (show ckRt mX1_add 49 .return_ = true by decide +kernel) trivial (Nat.le_of_ble_eq_true rfl) (Nat.le_of_ble_eq_true rfl) ⟨_, rfl, rfl, H⟩
  · have H := H.2 c1
    obtain ⟨o1, H⟩ := H
    refine XA.blk (e9 := 19) (ok := (kO 172 S0 v 1 && kR R0 v 0 (v + 1)) && (kO 172 S0 v 1 && (kA 172 S0 (v + 1) 1 (σ v 3) && (true)))) (ls' := [some (.ref v), some (.int x1), some (.int x2), some (.int x3)]) (st' := []) (h' := hs (su σ (v + 1) (Int32.toNatClampNeg (σ v 3)) x1)) [(.aload_n 0, 1, 0, 0, 0, 0, 0, 0), (.getfield 9, 3, 1, 0, 2, 165, 0, 0), (.aload_n 0, 1, 0, 0, 0, 0, 0, 0), (.getfield 21, 3, 1, 3, 0, 171, 0, 0), (.iload_n 1, 1, 1, 0, 0, 0, 0, 0), (.iastore, 1, 0, 0, 0, 0, 0, 0)] (by decide +kernel) rfl (by simp only [evO hv, evR0 hv, evA1 hv (σ v 3), o1, Bool.and_true, Bool.true_and]) ?_
    obtain ⟨σ1, hσ1⟩ : ∃ s9, s9 = (su σ (v + 1) (Int32.toNatClampNeg (σ v 3)) x1) := ⟨_, rfl⟩
    rw [← hσ1]
    have H := H σ1 hσ1
    obtain ⟨o2, H⟩ := H
    refine XA.blk (e9 := 29) (ok := (kO 172 S0 v 1 && kR R0 v 1 (v + 2)) && (kO 172 S0 v 1 && (kA 172 S0 (v + 2) 1 (σ1 v 3) && (true)))) (ls' := [some (.ref v), some (.int x1), some (.int x2), some (.int x3)]) (st' := []) (h' := hs (su σ1 (v + 2) (Int32.toNatClampNeg (σ1 v 3)) x2)) [(.aload_n 0, 1, 0, 0, 0, 0, 0, 0), (.getfield 15, 3, 1, 1, 3, 167, 0, 0), (.aload_n 0, 1, 0, 0, 0, 0, 0, 0), (.getfield 21, 3, 1, 3, 0, 171, 0, 0), (.iload_n 2, 1, 2, 0, 0, 0, 0, 0), (.iastore, 1, 0, 0, 0, 0, 0, 0)] (by decide +kernel) rfl (by simp only [evO hv, evR1 hv, evA2 hv (σ1 v 3), o2, Bool.and_true, Bool.true_and]) ?_
    obtain ⟨σ2, hσ2⟩ : ∃ s9, s9 = (su σ1 (v + 2) (Int32.toNatClampNeg (σ1 v 3)) x2) := ⟨_, rfl⟩
    rw [← hσ2]
    have H := H σ2 hσ2
    obtain ⟨o3, H⟩ := H
    refine XA.blk (e9 := 39) (ok := (kO 172 S0 v 1 && kR R0 v 2 (v + 3)) && (kO 172 S0 v 1 && (kA 172 S0 (v + 3) 1 (σ2 v 3) && (true)))) (ls' := [some (.ref v), some (.int x1), some (.int x2), some (.int x3)]) (st' := []) (h' := hs (su σ2 (v + 3) (Int32.toNatClampNeg (σ2 v 3)) x3)) [(.aload_n 0, 1, 0, 0, 0, 0, 0, 0), (.getfield 18, 3, 1, 2, 4, 169, 0, 0), (.aload_n 0, 1, 0, 0, 0, 0, 0, 0), (.getfield 21, 3, 1, 3, 0, 171, 0, 0), (.iload_n 3, 1, 3, 0, 0, 0, 0, 0), (.iastore, 1, 0, 0, 0, 0, 0, 0)] (by decide +kernel) rfl (by simp only [evO hv, evR2 hv, evA3 hv (σ2 v 3), o3, Bool.and_true, Bool.true_and]) ?_
    obtain ⟨σ3, hσ3⟩ : ∃ s9, s9 = (su σ2 (v + 3) (Int32.toNatClampNeg (σ2 v 3)) x3) := ⟨_, rfl⟩
    rw [← hσ3]
    have H := H σ3 hσ3
    refine XA.blk (e9 := 49) (ok := kO 172 S0 v 1 && (kO 172 S0 v 1 && (true))) (ls' := [some (.ref v), some (.int x1), some (.int x2), some (.int x3)]) (st' := []) (h' := hs (su σ3 v 3 ((σ3 v 3) + 1))) [(.aload_n 0, 1, 0, 0, 0, 0, 0, 0), (.dup, 1, 0, 0, 0, 0, 0, 0), (.getfield 21, 3, 1, 3, 0, 171, 0, 0), (.iconst 1, 1, 0, 0, 0, 0, 1, 0), (.iadd, 1, 0, 0, 0, 0, 0, 0), (.putfield 21, 3, 1, 3, 0, 171, 0, 0)] (by decide +kernel) rfl (by simp only [evO hv, Bool.and_true, Bool.true_and]) ?_
    obtain ⟨σ4, hσ4⟩ : ∃ s9, s9 = (su σ3 v 3 ((σ3 v 3) + 1)) := ⟨_, rfl⟩
    rw [← hσ4]
    have H := H σ4 hσ4
    exact XA.ret none rfl (show ckRt mX1_add 49 .return_ = true by decide +kernel) trivial (Nat.le_of_ble_eq_true rfl) (Nat.le_of_ble_eq_true rfl) ⟨_, rfl, rfl, H⟩
theorem E_X1_add {scr : ScA} {v : Nat} {x1 : Int32} {x2 : Int32} {x3 : Int32} {σ : Nat → Nat → Int32} {P : (Nat → Nat → Int32) → Prop} (h : K_X1_add_0 scr v x1 x2 x3 σ P) : CvA scr 0 mX1_add [.ref v, .int x1, .int x2, .int x3] σ P := CtA.of (by decide) (Nat.le_of_ble_eq_true rfl) (XA.drop (by simp [leL, enL]) h)
def K_J6_bitCount_0f7a4_0 (scr : ScA)  (x0 : Int32) (σ : Nat → Nat → Int32) (P : Int32 → (Nat → Nat → Int32) → Prop) : Prop := XA scr 0 mJ6_bitCount_0f7a4 172 4705 0 [some (.int x0)] [] (hs σ) (pI P)
set_option maxRecDepth 20000 in
theorem W_J6_bitCount_0f7a4_0 {scr : ScA}   {x0 : Int32}  {σ : Nat → Nat → Int32} {P : Int32 → (Nat → Nat → Int32) → Prop} (H : P ((((((((x0 - (((x0.toUInt32 >>> ((1 : Int32).toUInt32 &&& Int32.toUInt32 31)).toInt32) &&& 1431655765)) &&& 858993459) + ((((x0 - (((x0.toUInt32 >>> ((1 : Int32).toUInt32 &&& Int32.toUInt32 31)).toInt32) &&& 1431655765)).toUInt32 >>> ((2 : Int32).toUInt32 &&& Int32.toUInt32 31)).toInt32) &&& 858993459)) + (((((x0 - (((x0.toUInt32 >>> ((1 : Int32).toUInt32 &&& Int32.toUInt32 31)).toInt32) &&& 1431655765)) &&& 858993459) + ((((x0 - (((x0.toUInt32 >>> ((1 : Int32).toUInt32 &&& Int32.toUInt32 31)).toInt32) &&& 1431655765)).toUInt32 >>> ((2 : Int32).toUInt32 &&& Int32.toUInt32 31)).toInt32) &&& 858993459)).toUInt32 >>> ((4 : Int32).toUInt32 &&& Int32.toUInt32 31)).toInt32)) &&& 252645135) + (((((((x0 - (((x0.toUInt32 >>> ((1 : Int32).toUInt32 &&& Int32.toUInt32 31)).toInt32) &&& 1431655765)) &&& 858993459) + ((((x0 - (((x0.toUInt32 >>> ((1 : Int32).toUInt32 &&& Int32.toUInt32 31)).toInt32) &&& 1431655765)).toUInt32 >>> ((2 : Int32).toUInt32 &&& Int32.toUInt32 31)).toInt32) &&& 858993459)) + (((((x0 - (((x0.toUInt32 >>> ((1 : Int32).toUInt32 &&& Int32.toUInt32 31)).toInt32) &&& 1431655765)) &&& 858993459) + ((((x0 - (((x0.toUInt32 >>> ((1 : Int32).toUInt32 &&& Int32.toUInt32 31)).toInt32) &&& 1431655765)).toUInt32 >>> ((2 : Int32).toUInt32 &&& Int32.toUInt32 31)).toInt32) &&& 858993459)).toUInt32 >>> ((4 : Int32).toUInt32 &&& Int32.toUInt32 31)).toInt32)) &&& 252645135).toUInt32 >>> ((8 : Int32).toUInt32 &&& Int32.toUInt32 31)).toInt32)) + ((((((((x0 - (((x0.toUInt32 >>> ((1 : Int32).toUInt32 &&& Int32.toUInt32 31)).toInt32) &&& 1431655765)) &&& 858993459) + ((((x0 - (((x0.toUInt32 >>> ((1 : Int32).toUInt32 &&& Int32.toUInt32 31)).toInt32) &&& 1431655765)).toUInt32 >>> ((2 : Int32).toUInt32 &&& Int32.toUInt32 31)).toInt32) &&& 858993459)) + (((((x0 - (((x0.toUInt32 >>> ((1 : Int32).toUInt32 &&& Int32.toUInt32 31)).toInt32) &&& 1431655765)) &&& 858993459) + ((((x0 - (((x0.toUInt32 >>> ((1 : Int32).toUInt32 &&& Int32.toUInt32 31)).toInt32) &&& 1431655765)).toUInt32 >>> ((2 : Int32).toUInt32 &&& Int32.toUInt32 31)).toInt32) &&& 858993459)).toUInt32 >>> ((4 : Int32).toUInt32 &&& Int32.toUInt32 31)).toInt32)) &&& 252645135) + (((((((x0 - (((x0.toUInt32 >>> ((1 : Int32).toUInt32 &&& Int32.toUInt32 31)).toInt32) &&& 1431655765)) &&& 858993459) + ((((x0 - (((x0.toUInt32 >>> ((1 : Int32).toUInt32 &&& Int32.toUInt32 31)).toInt32) &&& 1431655765)).toUInt32 >>> ((2 : Int32).toUInt32 &&& Int32.toUInt32 31)).toInt32) &&& 858993459)) + (((((x0 - (((x0.toUInt32 >>> ((1 : Int32).toUInt32 &&& Int32.toUInt32 31)).toInt32) &&& 1431655765)) &&& 858993459) + ((((x0 - (((x0.toUInt32 >>> ((1 : Int32).toUInt32 &&& Int32.toUInt32 31)).toInt32) &&& 1431655765)).toUInt32 >>> ((2 : Int32).toUInt32 &&& Int32.toUInt32 31)).toInt32) &&& 858993459)).toUInt32 >>> ((4 : Int32).toUInt32 &&& Int32.toUInt32 31)).toInt32)) &&& 252645135).toUInt32 >>> ((8 : Int32).toUInt32 &&& Int32.toUInt32 31)).toInt32)).toUInt32 >>> ((16 : Int32).toUInt32 &&& Int32.toUInt32 31)).toInt32)) &&& 63) σ) : K_J6_bitCount_0f7a4_0 scr x0 σ P := by
  show XA scr 0 mJ6_bitCount_0f7a4 172 4705 0 [some (.int x0)] [] (hs σ) (pI P)
  refine XA.blk (e9 := 52) (ok := true) (ls' := [some (.int (((((((x0 - (((x0.toUInt32 >>> ((1 : Int32).toUInt32 &&& Int32.toUInt32 31)).toInt32) &&& 1431655765)) &&& 858993459) + ((((x0 - (((x0.toUInt32 >>> ((1 : Int32).toUInt32 &&& Int32.toUInt32 31)).toInt32) &&& 1431655765)).toUInt32 >>> ((2 : Int32).toUInt32 &&& Int32.toUInt32 31)).toInt32) &&& 858993459)) + (((((x0 - (((x0.toUInt32 >>> ((1 : Int32).toUInt32 &&& Int32.toUInt32 31)).toInt32) &&& 1431655765)) &&& 858993459) + ((((x0 - (((x0.toUInt32 >>> ((1 : Int32).toUInt32 &&& Int32.toUInt32 31)).toInt32) &&& 1431655765)).toUInt32 >>> ((2 : Int32).toUInt32 &&& Int32.toUInt32 31)).toInt32) &&& 858993459)).toUInt32 >>> ((4 : Int32).toUInt32 &&& Int32.toUInt32 31)).toInt32)) &&& 252645135) + (((((((x0 - (((x0.toUInt32 >>> ((1 : Int32).toUInt32 &&& Int32.toUInt32 31)).toInt32) &&& 1431655765)) &&& 858993459) + ((((x0 - (((x0.toUInt32 >>> ((1 : Int32).toUInt32 &&& Int32.toUInt32 31)).toInt32) &&& 1431655765)).toUInt32 >>> ((2 : Int32).toUInt32 &&& Int32.toUInt32 31)).toInt32) &&& 858993459)) + (((((x0 - (((x0.toUInt32 >>> ((1 : Int32).toUInt32 &&& Int32.toUInt32 31)).toInt32) &&& 1431655765)) &&& 858993459) + ((((x0 - (((x0.toUInt32 >>> ((1 : Int32).toUInt32 &&& Int32.toUInt32 31)).toInt32) &&& 1431655765)).toUInt32 >>> ((2 : Int32).toUInt32 &&& Int32.toUInt32 31)).toInt32) &&& 858993459)).toUInt32 >>> ((4 : Int32).toUInt32 &&& Int32.toUInt32 31)).toInt32)) &&& 252645135).toUInt32 >>> ((8 : Int32).toUInt32 &&& Int32.toUInt32 31)).toInt32)) + ((((((((x0 - (((x0.toUInt32 >>> ((1 : Int32).toUInt32 &&& Int32.toUInt32 31)).toInt32) &&& 1431655765)) &&& 858993459) + ((((x0 - (((x0.toUInt32 >>> ((1 : Int32).toUInt32 &&& Int32.toUInt32 31)).toInt32) &&& 1431655765)).toUInt32 >>> ((2 : Int32).toUInt32 &&& Int32.toUInt32 31)).toInt32) &&& 858993459)) + (((((x0 - (((x0.toUInt32 >>> ((1 : Int32).toUInt32 &&& Int32.toUInt32 31)).toInt32) &&& 1431655765)) &&& 858993459) + ((((x0 - (((x0.toUInt32 >>> ((1 : Int32).toUInt32 &&& Int32.toUInt32 31)).toInt32) &&& 1431655765)).toUInt32 >>> ((2 : Int32).toUInt32 &&& Int32.toUInt32 31)).toInt32) &&& 858993459)).toUInt32 >>> ((4 : Int32).toUInt32 &&& Int32.toUInt32 31)).toInt32)) &&& 252645135) + (((((((x0 - (((x0.toUInt32 >>> ((1 : Int32).toUInt32 &&& Int32.toUInt32 31)).toInt32) &&& 1431655765)) &&& 858993459) + ((((x0 - (((x0.toUInt32 >>> ((1 : Int32).toUInt32 &&& Int32.toUInt32 31)).toInt32) &&& 1431655765)).toUInt32 >>> ((2 : Int32).toUInt32 &&& Int32.toUInt32 31)).toInt32) &&& 858993459)) + (((((x0 - (((x0.toUInt32 >>> ((1 : Int32).toUInt32 &&& Int32.toUInt32 31)).toInt32) &&& 1431655765)) &&& 858993459) + ((((x0 - (((x0.toUInt32 >>> ((1 : Int32).toUInt32 &&& Int32.toUInt32 31)).toInt32) &&& 1431655765)).toUInt32 >>> ((2 : Int32).toUInt32 &&& Int32.toUInt32 31)).toInt32) &&& 858993459)).toUInt32 >>> ((4 : Int32).toUInt32 &&& Int32.toUInt32 31)).toInt32)) &&& 252645135).toUInt32 >>> ((8 : Int32).toUInt32 &&& Int32.toUInt32 31)).toInt32)).toUInt32 >>> ((16 : Int32).toUInt32 &&& Int32.toUInt32 31)).toInt32)))]) (st' := [.int ((((((((x0 - (((x0.toUInt32 >>> ((1 : Int32).toUInt32 &&& Int32.toUInt32 31)).toInt32) &&& 1431655765)) &&& 858993459) + ((((x0 - (((x0.toUInt32 >>> ((1 : Int32).toUInt32 &&& Int32.toUInt32 31)).toInt32) &&& 1431655765)).toUInt32 >>> ((2 : Int32).toUInt32 &&& Int32.toUInt32 31)).toInt32) &&& 858993459)) + (((((x0 - (((x0.toUInt32 >>> ((1 : Int32).toUInt32 &&& Int32.toUInt32 31)).toInt32) &&& 1431655765)) &&& 858993459) + ((((x0 - (((x0.toUInt32 >>> ((1 : Int32).toUInt32 &&& Int32.toUInt32 31)).toInt32) &&& 1431655765)).toUInt32 >>> ((2 : Int32).toUInt32 &&& Int32.toUInt32 31)).toInt32) &&& 858993459)).toUInt32 >>> ((4 : Int32).toUInt32 &&& Int32.toUInt32 31)).toInt32)) &&& 252645135) + (((((((x0 - (((x0.toUInt32 >>> ((1 : Int32).toUInt32 &&& Int32.toUInt32 31)).toInt32) &&& 1431655765)) &&& 858993459) + ((((x0 - (((x0.toUInt32 >>> ((1 : Int32).toUInt32 &&& Int32.toUInt32 31)).toInt32) &&& 1431655765)).toUInt32 >>> ((2 : Int32).toUInt32 &&& Int32.toUInt32 31)).toInt32) &&& 858993459)) + (((((x0 - (((x0.toUInt32 >>> ((1 : Int32).toUInt32 &&& Int32.toUInt32 31)).toInt32) &&& 1431655765)) &&& 858993459) + ((((x0 - (((x0.toUInt32 >>> ((1 : Int32).toUInt32 &&& Int32.toUInt32 31)).toInt32) &&& 1431655765)).toUInt32 >>> ((2 : Int32).toUInt32 &&& Int32.toUInt32 31)).toInt32) &&& 858993459)).toUInt32 >>> ((4 : Int32).toUInt32 &&& Int32.toUInt32 31)).toInt32)) &&& 252645135).toUInt32 >>> ((8 : Int32).toUInt32 &&& Int32.toUInt32 31)).toInt32)) + ((((((((x0 - (((x0.toUInt32 >>> ((1 : Int32).toUInt32 &&& Int32.toUInt32 31)).toInt32) &&& 1431655765)) &&& 858993459) + ((((x0 - (((x0.toUInt32 >>> ((1 : Int32).toUInt32 &&& Int32.toUInt32 31)).toInt32) &&& 1431655765)).toUInt32 >>> ((2 : Int32).toUInt32 &&& Int32.toUInt32 31)).toInt32) &&& 858993459)) + (((((x0 - (((x0.toUInt32 >>> ((1 : Int32).toUInt32 &&& Int32.toUInt32 31)).toInt32) &&& 1431655765)) &&& 858993459) + ((((x0 - (((x0.toUInt32 >>> ((1 : Int32).toUInt32 &&& Int32.toUInt32 31)).toInt32) &&& 1431655765)).toUInt32 >>> ((2 : Int32).toUInt32 &&& Int32.toUInt32 31)).toInt32) &&& 858993459)).toUInt32 >>> ((4 : Int32).toUInt32 &&& Int32.toUInt32 31)).toInt32)) &&& 252645135) + (((((((x0 - (((x0.toUInt32 >>> ((1 : Int32).toUInt32 &&& Int32.toUInt32 31)).toInt32) &&& 1431655765)) &&& 858993459) + ((((x0 - (((x0.toUInt32 >>> ((1 : Int32).toUInt32 &&& Int32.toUInt32 31)).toInt32) &&& 1431655765)).toUInt32 >>> ((2 : Int32).toUInt32 &&& Int32.toUInt32 31)).toInt32) &&& 858993459)) + (((((x0 - (((x0.toUInt32 >>> ((1 : Int32).toUInt32 &&& Int32.toUInt32 31)).toInt32) &&& 1431655765)) &&& 858993459) + ((((x0 - (((x0.toUInt32 >>> ((1 : Int32).toUInt32 &&& Int32.toUInt32 31)).toInt32) &&& 1431655765)).toUInt32 >>> ((2 : Int32).toUInt32 &&& Int32.toUInt32 31)).toInt32) &&& 858993459)).toUInt32 >>> ((4 : Int32).toUInt32 &&& Int32.toUInt32 31)).toInt32)) &&& 252645135).toUInt32 >>> ((8 : Int32).toUInt32 &&& Int32.toUInt32 31)).toInt32)).toUInt32 >>> ((16 : Int32).toUInt32 &&& Int32.toUInt32 31)).toInt32)) &&& 63)]) (h' := hs σ) [(.iload_n 0, 1, 0, 0, 0, 0, 0, 0), (.iload_n 0, 1, 0, 0, 0, 0, 0, 0), (.iconst 1, 1, 0, 0, 0, 0, 1, 0), (.iushr, 1, 0, 0, 0, 0, 0, 0), (.ldc_w 265, 3, 0, 0, 0, 575, 1431655765, 0), (.iand, 1, 0, 0, 0, 0, 0, 0), (.isub, 1, 0, 0, 0, 0, 0, 0), (.istore_n 0, 1, 0, 0, 0, 0, 0, 0), (.iload_n 0, 1, 0, 0, 0, 0, 0, 0), (.ldc_w 266, 3, 0, 0, 0, 576, 858993459, 0), (.iand, 1, 0, 0, 0, 0, 0, 0), (.iload_n 0, 1, 0, 0, 0, 0, 0, 0), (.iconst 2, 1, 0, 0, 0, 0, 2, 0), (.iushr, 1, 0, 0, 0, 0, 0, 0), (.ldc_w 266, 3, 0, 0, 0, 576, 858993459, 0), (.iand, 1, 0, 0, 0, 0, 0, 0), (.iadd, 1, 0, 0, 0, 0, 0, 0), (.istore_n 0, 1, 0, 0, 0, 0, 0, 0), (.iload_n 0, 1, 0, 0, 0, 0, 0, 0), (.iload_n 0, 1, 0, 0, 0, 0, 0, 0), (.iconst 4, 1, 0, 0, 0, 0, 4, 0), (.iushr, 1, 0, 0, 0, 0, 0, 0), (.iadd, 1, 0, 0, 0, 0, 0, 0), (.ldc_w 267, 3, 0, 0, 0, 577, 252645135, 0), (.iand, 1, 0, 0, 0, 0, 0, 0), (.istore_n 0, 1, 0, 0, 0, 0, 0, 0), (.iload_n 0, 1, 0, 0, 0, 0, 0, 0), (.iload_n 0, 1, 0, 0, 0, 0, 0, 0), (.bipush 8, 2, 0, 0, 0, 0, 8, 0), (.iushr, 1, 0, 0, 0, 0, 0, 0), (.iadd, 1, 0, 0, 0, 0, 0, 0), (.istore_n 0, 1, 0, 0, 0, 0, 0, 0), (.iload_n 0, 1, 0, 0, 0, 0, 0, 0), (.iload_n 0, 1, 0, 0, 0, 0, 0, 0), (.bipush 16, 2, 0, 0, 0, 0, 16, 0), (.iushr, 1, 0, 0, 0, 0, 0, 0), (.iadd, 1, 0, 0, 0, 0, 0, 0), (.istore_n 0, 1, 0, 0, 0, 0, 0, 0), (.iload_n 0, 1, 0, 0, 0, 0, 0, 0), (.bipush 63, 2, 0, 0, 0, 0, 63, 0), (.iand, 1, 0, 0, 0, 0, 0, 0)] (by decide +kernel) rfl rfl ?_
  exact XA.ret (some (.int ((((((((x0 - (((x0.toUInt32 >>> ((1 : Int32).toUInt32 &&& Int32.toUInt32 31)).toInt32) &&& 1431655765)) &&& 858993459) + ((((x0 - (((x0.toUInt32 >>> ((1 : Int32).toUInt32 &&& Int32.toUInt32 31)).toInt32) &&& 1431655765)).toUInt32 >>> ((2 : Int32).toUInt32 &&& Int32.toUInt32 31)).toInt32) &&& 858993459)) + (((((x0 - (((x0.toUInt32 >>> ((1 : Int32).toUInt32 &&& Int32.toUInt32 31)).toInt32) &&& 1431655765)) &&& 858993459) + ((((x0 - (((x0.toUInt32 >>> ((1 : Int32).toUInt32 &&& Int32.toUInt32 31)).toInt32) &&& 1431655765)).toUInt32 >>> ((2 : Int32).toUInt32 &&& Int32.toUInt32 31)).toInt32) &&& 858993459)).toUInt32 >>> ((4 : Int32).toUInt32 &&& Int32.toUInt32 31)).toInt32)) &&& 252645135) + (((((((x0 - (((x0.toUInt32 >>> ((1 : Int32).toUInt32 &&& Int32.toUInt32 31)).toInt32) &&& 1431655765)) &&& 858993459) + ((((x0 - (((x0.toUInt32 >>> ((1 : Int32).toUInt32 &&& Int32.toUInt32 31)).toInt32) &&& 1431655765)).toUInt32 >>> ((2 : Int32).toUInt32 &&& Int32.toUInt32 31)).toInt32) &&& 858993459)) + (((((x0 - (((x0.toUInt32 >>> ((1 : Int32).toUInt32 &&& Int32.toUInt32 31)).toInt32) &&& 1431655765)) &&& 858993459) + ((((x0 - (((x0.toUInt32 >>> ((1 : Int32).toUInt32 &&& Int32.toUInt32 31)).toInt32) &&& 1431655765)).toUInt32 >>> ((2 : Int32).toUInt32 &&& Int32.toUInt32 31)).toInt32) &&& 858993459)).toUInt32 >>> ((4 : Int32).toUInt32 &&& Int32.toUInt32 31)).toInt32)) &&& 252645135).toUInt32 >>> ((8 : Int32).toUInt32 &&& Int32.toUInt32 31)).toInt32)) + ((((((((x0 - (((x0.toUInt32 >>> ((1 : Int32).toUInt32 &&& Int32.toUInt32 31)).toInt32) &&& 1431655765)) &&& 858993459) + ((((x0 - (((x0.toUInt32 >>> ((1 : Int32).toUInt32 &&& Int32.toUInt32 31)).toInt32) &&& 1431655765)).toUInt32 >>> ((2 : Int32).toUInt32 &&& Int32.toUInt32 31)).toInt32) &&& 858993459)) + (((((x0 - (((x0.toUInt32 >>> ((1 : Int32).toUInt32 &&& Int32.toUInt32 31)).toInt32) &&& 1431655765)) &&& 858993459) + ((((x0 - (((x0.toUInt32 >>> ((1 : Int32).toUInt32 &&& Int32.toUInt32 31)).toInt32) &&& 1431655765)).toUInt32 >>> ((2 : Int32).toUInt32 &&& Int32.toUInt32 31)).toInt32) &&& 858993459)).toUInt32 >>> ((4 : Int32).toUInt32 &&& Int32.toUInt32 31)).toInt32)) &&& 252645135) + (((((((x0 - (((x0.toUInt32 >>> ((1 : Int32).toUInt32 &&& Int32.toUInt32 31)).toInt32) &&& 1431655765)) &&& 858993459) + ((((x0 - (((x0.toUInt32 >>> ((1 : Int32).toUInt32 &&& Int32.toUInt32 31)).toInt32) &&& 1431655765)).toUInt32 >>> ((2 : Int32).toUInt32 &&& Int32.toUInt32 31)).toInt32) &&& 858993459)) + (((((x0 - (((x0.toUInt32 >>> ((1 : Int32).toUInt32 &&& Int32.toUInt32 31)).toInt32) &&& 1431655765)) &&& 858993459) + ((((x0 - (((x0.toUInt32 >>> ((1 : Int32).toUInt32 &&& Int32.toUInt32 31)).toInt32) &&& 1431655765)).toUInt32 >>> ((2 : Int32).toUInt32 &&& Int32.toUInt32 31)).toInt32) &&& 858993459)).toUInt32 >>> ((4 : Int32).toUInt32 &&& Int32.toUInt32 31)).toInt32)) &&& 252645135).toUInt32 >>> ((8 : Int32).toUInt32 &&& Int32.toUInt32 31)).toInt32)).toUInt32 >>> ((16 : Int32).toUInt32 &&& Int32.toUInt32 31)).toInt32)) &&& 63))) rfl (show ckRt mJ6_bitCount_0f7a4 52 .ireturn = true by decide +kernel) trivial (Nat.le_of_ble_eq_true rfl) (Nat.le_of_ble_eq_true rfl) ⟨_, _, rfl, rfl, H⟩
theorem E_J6_bitCount_0f7a4 {scr : ScA}  {x0 : Int32} {σ : Nat → Nat → Int32} {P : Int32 → (Nat → Nat → Int32) → Prop} (h : K_J6_bitCount_0f7a4_0 scr x0 σ P) : CiA scr 0 mJ6_bitCount_0f7a4 [.int x0] σ P := CtA.of (by decide) (Nat.le_of_ble_eq_true rfl) (XA.drop (by simp [leL, enL]) h)
def K_J7_fill_53178_0 (scr : ScA) (a : Nat) (x1 : Int32) (σ : Nat → Nat → Int32) (P : (Nat → Nat → Int32) → Prop) : Prop := XA scr 0 mJ7_fill_53178 172 4705 0 [some (.ref a), some (.int x1), none, none] [] (hs σ) (pV P)
def K_J7_fill_53178_5 (scr : ScA) (a : Nat) (x1 : Int32) (x2 : Int32) (x3 : Int32) (σ : Nat → Nat → Int32) (P : (Nat → Nat → Int32) → Prop) : Prop := XA scr 0 mJ7_fill_53178 172 4705 5 [some (.ref a), some (.int x1), some (.int x2), some (.int x3)] [] (hs σ) (pV P)
set_option maxRecDepth 20000 in
theorem W_J7_fill_53178_0 {scr : ScA} {a : Nat} {n : Nat} (ha : isAr a n) {x1 : Int32}  {σ : Nat → Nat → Int32} {P : (Nat → Nat → Int32) → Prop} (H : K_J7_fill_53178_5 scr a x1 0 (Int32.ofNat (S0 a).2) σ P) : K_J7_fill_53178_0 scr a x1 σ P := by
  show XA scr 0 mJ7_fill_53178 172 4705 0 [some (.ref a), some (.int x1), none, none] [] (hs σ) (pV P)
  refine XA.blk (e9 := 5) (ok := decide (a < 172 ∧ 1 ≤ (S0 a).1 ∧ (S0 a).1 ≤ 5) && (true)) (ls' := [some (.ref a), some (.int x1), some (.int 0), some (.int (Int32.ofNat (S0 a).2))]) (st' := []) (h' := hs σ) [(.iconst 0, 1, 0, 0, 0, 0, 0, 0), (.istore_n 2, 1, 2, 0, 0, 0, 0, 0), (.aload_n 0, 1, 0, 0, 0, 0, 0, 0), (.arraylength, 1, 0, 0, 0, 0, 0, 0), (.istore_n 3, 1, 3, 0, 0, 0, 0, 0)] (by decide +kernel) rfl (by simp only [arL0 ha, Bool.and_true, Bool.true_and]) ?_
  exact H
set_option maxRecDepth 20000 in
theorem W_J7_fill_53178_5 {scr : ScA} {a : Nat} {n : Nat} (ha : isAr a n) {x1 : Int32} {x2 : Int32} {x3 : Int32}  {σ : Nat → Nat → Int32} {P : (Nat → Nat → Int32) → Prop} (H : (x3 ≤ x2 → P σ) ∧ (¬ x3 ≤ x2 → (inB x2 n = true) ∧ (∀ σ1, σ1 = (su σ a (Int32.toNatClampNeg x2) x1) → K_J7_fill_53178_5 scr a x1 (x2 + 1) x3 σ1 P))) : K_J7_fill_53178_5 scr a x1 x2 x3 σ P := by
  show XA scr 0 mJ7_fill_53178 172 4705 5 [some (.ref a), some (.int x1), some (.int x2), some (.int x3)] [] (hs σ) (pV P)
  refine XA.blk (e9 := 7) (ok := true) (ls' := [some (.ref a), some (.int x1), some (.int x2), some (.int x3)]) (st' := [.int x3, .int x2]) (h' := hs σ) [(.iload_n 2, 1, 2, 0, 0, 0, 0, 0), (.iload_n 3, 1, 3, 0, 0, 0, 0, 0)] (by decide +kernel) rfl rfl ?_
  refine XA.icmp_ge (13) 20 (by decide +kernel) (fun c1 => ?_) (fun c1 => ?_)
  · have H := H.1 c1
    exact XA.ret none rfl (show ckRt mJ7_fill_53178 20 .return_ = true by decide +kernel) trivial (Nat.le_of_ble_eq_true rfl) (Nat.le_of_ble_eq_true rfl) ⟨_, rfl, rfl, H⟩
  · have H := H.2 c1
    obtain ⟨o1, H⟩ := H
    refine XA.blk (e9 := 14) (ok := kA 172 S0 a 1 x2 && (true)) (ls' := [some (.ref a), some (.int x1), some (.int x2), some (.int x3)]) (st' := []) (h' := hs (su σ a (Int32.toNatClampNeg x2) x1)) [(.aload_n 0, 1, 0, 0, 0, 0, 0, 0), (.iload_n 2, 1, 2, 0, 0, 0, 0, 0), (.iload_n 1, 1, 1, 0, 0, 0, 0, 0), (.iastore, 1, 0, 0, 0, 0, 0, 0)] (by decide +kernel) rfl (by simp only [arA ha x2, o1, Bool.and_true, Bool.true_and]) ?_
    obtain ⟨σ1, hσ1⟩ : ∃ s9, s9 = (su σ a (Int32.toNatClampNeg x2) x1) := ⟨_, rfl⟩
    rw [← hσ1]
    have H := H σ1 hσ1
    refine XA.blk (e9 := 5) (ok := true) (ls' := [some (.ref a), some (.int x1), some (.int (x2 + 1)), some (.int x3)]) (st' := []) (h' := hs σ1) [(.iinc 2 1, 3, 2, 0, 0, 0, 1, 0), (.goto (-12), 3, 5, 0, 0, 0, 0, 0)] (by decide +kernel) rfl rfl ?_
    exact H
theorem E_J7_fill_53178 {scr : ScA} {a : Nat} {x1 : Int32} {σ : Nat → Nat → Int32} {P : (Nat → Nat → Int32) → Prop} (h : K_J7_fill_53178_0 scr a x1 σ P) : CvA scr 0 mJ7_fill_53178 [.ref a, .int x1] σ P := CtA.of (by decide) (Nat.le_of_ble_eq_true rfl) (XA.drop (by simp [leL, enL]) h)
def K_X11_in_0 (scr : ScA)  (x0 : Int32) (x1 : Int32) (x2 : Int32) (σ : Nat → Nat → Int32) (P : Int32 → (Nat → Nat → Int32) → Prop) : Prop := XA scr 0 mX11_in 172 4705 0 [some (.int x0), some (.int x1), some (.int x2)] [] (hs σ) (pI P)
set_option maxRecDepth 20000 in
theorem W_X11_in_0 {scr : ScA}   {x0 : Int32} {x1 : Int32} {x2 : Int32}  {σ : Nat → Nat → Int32} {P : Int32 → (Nat → Nat → Int32) → Prop} (H : (((if x0 < x1 then 0 else (if x2 < x0 then 0 else 1 : Int32) : Int32) : Int32) = 0 ∨ ((if x0 < x1 then 0 else (if x2 < x0 then 0 else 1 : Int32) : Int32) : Int32) = 1) ∧ P (if x0 < x1 then 0 else (if x2 < x0 then 0 else 1 : Int32) : Int32) σ) : K_X11_in_0 scr x0 x1 x2 σ P := by
  show XA scr 0 mX11_in 172 4705 0 [some (.int x0), some (.int x1), some (.int x2)] [] (hs σ) (pI P)
  refine XA.blk (e9 := 2) (ok := true) (ls' := [some (.int x0), some (.int x1), some (.int x2)]) (st' := [.int x1, .int x0]) (h' := hs σ) [(.iload_n 0, 1, 0, 0, 0, 0, 0, 0), (.iload_n 1, 1, 1, 0, 0, 0, 0, 0)] (by decide +kernel) rfl rfl ?_
  have hJ2 : XA scr 0 mX11_in 172 4705 15 [none, none, none] [.int (if x0 < x1 then 0 else (if x2 < x0 then 0 else 1 : Int32) : Int32)] (hs σ) (pI P) := by
    exact XA.ret (some (.int (if x0 < x1 then 0 else (if x2 < x0 then 0 else 1 : Int32) : Int32))) rfl (show ckRt mX11_in 15 .ireturn = true by decide +kernel) H.1 (Nat.le_of_ble_eq_true rfl) (Nat.le_of_ble_eq_true rfl) ⟨_, _, rfl, rfl, H.2⟩
  refine XA.icmp_lt (12) 14 (by decide +kernel) (fun c1 => ?_) (fun c1 => ?_)
  · refine XA.blk (e9 := 15) (ok := true) (ls' := [some (.int x0), some (.int x1), some (.int x2)]) (st' := [.int 0]) (h' := hs σ) [(.iconst 0, 1, 0, 0, 0, 0, 0, 0)] (by decide +kernel) rfl rfl ?_
    refine XA.drop (ls := [none, none, none]) (by simp [leL]) ?_
    simpa only [if_pos c1] using hJ2
  · refine XA.blk (e9 := 7) (ok := true) (ls' := [some (.int x0), some (.int x1), some (.int x2)]) (st' := [.int x2, .int x0]) (h' := hs σ) [(.iload_n 0, 1, 0, 0, 0, 0, 0, 0), (.iload_n 2, 1, 2, 0, 0, 0, 0, 0)] (by decide +kernel) rfl rfl ?_
    have hJ7 : XA scr 0 mX11_in 172 4705 15 [none, none, none] [.int (if x2 < x0 then 0 else 1 : Int32)] (hs σ) (pI P) := by
      simpa only [if_neg c1] using hJ2
    refine XA.icmp_gt (7) 14 (by decide +kernel) (fun c2 => ?_) (fun c2 => ?_)
    · refine XA.blk (e9 := 15) (ok := true) (ls' := [some (.int x0), some (.int x1), some (.int x2)]) (st' := [.int 0]) (h' := hs σ) [(.iconst 0, 1, 0, 0, 0, 0, 0, 0)] (by decide +kernel) rfl rfl ?_
      refine XA.drop (ls := [none, none, none]) (by simp [leL]) ?_
      simpa only [if_pos c2] using hJ7
    · refine XA.blk (e9 := 15) (ok := true) (ls' := [some (.int x0), some (.int x1), some (.int x2)]) (st' := [.int 1]) (h' := hs σ) [(.iconst 1, 1, 0, 0, 0, 0, 1, 0), (.goto 4, 3, 15, 0, 0, 0, 0, 0)] (by decide +kernel) rfl rfl ?_
      refine XA.drop (ls := [none, none, none]) (by simp [leL]) ?_
      simpa only [if_neg c2] using hJ7
theorem E_X11_in {scr : ScA}  {x0 : Int32} {x1 : Int32} {x2 : Int32} {σ : Nat → Nat → Int32} {P : Int32 → (Nat → Nat → Int32) → Prop} (h : K_X11_in_0 scr x0 x1 x2 σ P) : CiA scr 0 mX11_in [.int x0, .int x1, .int x2] σ P := CtA.of (by decide) (Nat.le_of_ble_eq_true rfl) (XA.drop (by simp [leL, enL]) h)
def K_X11_isIn_0 (scr : ScA)  (x0 : Int32) (x1 : Int32) (σ : Nat → Nat → Int32) (P : Int32 → (Nat → Nat → Int32) → Prop) : Prop := XA scr 0 mX11_isIn 172 4705 0 [some (.int x0), some (.int x1)] [] (hs σ) (pI P)
set_option maxRecDepth 20000 in
theorem W_X11_isIn_0 {scr : ScA}   {x0 : Int32} {x1 : Int32}  {σ : Nat → Nat → Int32} {P : Int32 → (Nat → Nat → Int32) → Prop} (H : (((if ¬ ((x0 >>> (x1 &&& 31)) &&& 1) = 1 then 0 else 1 : Int32) : Int32) = 0 ∨ ((if ¬ ((x0 >>> (x1 &&& 31)) &&& 1) = 1 then 0 else 1 : Int32) : Int32) = 1) ∧ P (if ¬ ((x0 >>> (x1 &&& 31)) &&& 1) = 1 then 0 else 1 : Int32) σ) : K_X11_isIn_0 scr x0 x1 σ P := by
  show XA scr 0 mX11_isIn 172 4705 0 [some (.int x0), some (.int x1)] [] (hs σ) (pI P)
  refine XA.blk (e9 := 6) (ok := true) (ls' := [some (.int x0), some (.int x1)]) (st' := [.int 1, .int ((x0 >>> (x1 &&& 31)) &&& 1)]) (h' := hs σ) [(.iload_n 0, 1, 0, 0, 0, 0, 0, 0), (.iload_n 1, 1, 1, 0, 0, 0, 0, 0), (.ishr, 1, 0, 0, 0, 0, 0, 0), (.iconst 1, 1, 0, 0, 0, 0, 1, 0), (.iand, 1, 0, 0, 0, 0, 0, 0), (.iconst 1, 1, 0, 0, 0, 0, 1, 0)] (by decide +kernel) rfl rfl ?_
  have hJ6 : XA scr 0 mX11_isIn 172 4705 14 [none, none] [.int (if ¬ ((x0 >>> (x1 &&& 31)) &&& 1) = 1 then 0 else 1 : Int32)] (hs σ) (pI P) := by
    exact XA.ret (some (.int (if ¬ ((x0 >>> (x1 &&& 31)) &&& 1) = 1 then 0 else 1 : Int32))) rfl (show ckRt mX11_isIn 14 .ireturn = true by decide +kernel) H.1 (Nat.le_of_ble_eq_true rfl) (Nat.le_of_ble_eq_true rfl) ⟨_, _, rfl, rfl, H.2⟩
  refine XA.icmp_ne (7) 13 (by decide +kernel) (fun c1 => ?_) (fun c1 => ?_)
  · refine XA.blk (e9 := 14) (ok := true) (ls' := [some (.int x0), some (.int x1)]) (st' := [.int 0]) (h' := hs σ) [(.iconst 0, 1, 0, 0, 0, 0, 0, 0)] (by decide +kernel) rfl rfl ?_
    refine XA.drop (ls := [none, none]) (by simp [leL]) ?_
    simpa only [if_pos c1] using hJ6
  · refine XA.blk (e9 := 14) (ok := true) (ls' := [some (.int x0), some (.int x1)]) (st' := [.int 1]) (h' := hs σ) [(.iconst 1, 1, 0, 0, 0, 0, 1, 0), (.goto 4, 3, 14, 0, 0, 0, 0, 0)] (by decide +kernel) rfl rfl ?_
    refine XA.drop (ls := [none, none]) (by simp [leL]) ?_
    simpa only [if_neg (not_not_intro c1)] using hJ6
theorem E_X11_isIn {scr : ScA}  {x0 : Int32} {x1 : Int32} {σ : Nat → Nat → Int32} {P : Int32 → (Nat → Nat → Int32) → Prop} (h : K_X11_isIn_0 scr x0 x1 σ P) : CiA scr 0 mX11_isIn [.int x0, .int x1] σ P := CtA.of (by decide) (Nat.le_of_ble_eq_true rfl) (XA.drop (by simp [leL, enL]) h)
def K_X11_no_0 (scr : ScA)  (x0 : Int32) (σ : Nat → Nat → Int32) (P : Int64 → (Nat → Nat → Int32) → Prop) : Prop := XA scr 0 mX11_no 172 4705 0 [some (.int x0)] [] (hs σ) (pJ P)
set_option maxRecDepth 20000 in
theorem W_X11_no_0 {scr : ScA}   {x0 : Int32}  {σ : Nat → Nat → Int32} {P : Int64 → (Nat → Nat → Int32) → Prop} (H : P ((-9223372036854775808) - (Int32.toInt64 x0)) σ) : K_X11_no_0 scr x0 σ P := by
  show XA scr 0 mX11_no 172 4705 0 [some (.int x0)] [] (hs σ) (pJ P)
  refine XA.blk (e9 := 6) (ok := true) (ls' := [some (.int x0)]) (st' := [.long ((-9223372036854775808) - (Int32.toInt64 x0))]) (h' := hs σ) [(.ldc2_w 116, 3, 0, 0, 0, 1352, 0, (-9223372036854775808)), (.iload_n 0, 1, 0, 0, 0, 0, 0, 0), (.i2l, 1, 0, 0, 0, 0, 0, 0), (.lsub, 1, 0, 0, 0, 0, 0, 0)] (by decide +kernel) rfl rfl ?_
  exact XA.ret (some (.long ((-9223372036854775808) - (Int32.toInt64 x0)))) rfl (show ckRt mX11_no 6 .lreturn = true by decide +kernel) trivial (Nat.le_of_ble_eq_true rfl) (Nat.le_of_ble_eq_true rfl) ⟨_, _, rfl, rfl, H⟩
theorem E_X11_no {scr : ScA}  {x0 : Int32} {σ : Nat → Nat → Int32} {P : Int64 → (Nat → Nat → Int32) → Prop} (h : K_X11_no_0 scr x0 σ P) : ClA scr 0 mX11_no [.int x0] σ P := CtA.of (by decide) (Nat.le_of_ble_eq_true rfl) (XA.drop (by simp [leL, enL]) h)
def K_X11_below_0 (scr : ScA)  (x0 : Int32) (σ : Nat → Nat → Int32) (P : Int32 → (Nat → Nat → Int32) → Prop) : Prop := XA scr 0 mX11_below 172 4705 0 [some (.int x0)] [] (hs σ) (pI P)
set_option maxRecDepth 20000 in
theorem W_X11_below_0 {scr : ScA}   {x0 : Int32}  {σ : Nat → Nat → Int32} {P : Int32 → (Nat → Nat → Int32) → Prop} (H : P (if 7 ≤ x0 then (if 9 ≤ x0 then 7 else x0 - 3 : Int32) else x0 - 4 : Int32) σ) : K_X11_below_0 scr x0 σ P := by
  show XA scr 0 mX11_below 172 4705 0 [some (.int x0)] [] (hs σ) (pI P)
  refine XA.blk (e9 := 3) (ok := true) (ls' := [some (.int x0)]) (st' := [.int 7, .int x0]) (h' := hs σ) [(.iload_n 0, 1, 0, 0, 0, 0, 0, 0), (.bipush 7, 2, 0, 0, 0, 0, 7, 0)] (by decide +kernel) rfl rfl ?_
  have hJ3 : XA scr 0 mX11_below 172 4705 26 [none] [.int (if 7 ≤ x0 then (if 9 ≤ x0 then 7 else x0 - 3 : Int32) else x0 - 4 : Int32)] (hs σ) (pI P) := by
    exact XA.ret (some (.int (if 7 ≤ x0 then (if 9 ≤ x0 then 7 else x0 - 3 : Int32) else x0 - 4 : Int32))) rfl (show ckRt mX11_below 26 .ireturn = true by decide +kernel) trivial (Nat.le_of_ble_eq_true rfl) (Nat.le_of_ble_eq_true rfl) ⟨_, _, rfl, rfl, H⟩
  refine XA.icmp_ge (9) 12 (by decide +kernel) (fun c1 => ?_) (fun c1 => ?_)
  · refine XA.blk (e9 := 15) (ok := true) (ls' := [some (.int x0)]) (st' := [.int 9, .int x0]) (h' := hs σ) [(.iload_n 0, 1, 0, 0, 0, 0, 0, 0), (.bipush 9, 2, 0, 0, 0, 0, 9, 0)] (by decide +kernel) rfl rfl ?_
    have hJ15 : XA scr 0 mX11_below 172 4705 26 [none] [.int (if 9 ≤ x0 then 7 else x0 - 3 : Int32)] (hs σ) (pI P) := by
      simpa only [if_pos c1] using hJ3
    refine XA.icmp_ge (9) 24 (by decide +kernel) (fun c2 => ?_) (fun c2 => ?_)
    · refine XA.blk (e9 := 26) (ok := true) (ls' := [some (.int x0)]) (st' := [.int 7]) (h' := hs σ) [(.bipush 7, 2, 0, 0, 0, 0, 7, 0)] (by decide +kernel) rfl rfl ?_
      refine XA.drop (ls := [none]) (by simp [leL]) ?_
      simpa only [if_pos c2] using hJ15
    · refine XA.blk (e9 := 26) (ok := true) (ls' := [some (.int x0)]) (st' := [.int (x0 - 3)]) (h' := hs σ) [(.iload_n 0, 1, 0, 0, 0, 0, 0, 0), (.iconst 3, 1, 0, 0, 0, 0, 3, 0), (.isub, 1, 0, 0, 0, 0, 0, 0), (.goto 5, 3, 26, 0, 0, 0, 0, 0)] (by decide +kernel) rfl rfl ?_
      refine XA.drop (ls := [none]) (by simp [leL]) ?_
      simpa only [if_neg c2] using hJ15
  · refine XA.blk (e9 := 26) (ok := true) (ls' := [some (.int x0)]) (st' := [.int (x0 - 4)]) (h' := hs σ) [(.iload_n 0, 1, 0, 0, 0, 0, 0, 0), (.iconst 4, 1, 0, 0, 0, 0, 4, 0), (.isub, 1, 0, 0, 0, 0, 0, 0), (.goto 17, 3, 26, 0, 0, 0, 0, 0)] (by decide +kernel) rfl rfl ?_
    refine XA.drop (ls := [none]) (by simp [leL]) ?_
    simpa only [if_neg c1] using hJ3
theorem E_X11_below {scr : ScA}  {x0 : Int32} {σ : Nat → Nat → Int32} {P : Int32 → (Nat → Nat → Int32) → Prop} (h : K_X11_below_0 scr x0 σ P) : CiA scr 0 mX11_below [.int x0] σ P := CtA.of (by decide) (Nat.le_of_ble_eq_true rfl) (XA.drop (by simp [leL, enL]) h)
def K_X11_lowest_0 (scr : ScA)  (x0 : Int64) (x2 : Int64) (x4 : Int32) (σ : Nat → Nat → Int32) (P : Int64 → (Nat → Nat → Int32) → Prop) : Prop := XA scr 0 mX11_lowest 172 4705 0 [some (.long x0), none, some (.long x2), none, some (.int x4), none, none, none, none, none, none] [] (hs σ) (pJ P)
def K_X11_lowest_6 (scr : ScA)  (x0 : Int64) (x2 : Int64) (x4 : Int32) (x5 : Int64) (x7 : Int64) (σ : Nat → Nat → Int32) (P : Int64 → (Nat → Nat → Int32) → Prop) : Prop := XA scr 0 mX11_lowest 172 4705 6 [some (.long x0), none, some (.long x2), none, some (.int x4), some (.long x5), none, some (.long x7), none, none, none] [] (hs σ) (pJ P)
set_option maxRecDepth 20000 in
theorem W_X11_lowest_0 {scr : ScA}   {x0 : Int64} {x2 : Int64} {x4 : Int32}  {σ : Nat → Nat → Int32} {P : Int64 → (Nat → Nat → Int32) → Prop} (H : K_X11_lowest_6 scr x0 x2 x4 x0 x2 σ P) : K_X11_lowest_0 scr x0 x2 x4 σ P := by
  show XA scr 0 mX11_lowest 172 4705 0 [some (.long x0), none, some (.long x2), none, some (.int x4), none, none, none, none, none, none] [] (hs σ) (pJ P)
  refine XA.blk (e9 := 6) (ok := true) (ls' := [some (.long x0), none, some (.long x2), none, some (.int x4), some (.long x0), none, some (.long x2), none, none, none]) (st' := []) (h' := hs σ) [(.lload_n 0, 1, 0, 0, 0, 0, 0, 0), (.lstore 5, 2, 5, 0, 0, 0, 0, 0), (.lload_n 2, 1, 2, 0, 0, 0, 0, 0), (.lstore 7, 2, 7, 0, 0, 0, 0, 0)] (by decide +kernel) rfl rfl ?_
  exact H
set_option maxRecDepth 20000 in
theorem W_X11_lowest_6 {scr : ScA}   {x0 : Int64} {x2 : Int64} {x4 : Int32} {x5 : Int64} {x7 : Int64}  {σ : Nat → Nat → Int32} {P : Int64 → (Nat → Nat → Int32) → Prop} (H : ((lg_cmp x7 0) = 0 → (¬ x4 = 0 → (¬ x5 = 0)) ∧ (x4 = 0 → (¬ x5 = 0)) ∧ (P (if ¬ x4 = 0 then x2 / x5 else x0 / x5 : Int64) σ)) ∧ (¬ (lg_cmp x7 0) = 0 → (¬ x7 = 0) ∧ (K_X11_lowest_6 scr x0 x2 x4 x7 (x5 - x5 / x7 * x7) σ P))) : K_X11_lowest_6 scr x0 x2 x4 x5 x7 σ P := by
  show XA scr 0 mX11_lowest 172 4705 6 [some (.long x0), none, some (.long x2), none, some (.int x4), some (.long x5), none, some (.long x7), none, none, none] [] (hs σ) (pJ P)
  refine XA.blk (e9 := 10) (ok := true) (ls' := [some (.long x0), none, some (.long x2), none, some (.int x4), some (.long x5), none, some (.long x7), none, none, none]) (st' := [.int (lg_cmp x7 0)]) (h' := hs σ) [(.lload 7, 2, 7, 0, 0, 0, 0, 0), (.lconst 0, 1, 0, 0, 0, 0, 0, 0), (.lcmp, 1, 0, 0, 0, 0, 0, 0)] (by decide +kernel) rfl rfl ?_
  refine XA.if_eq (21) 31 (by decide +kernel) (fun c1 => ?_) (fun c1 => ?_)
  · have H := H.1 c1
    refine XA.blk (e9 := 33) (ok := true) (ls' := [some (.long x0), none, some (.long x2), none, some (.int x4), some (.long x5), none, some (.long x7), none, none, none]) (st' := [.int x4]) (h' := hs σ) [(.iload 4, 2, 4, 0, 0, 0, 0, 0)] (by decide +kernel) rfl rfl ?_
    obtain ⟨hT33, hF33, H⟩ := H
    have hJ33 : XA scr 0 mX11_lowest 172 4705 47 [none, none, none, none, none, none, none, none, none, none, none] [.long (if ¬ x4 = 0 then x2 / x5 else x0 / x5 : Int64)] (hs σ) (pJ P) := by
      exact XA.ret (some (.long (if ¬ x4 = 0 then x2 / x5 else x0 / x5 : Int64))) rfl (show ckRt mX11_lowest 47 .lreturn = true by decide +kernel) trivial (Nat.le_of_ble_eq_true rfl) (Nat.le_of_ble_eq_true rfl) ⟨_, _, rfl, rfl, H⟩
    refine XA.if_ne (10) 43 (by decide +kernel) (fun c2 => ?_) (fun c2 => ?_)
    · have H := hT33 c2
      have o1 := H
      refine XA.blk (e9 := 47) (ok := decide (¬ x5 = 0) && (true)) (ls' := [some (.long x0), none, some (.long x2), none, some (.int x4), some (.long x5), none, some (.long x7), none, none, none]) (st' := [.long (x2 / x5)]) (h' := hs σ) [(.lload_n 2, 1, 2, 0, 0, 0, 0, 0), (.lload 5, 2, 5, 0, 0, 0, 0, 0), (.ldiv, 1, 0, 0, 0, 0, 0, 0)] (by decide +kernel) rfl (by simp only [decide_eq_true o1, Bool.and_true, Bool.true_and]) ?_
      refine XA.drop (ls := [none, none, none, none, none, none, none, none, none, none, none]) (by simp [leL]) ?_
      simpa only [if_pos c2] using hJ33
    · have H := hF33 c2
      have o1 := H
      refine XA.blk (e9 := 47) (ok := decide (¬ x5 = 0) && (true)) (ls' := [some (.long x0), none, some (.long x2), none, some (.int x4), some (.long x5), none, some (.long x7), none, none, none]) (st' := [.long (x0 / x5)]) (h' := hs σ) [(.lload_n 0, 1, 0, 0, 0, 0, 0, 0), (.lload 5, 2, 5, 0, 0, 0, 0, 0), (.ldiv, 1, 0, 0, 0, 0, 0, 0), (.goto 7, 3, 47, 0, 0, 0, 0, 0)] (by decide +kernel) rfl (by simp only [decide_eq_true o1, Bool.and_true, Bool.true_and]) ?_
      refine XA.drop (ls := [none, none, none, none, none, none, none, none, none, none, none]) (by simp [leL]) ?_
      simpa only [if_neg (not_not_intro c2)] using hJ33
  · have H := H.2 c1
    obtain ⟨o1, H⟩ := H
    refine XA.blk (e9 := 6) (ok := decide (¬ x7 = 0) && (true)) (ls' := [some (.long x0), none, some (.long x2), none, some (.int x4), some (.long x7), none, some (.long (x5 - x5 / x7 * x7)), none, some (.long (x5 - x5 / x7 * x7)), none]) (st' := []) (h' := hs σ) [(.lload 5, 2, 5, 0, 0, 0, 0, 0), (.lload 7, 2, 7, 0, 0, 0, 0, 0), (.lrem, 1, 0, 0, 0, 0, 0, 0), (.lstore 9, 2, 9, 0, 0, 0, 0, 0), (.lload 7, 2, 7, 0, 0, 0, 0, 0), (.lstore 5, 2, 5, 0, 0, 0, 0, 0), (.lload 9, 2, 9, 0, 0, 0, 0, 0), (.lstore 7, 2, 7, 0, 0, 0, 0, 0), (.goto (-22), 3, 6, 0, 0, 0, 0, 0)] (by decide +kernel) rfl (by simp only [decide_eq_true o1, Bool.and_true, Bool.true_and]) ?_
    exact XA.drop (by simp [leL]) H
theorem E_X11_lowest {scr : ScA}  {x0 : Int64} {x2 : Int64} {x4 : Int32} {σ : Nat → Nat → Int32} {P : Int64 → (Nat → Nat → Int32) → Prop} (h : K_X11_lowest_0 scr x0 x2 x4 σ P) : ClA scr 0 mX11_lowest [.long x0, .long x2, .int x4] σ P := CtA.of (by decide) (Nat.le_of_ble_eq_true rfl) (XA.drop (by simp [leL, enL]) h)
def K_X0_part_0 (scr : ScA) (k : Nat) (x1 : Int32) (σ : Nat → Nat → Int32) (P : Int32 → (Nat → Nat → Int32) → Prop) : Prop := XA scr 0 mX0_part 172 4705 0 [some (.ref k), some (.int x1)] [] (hs σ) (pI P)
set_option maxRecDepth 20000 in
theorem W_X0_part_0 {scr : ScA} {k : Nat} (hk : isBe k) {x1 : Int32}  {σ : Nat → Nat → Int32} {P : Int32 → (Nat → Nat → Int32) → Prop} (H : (x1 = 0 → P (σ k 0) σ) ∧ (x1 = 1 → P (σ k 1) σ) ∧ (¬ x1 = 0 → ¬ x1 = 1 → P (σ k 2) σ)) : K_X0_part_0 scr k x1 σ P := by
  show XA scr 0 mX0_part 172 4705 0 [some (.ref k), some (.int x1)] [] (hs σ) (pI P)
  refine XA.blk (e9 := 1) (ok := true) (ls' := [some (.ref k), some (.int x1)]) (st' := [.int x1]) (h' := hs σ) [(.iload_n 1, 1, 1, 0, 0, 0, 0, 0)] (by decide +kernel) rfl rfl ?_
  refine XA.lsw (37) [(0, 27), (1, 32)] 27 [(0, 28), (1, 33)] 38 (by decide +kernel) (fun q9 hq9 e9 => ?_) (fun e9 => ?_)
  · simp only [List.mem_cons, List.not_mem_nil, or_false] at hq9
    rcases hq9 with rfl | rfl
    · have H := H.1 e9
      refine XA.blk (e9 := 32) (ok := kO 172 S0 k 0 && (true)) (ls' := [some (.ref k), some (.int x1)]) (st' := [.int (σ k 0)]) (h' := hs σ) [(.aload_n 0, 1, 0, 0, 0, 0, 0, 0), (.getfield 9, 3, 0, 0, 0, 277, 0, 0)] (by decide +kernel) rfl (by simp only [beO hk, Bool.and_true, Bool.true_and]) ?_
      exact XA.ret (some (.int (σ k 0))) rfl (show ckRt mX0_part 32 .ireturn = true by decide +kernel) trivial (Nat.le_of_ble_eq_true rfl) (Nat.le_of_ble_eq_true rfl) ⟨_, _, rfl, rfl, H⟩
    · have H := H.2.1 e9
      refine XA.blk (e9 := 37) (ok := kO 172 S0 k 0 && (true)) (ls' := [some (.ref k), some (.int x1)]) (st' := [.int (σ k 1)]) (h' := hs σ) [(.aload_n 0, 1, 0, 0, 0, 0, 0, 0), (.getfield 15, 3, 0, 1, 0, 279, 0, 0)] (by decide +kernel) rfl (by simp only [beO hk, Bool.and_true, Bool.true_and]) ?_
      exact XA.ret (some (.int (σ k 1))) rfl (show ckRt mX0_part 37 .ireturn = true by decide +kernel) trivial (Nat.le_of_ble_eq_true rfl) (Nat.le_of_ble_eq_true rfl) ⟨_, _, rfl, rfl, H⟩
  · have H := H.2.2 (e9 (0, 28) (by simp)) (e9 (1, 33) (by simp))
    refine XA.blk (e9 := 42) (ok := kO 172 S0 k 0 && (true)) (ls' := [some (.ref k), some (.int x1)]) (st' := [.int (σ k 2)]) (h' := hs σ) [(.aload_n 0, 1, 0, 0, 0, 0, 0, 0), (.getfield 18, 3, 0, 2, 0, 280, 0, 0)] (by decide +kernel) rfl (by simp only [beO hk, Bool.and_true, Bool.true_and]) ?_
    exact XA.ret (some (.int (σ k 2))) rfl (show ckRt mX0_part 42 .ireturn = true by decide +kernel) trivial (Nat.le_of_ble_eq_true rfl) (Nat.le_of_ble_eq_true rfl) ⟨_, _, rfl, rfl, H⟩
theorem E_X0_part {scr : ScA} {k : Nat} {x1 : Int32} {σ : Nat → Nat → Int32} {P : Int32 → (Nat → Nat → Int32) → Prop} (h : K_X0_part_0 scr k x1 σ P) : CiA scr 0 mX0_part [.ref k, .int x1] σ P := CtA.of (by decide) (Nat.le_of_ble_eq_true rfl) (XA.drop (by simp [leL, enL]) h)
def K_X0_offer_0 (scr : ScA) (k : Nat) (x1 : Int32) (x2 : Int32) (x3 : Int32) (σ : Nat → Nat → Int32) (P : (Nat → Nat → Int32) → Prop) : Prop := XA scr 0 mX0_offer 172 4705 0 [some (.ref k), some (.int x1), some (.int x2), some (.int x3)] [] (hs σ) (pV P)
set_option maxRecDepth 20000 in
theorem W_X0_offer_0 {scr : ScA} {k : Nat} (hk : isBe k) {x1 : Int32} {x2 : Int32} {x3 : Int32}  {σ : Nat → Nat → Int32} {P : (Nat → Nat → Int32) → Prop} (H : (x3 ≤ (σ k 2) → P σ) ∧ (¬ x3 ≤ (σ k 2) → ∀ σ1, σ1 = (su σ k 0 x1) → ∀ σ2, σ2 = (su σ1 k 1 x2) → ∀ σ3, σ3 = (su σ2 k 2 x3) → P σ3)) : K_X0_offer_0 scr k x1 x2 x3 σ P := by
  show XA scr 0 mX0_offer 172 4705 0 [some (.ref k), some (.int x1), some (.int x2), some (.int x3)] [] (hs σ) (pV P)
  refine XA.blk (e9 := 5) (ok := kO 172 S0 k 0 && (true)) (ls' := [some (.ref k), some (.int x1), some (.int x2), some (.int x3)]) (st' := [.int (σ k 2), .int x3]) (h' := hs σ) [(.iload_n 3, 1, 3, 0, 0, 0, 0, 0), (.aload_n 0, 1, 0, 0, 0, 0, 0, 0), (.getfield 18, 3, 0, 2, 0, 280, 0, 0)] (by decide +kernel) rfl (by simp only [beO hk, Bool.and_true, Bool.true_and]) ?_
  refine XA.icmp_le (18) 23 (by decide +kernel) (fun c1 => ?_) (fun c1 => ?_)
  · have H := H.1 c1
    exact XA.ret none rfl (show ckRt mX0_offer 23 .return_ = true by decide +kernel) trivial (Nat.le_of_ble_eq_true rfl) (Nat.le_of_ble_eq_true rfl) ⟨_, rfl, rfl, H⟩
  · have H := H.2 c1
    refine XA.blk (e9 := 13) (ok := kO 172 S0 k 0 && (true)) (ls' := [some (.ref k), some (.int x1), some (.int x2), some (.int x3)]) (st' := []) (h' := hs (su σ k 0 x1)) [(.aload_n 0, 1, 0, 0, 0, 0, 0, 0), (.iload_n 1, 1, 1, 0, 0, 0, 0, 0), (.putfield 9, 3, 0, 0, 0, 277, 0, 0)] (by decide +kernel) rfl (by simp only [beO hk, Bool.and_true, Bool.true_and]) ?_
    obtain ⟨σ1, hσ1⟩ : ∃ s9, s9 = (su σ k 0 x1) := ⟨_, rfl⟩
    rw [← hσ1]
    have H := H σ1 hσ1
    refine XA.blk (e9 := 18) (ok := kO 172 S0 k 0 && (true)) (ls' := [some (.ref k), some (.int x1), some (.int x2), some (.int x3)]) (st' := []) (h' := hs (su σ1 k 1 x2)) [(.aload_n 0, 1, 0, 0, 0, 0, 0, 0), (.iload_n 2, 1, 2, 0, 0, 0, 0, 0), (.putfield 15, 3, 0, 1, 0, 279, 0, 0)] (by decide +kernel) rfl (by simp only [beO hk, Bool.and_true, Bool.true_and]) ?_
    obtain ⟨σ2, hσ2⟩ : ∃ s9, s9 = (su σ1 k 1 x2) := ⟨_, rfl⟩
    rw [← hσ2]
    have H := H σ2 hσ2
    refine XA.blk (e9 := 23) (ok := kO 172 S0 k 0 && (true)) (ls' := [some (.ref k), some (.int x1), some (.int x2), some (.int x3)]) (st' := []) (h' := hs (su σ2 k 2 x3)) [(.aload_n 0, 1, 0, 0, 0, 0, 0, 0), (.iload_n 3, 1, 3, 0, 0, 0, 0, 0), (.putfield 18, 3, 0, 2, 0, 280, 0, 0)] (by decide +kernel) rfl (by simp only [beO hk, Bool.and_true, Bool.true_and]) ?_
    obtain ⟨σ3, hσ3⟩ : ∃ s9, s9 = (su σ2 k 2 x3) := ⟨_, rfl⟩
    rw [← hσ3]
    have H := H σ3 hσ3
    exact XA.ret none rfl (show ckRt mX0_offer 23 .return_ = true by decide +kernel) trivial (Nat.le_of_ble_eq_true rfl) (Nat.le_of_ble_eq_true rfl) ⟨_, rfl, rfl, H⟩
theorem E_X0_offer {scr : ScA} {k : Nat} {x1 : Int32} {x2 : Int32} {x3 : Int32} {σ : Nat → Nat → Int32} {P : (Nat → Nat → Int32) → Prop} (h : K_X0_offer_0 scr k x1 x2 x3 σ P) : CvA scr 0 mX0_offer [.ref k, .int x1, .int x2, .int x3] σ P := CtA.of (by decide) (Nat.le_of_ble_eq_true rfl) (XA.drop (by simp [leL, enL]) h)
def K_X0_begin_0 (scr : ScA) (k : Nat)  (σ : Nat → Nat → Int32) (P : (Nat → Nat → Int32) → Prop) : Prop := XA scr 0 mX0_begin 172 4705 0 [some (.ref k)] [] (hs σ) (pV P)
set_option maxRecDepth 20000 in
theorem W_X0_begin_0 {scr : ScA} {k : Nat} (hk : isBe k)   {σ : Nat → Nat → Int32} {P : (Nat → Nat → Int32) → Prop} (H : ∀ σ1, σ1 = (su σ k 0 (-1)) → ∀ σ2, σ2 = (su σ1 k 1 (-1)) → ∀ σ3, σ3 = (su σ2 k 2 (-1)) → ∀ σ4, σ4 = (su σ3 k 3 1) → P σ4) : K_X0_begin_0 scr k σ P := by
  show XA scr 0 mX0_begin 172 4705 0 [some (.ref k)] [] (hs σ) (pV P)
  refine XA.blk (e9 := 5) (ok := kO 172 S0 k 0 && (true)) (ls' := [some (.ref k)]) (st' := []) (h' := hs (su σ k 0 (-1))) [(.aload_n 0, 1, 0, 0, 0, 0, 0, 0), (.iconst (-1), 1, 0, 0, 0, 0, (-1), 0), (.putfield 9, 3, 0, 0, 0, 277, 0, 0)] (by decide +kernel) rfl (by simp only [beO hk, Bool.and_true, Bool.true_and]) ?_
  obtain ⟨σ1, hσ1⟩ : ∃ s9, s9 = (su σ k 0 (-1)) := ⟨_, rfl⟩
  rw [← hσ1]
  have H := H σ1 hσ1
  refine XA.blk (e9 := 10) (ok := kO 172 S0 k 0 && (true)) (ls' := [some (.ref k)]) (st' := []) (h' := hs (su σ1 k 1 (-1))) [(.aload_n 0, 1, 0, 0, 0, 0, 0, 0), (.iconst (-1), 1, 0, 0, 0, 0, (-1), 0), (.putfield 15, 3, 0, 1, 0, 279, 0, 0)] (by decide +kernel) rfl (by simp only [beO hk, Bool.and_true, Bool.true_and]) ?_
  obtain ⟨σ2, hσ2⟩ : ∃ s9, s9 = (su σ1 k 1 (-1)) := ⟨_, rfl⟩
  rw [← hσ2]
  have H := H σ2 hσ2
  refine XA.blk (e9 := 15) (ok := kO 172 S0 k 0 && (true)) (ls' := [some (.ref k)]) (st' := []) (h' := hs (su σ2 k 2 (-1))) [(.aload_n 0, 1, 0, 0, 0, 0, 0, 0), (.iconst (-1), 1, 0, 0, 0, 0, (-1), 0), (.putfield 18, 3, 0, 2, 0, 280, 0, 0)] (by decide +kernel) rfl (by simp only [beO hk, Bool.and_true, Bool.true_and]) ?_
  obtain ⟨σ3, hσ3⟩ : ∃ s9, s9 = (su σ2 k 2 (-1)) := ⟨_, rfl⟩
  rw [← hσ3]
  have H := H σ3 hσ3
  refine XA.blk (e9 := 20) (ok := (kO 172 S0 k 0 && true) && (true)) (ls' := [some (.ref k)]) (st' := []) (h' := hs (su σ3 k 3 1)) [(.aload_n 0, 1, 0, 0, 0, 0, 0, 0), (.iconst 1, 1, 0, 0, 0, 0, 1, 0), (.putfield 21, 3, 0, 3, 2, 283, 0, 0)] (by decide +kernel) rfl (by simp only [beO hk, Bool.and_true, Bool.true_and]) ?_
  obtain ⟨σ4, hσ4⟩ : ∃ s9, s9 = (su σ3 k 3 1) := ⟨_, rfl⟩
  rw [← hσ4]
  have H := H σ4 hσ4
  exact XA.ret none rfl (show ckRt mX0_begin 20 .return_ = true by decide +kernel) trivial (Nat.le_of_ble_eq_true rfl) (Nat.le_of_ble_eq_true rfl) ⟨_, rfl, rfl, H⟩
theorem E_X0_begin {scr : ScA} {k : Nat}  {σ : Nat → Nat → Int32} {P : (Nat → Nat → Int32) → Prop} (h : K_X0_begin_0 scr k σ P) : CvA scr 0 mX0_begin [.ref k] σ P := CtA.of (by decide) (Nat.le_of_ble_eq_true rfl) (XA.drop (by simp [leL, enL]) h)
def K_X4_hasRange_0 (scr : ScA) (k : Nat) (x1 : Int32) (x2 : Int32) (σ : Nat → Nat → Int32) (P : Int32 → (Nat → Nat → Int32) → Prop) : Prop := XA scr 0 mX4_hasRange 172 4705 0 [some (.ref k), some (.int x1), some (.int x2)] [] (hs σ) (pI P)
set_option maxRecDepth 20000 in
theorem W_X4_hasRange_0 {scr : ScA} {k : Nat} (hk : isSe k) {x1 : Int32} {x2 : Int32}  {σ : Nat → Nat → Int32} {P : Int32 → (Nat → Nat → Int32) → Prop} (H : (((if x1 < 0 then 0 else (if x2 < 0 then 0 else (if (σ k 2) < x1 then 0 else (if ((σ k 2) - x1) < x2 then 0 else 1 : Int32) : Int32) : Int32) : Int32) : Int32) = 0 ∨ ((if x1 < 0 then 0 else (if x2 < 0 then 0 else (if (σ k 2) < x1 then 0 else (if ((σ k 2) - x1) < x2 then 0 else 1 : Int32) : Int32) : Int32) : Int32) : Int32) = 1) ∧ P (if x1 < 0 then 0 else (if x2 < 0 then 0 else (if (σ k 2) < x1 then 0 else (if ((σ k 2) - x1) < x2 then 0 else 1 : Int32) : Int32) : Int32) : Int32) σ) : K_X4_hasRange_0 scr k x1 x2 σ P := by
  show XA scr 0 mX4_hasRange 172 4705 0 [some (.ref k), some (.int x1), some (.int x2)] [] (hs σ) (pI P)
  refine XA.blk (e9 := 1) (ok := true) (ls' := [some (.ref k), some (.int x1), some (.int x2)]) (st' := [.int x1]) (h' := hs σ) [(.iload_n 1, 1, 1, 0, 0, 0, 0, 0)] (by decide +kernel) rfl rfl ?_
  have hJ1 : XA scr 0 mX4_hasRange 172 4705 31 [none, none, none] [.int (if x1 < 0 then 0 else (if x2 < 0 then 0 else (if (σ k 2) < x1 then 0 else (if ((σ k 2) - x1) < x2 then 0 else 1 : Int32) : Int32) : Int32) : Int32)] (hs σ) (pI P) := by
    exact XA.ret (some (.int (if x1 < 0 then 0 else (if x2 < 0 then 0 else (if (σ k 2) < x1 then 0 else (if ((σ k 2) - x1) < x2 then 0 else 1 : Int32) : Int32) : Int32) : Int32))) rfl (show ckRt mX4_hasRange 31 .ireturn = true by decide +kernel) H.1 (Nat.le_of_ble_eq_true rfl) (Nat.le_of_ble_eq_true rfl) ⟨_, _, rfl, rfl, H.2⟩
  refine XA.if_lt (29) 30 (by decide +kernel) (fun c1 => ?_) (fun c1 => ?_)
  · refine XA.blk (e9 := 31) (ok := true) (ls' := [some (.ref k), some (.int x1), some (.int x2)]) (st' := [.int 0]) (h' := hs σ) [(.iconst 0, 1, 0, 0, 0, 0, 0, 0)] (by decide +kernel) rfl rfl ?_
    refine XA.drop (ls := [none, none, none]) (by simp [leL]) ?_
    simpa only [if_pos c1] using hJ1
  · refine XA.blk (e9 := 5) (ok := true) (ls' := [some (.ref k), some (.int x1), some (.int x2)]) (st' := [.int x2]) (h' := hs σ) [(.iload_n 2, 1, 2, 0, 0, 0, 0, 0)] (by decide +kernel) rfl rfl ?_
    have hJ5 : XA scr 0 mX4_hasRange 172 4705 31 [none, none, none] [.int (if x2 < 0 then 0 else (if (σ k 2) < x1 then 0 else (if ((σ k 2) - x1) < x2 then 0 else 1 : Int32) : Int32) : Int32)] (hs σ) (pI P) := by
      simpa only [if_neg c1] using hJ1
    refine XA.if_lt (25) 30 (by decide +kernel) (fun c2 => ?_) (fun c2 => ?_)
    · refine XA.blk (e9 := 31) (ok := true) (ls' := [some (.ref k), some (.int x1), some (.int x2)]) (st' := [.int 0]) (h' := hs σ) [(.iconst 0, 1, 0, 0, 0, 0, 0, 0)] (by decide +kernel) rfl rfl ?_
      refine XA.drop (ls := [none, none, none]) (by simp [leL]) ?_
      simpa only [if_pos c2] using hJ5
    · refine XA.blk (e9 := 13) (ok := kO 172 S0 k 4 && (true)) (ls' := [some (.ref k), some (.int x1), some (.int x2)]) (st' := [.int (σ k 2), .int x1]) (h' := hs σ) [(.iload_n 1, 1, 1, 0, 0, 0, 0, 0), (.aload_n 0, 1, 0, 0, 0, 0, 0, 0), (.getfield 38, 3, 4, 2, 0, 385, 0, 0)] (by decide +kernel) rfl (by simp only [seO hk, Bool.and_true, Bool.true_and]) ?_
      have hJ13 : XA scr 0 mX4_hasRange 172 4705 31 [none, none, none] [.int (if (σ k 2) < x1 then 0 else (if ((σ k 2) - x1) < x2 then 0 else 1 : Int32) : Int32)] (hs σ) (pI P) := by
        simpa only [if_neg c2] using hJ5
      refine XA.icmp_gt (17) 30 (by decide +kernel) (fun c3 => ?_) (fun c3 => ?_)
      · refine XA.blk (e9 := 31) (ok := true) (ls' := [some (.ref k), some (.int x1), some (.int x2)]) (st' := [.int 0]) (h' := hs σ) [(.iconst 0, 1, 0, 0, 0, 0, 0, 0)] (by decide +kernel) rfl rfl ?_
        refine XA.drop (ls := [none, none, none]) (by simp [leL]) ?_
        simpa only [if_pos c3] using hJ13
      · refine XA.blk (e9 := 23) (ok := kO 172 S0 k 4 && (true)) (ls' := [some (.ref k), some (.int x1), some (.int x2)]) (st' := [.int ((σ k 2) - x1), .int x2]) (h' := hs σ) [(.iload_n 2, 1, 2, 0, 0, 0, 0, 0), (.aload_n 0, 1, 0, 0, 0, 0, 0, 0), (.getfield 38, 3, 4, 2, 0, 385, 0, 0), (.iload_n 1, 1, 1, 0, 0, 0, 0, 0), (.isub, 1, 0, 0, 0, 0, 0, 0)] (by decide +kernel) rfl (by simp only [seO hk, Bool.and_true, Bool.true_and]) ?_
        have hJ23 : XA scr 0 mX4_hasRange 172 4705 31 [none, none, none] [.int (if ((σ k 2) - x1) < x2 then 0 else 1 : Int32)] (hs σ) (pI P) := by
          simpa only [if_neg c3] using hJ13
        refine XA.icmp_gt (7) 30 (by decide +kernel) (fun c4 => ?_) (fun c4 => ?_)
        · refine XA.blk (e9 := 31) (ok := true) (ls' := [some (.ref k), some (.int x1), some (.int x2)]) (st' := [.int 0]) (h' := hs σ) [(.iconst 0, 1, 0, 0, 0, 0, 0, 0)] (by decide +kernel) rfl rfl ?_
          refine XA.drop (ls := [none, none, none]) (by simp [leL]) ?_
          simpa only [if_pos c4] using hJ23
        · refine XA.blk (e9 := 31) (ok := true) (ls' := [some (.ref k), some (.int x1), some (.int x2)]) (st' := [.int 1]) (h' := hs σ) [(.iconst 1, 1, 0, 0, 0, 0, 1, 0), (.goto 4, 3, 31, 0, 0, 0, 0, 0)] (by decide +kernel) rfl rfl ?_
          refine XA.drop (ls := [none, none, none]) (by simp [leL]) ?_
          simpa only [if_neg c4] using hJ23
theorem E_X4_hasRange {scr : ScA} {k : Nat} {x1 : Int32} {x2 : Int32} {σ : Nat → Nat → Int32} {P : Int32 → (Nat → Nat → Int32) → Prop} (h : K_X4_hasRange_0 scr k x1 x2 σ P) : CiA scr 0 mX4_hasRange [.ref k, .int x1, .int x2] σ P := CtA.of (by decide) (Nat.le_of_ble_eq_true rfl) (XA.drop (by simp [leL, enL]) h)
def K_X6_add_0 (scr : ScA)  (x1 : Int32) (x2 : Int32) (x3 : Int32) (σ : Nat → Nat → Int32) (P : (Nat → Nat → Int32) → Prop) : Prop := XA scr 0 mX6_add 172 4705 0 [some (.ref 14), some (.int x1), some (.int x2), some (.int x3)] [] (hs σ) (pV P)
set_option maxRecDepth 20000 in
theorem W_X6_add_0 {scr : ScA}   {x1 : Int32} {x2 : Int32} {x3 : Int32}  {σ : Nat → Nat → Int32} {P : (Nat → Nat → Int32) → Prop} (H : (8 ≤ (σ 14 3) → P σ) ∧ (¬ 8 ≤ (σ 14 3) → (inB (σ 14 3) 8 = true) ∧ (∀ σ1, σ1 = (su σ 15 (Int32.toNatClampNeg (σ 14 3)) x1) → (inB (σ1 14 3) 8 = true) ∧ (∀ σ2, σ2 = (su σ1 16 (Int32.toNatClampNeg (σ1 14 3)) x2) → (inB (σ2 14 3) 8 = true) ∧ (∀ σ3, σ3 = (su σ2 17 (Int32.toNatClampNeg (σ2 14 3)) (if ¬ x3 = 10 then x3 else (-1) : Int32)) → ∀ σ4, σ4 = (su σ3 14 3 ((σ3 14 3) + 1)) → P σ4))))) : K_X6_add_0 scr x1 x2 x3 σ P := by
  show XA scr 0 mX6_add 172 4705 0 [some (.ref 14), some (.int x1), some (.int x2), some (.int x3)] [] (hs σ) (pV P)
  refine XA.blk (e9 := 6) (ok := true) (ls' := [some (.ref 14), some (.int x1), some (.int x2), some (.int x3)]) (st' := [.int 8, .int (σ 14 3)]) (h' := hs σ) [(.aload_n 0, 1, 0, 0, 0, 0, 0, 0), (.getfield 21, 3, 6, 3, 0, 194, 0, 0), (.bipush 8, 2, 0, 0, 0, 0, 8, 0)] (by decide +kernel) rfl rfl ?_
  refine XA.icmp_ge (53) 59 (by decide +kernel) (fun c1 => ?_) (fun c1 => ?_)
  · have H := H.1 c1
    exact XA.ret none rfl (show ckRt mX6_add 59 .return_ = true by decide +kernel) trivial (Nat.le_of_ble_eq_true rfl) (Nat.le_of_ble_eq_true rfl) ⟨_, rfl, rfl, H⟩
  · have H := H.2 c1
    obtain ⟨o1, H⟩ := H
    refine XA.blk (e9 := 19) (ok := inB (σ 14 3) 8 && (true)) (ls' := [some (.ref 14), some (.int x1), some (.int x2), some (.int x3)]) (st' := []) (h' := hs (su σ 15 (Int32.toNatClampNeg (σ 14 3)) x1)) [(.aload_n 0, 1, 0, 0, 0, 0, 0, 0), (.getfield 9, 3, 6, 0, 2, 191, 0, 0), (.aload_n 0, 1, 0, 0, 0, 0, 0, 0), (.getfield 21, 3, 6, 3, 0, 194, 0, 0), (.iload_n 1, 1, 1, 0, 0, 0, 0, 0), (.iastore, 1, 0, 0, 0, 0, 0, 0)] (by decide +kernel) rfl (by simp only [o1, Bool.and_true, Bool.true_and]) ?_
    obtain ⟨σ1, hσ1⟩ : ∃ s9, s9 = (su σ 15 (Int32.toNatClampNeg (σ 14 3)) x1) := ⟨_, rfl⟩
    rw [← hσ1]
    have H := H σ1 hσ1
    obtain ⟨o2, H⟩ := H
    refine XA.blk (e9 := 29) (ok := inB (σ1 14 3) 8 && (true)) (ls' := [some (.ref 14), some (.int x1), some (.int x2), some (.int x3)]) (st' := []) (h' := hs (su σ1 16 (Int32.toNatClampNeg (σ1 14 3)) x2)) [(.aload_n 0, 1, 0, 0, 0, 0, 0, 0), (.getfield 15, 3, 6, 1, 3, 192, 0, 0), (.aload_n 0, 1, 0, 0, 0, 0, 0, 0), (.getfield 21, 3, 6, 3, 0, 194, 0, 0), (.iload_n 2, 1, 2, 0, 0, 0, 0, 0), (.iastore, 1, 0, 0, 0, 0, 0, 0)] (by decide +kernel) rfl (by simp only [o2, Bool.and_true, Bool.true_and]) ?_
    obtain ⟨σ2, hσ2⟩ : ∃ s9, s9 = (su σ1 16 (Int32.toNatClampNeg (σ1 14 3)) x2) := ⟨_, rfl⟩
    rw [← hσ2]
    have H := H σ2 hσ2
    refine XA.blk (e9 := 40) (ok := true) (ls' := [some (.ref 14), some (.int x1), some (.int x2), some (.int x3)]) (st' := [.int 10, .int x3, .int (σ2 14 3), .ref 17]) (h' := hs σ2) [(.aload_n 0, 1, 0, 0, 0, 0, 0, 0), (.getfield 18, 3, 6, 2, 4, 193, 0, 0), (.aload_n 0, 1, 0, 0, 0, 0, 0, 0), (.getfield 21, 3, 6, 3, 0, 194, 0, 0), (.iload_n 3, 1, 3, 0, 0, 0, 0, 0), (.bipush 10, 2, 0, 0, 0, 0, 10, 0)] (by decide +kernel) rfl rfl ?_
    have hJ40 : XA scr 0 mX6_add 172 4705 48 [some (.ref 14), none, none, none] [.int (if ¬ x3 = 10 then x3 else (-1) : Int32), .int (σ2 14 3), .ref 17] (hs σ2) (pV P) := by
      obtain ⟨o3, H⟩ := H
      refine XA.blk (e9 := 49) (ok := inB (σ2 14 3) 8 && (true)) (ls' := [some (.ref 14), none, none, none]) (st' := []) (h' := hs (su σ2 17 (Int32.toNatClampNeg (σ2 14 3)) (if ¬ x3 = 10 then x3 else (-1) : Int32))) [(.iastore, 1, 0, 0, 0, 0, 0, 0)] (by decide +kernel) rfl (by simp only [o3, Bool.and_true, Bool.true_and]) ?_
      obtain ⟨σ3, hσ3⟩ : ∃ s9, s9 = (su σ2 17 (Int32.toNatClampNeg (σ2 14 3)) (if ¬ x3 = 10 then x3 else (-1) : Int32)) := ⟨_, rfl⟩
      rw [← hσ3]
      have H := H σ3 hσ3
      refine XA.blk (e9 := 59) (ok := true) (ls' := [some (.ref 14), none, none, none]) (st' := []) (h' := hs (su σ3 14 3 ((σ3 14 3) + 1))) [(.aload_n 0, 1, 0, 0, 0, 0, 0, 0), (.dup, 1, 0, 0, 0, 0, 0, 0), (.getfield 21, 3, 6, 3, 0, 194, 0, 0), (.iconst 1, 1, 0, 0, 0, 0, 1, 0), (.iadd, 1, 0, 0, 0, 0, 0, 0), (.putfield 21, 3, 6, 3, 0, 194, 0, 0)] (by decide +kernel) rfl rfl ?_
      obtain ⟨σ4, hσ4⟩ : ∃ s9, s9 = (su σ3 14 3 ((σ3 14 3) + 1)) := ⟨_, rfl⟩
      rw [← hσ4]
      have H := H σ4 hσ4
      exact XA.ret none rfl (show ckRt mX6_add 59 .return_ = true by decide +kernel) trivial (Nat.le_of_ble_eq_true rfl) (Nat.le_of_ble_eq_true rfl) ⟨_, rfl, rfl, H⟩
    refine XA.icmp_ne (7) 47 (by decide +kernel) (fun c2 => ?_) (fun c2 => ?_)
    · refine XA.blk (e9 := 48) (ok := true) (ls' := [some (.ref 14), some (.int x1), some (.int x2), some (.int x3)]) (st' := [.int x3, .int (σ2 14 3), .ref 17]) (h' := hs σ2) [(.iload_n 3, 1, 3, 0, 0, 0, 0, 0)] (by decide +kernel) rfl rfl ?_
      refine XA.drop (ls := [some (.ref 14), none, none, none]) (by simp [leL]) ?_
      simpa only [if_pos c2] using hJ40
    · refine XA.blk (e9 := 48) (ok := true) (ls' := [some (.ref 14), some (.int x1), some (.int x2), some (.int x3)]) (st' := [.int (-1), .int (σ2 14 3), .ref 17]) (h' := hs σ2) [(.iconst (-1), 1, 0, 0, 0, 0, (-1), 0), (.goto 4, 3, 48, 0, 0, 0, 0, 0)] (by decide +kernel) rfl rfl ?_
      refine XA.drop (ls := [some (.ref 14), none, none, none]) (by simp [leL]) ?_
      simpa only [if_neg (not_not_intro c2)] using hJ40
theorem E_X6_add {scr : ScA}  {x1 : Int32} {x2 : Int32} {x3 : Int32} {σ : Nat → Nat → Int32} {P : (Nat → Nat → Int32) → Prop} (h : K_X6_add_0 scr x1 x2 x3 σ P) : CvA scr 0 mX6_add [.ref 14, .int x1, .int x2, .int x3] σ P := CtA.of (by decide) (Nat.le_of_ble_eq_true rfl) (XA.drop (by simp [leL, enL]) h)
def K_X7_append_0 (scr : ScA)  (x1 : Int32) (σ : Nat → Nat → Int32) (P : (Nat → Nat → Int32) → Prop) : Prop := XA scr 0 mX7_append 172 4705 0 [some (.ref 1), some (.int x1)] [] (hs σ) (pV P)
set_option maxRecDepth 20000 in
theorem W_X7_append_0 {scr : ScA}   {x1 : Int32}  {σ : Nat → Nat → Int32} {P : (Nat → Nat → Int32) → Prop} (H : (59 ≤ (σ 1 1) → P σ) ∧ (¬ 59 ≤ (σ 1 1) → (inB (σ 1 1) 59 = true) ∧ (∀ σ1, σ1 = (su σ 2 (Int32.toNatClampNeg (σ 1 1)) x1) → ∀ σ2, σ2 = (su σ1 1 1 ((σ1 1 1) + 1)) → P σ2))) : K_X7_append_0 scr x1 σ P := by
  show XA scr 0 mX7_append 172 4705 0 [some (.ref 1), some (.int x1)] [] (hs σ) (pV P)
  refine XA.blk (e9 := 6) (ok := true) (ls' := [some (.ref 1), some (.int x1)]) (st' := [.int 59, .int (σ 1 1)]) (h' := hs σ) [(.aload_n 0, 1, 0, 0, 0, 0, 0, 0), (.getfield 15, 3, 7, 1, 0, 96, 0, 0), (.bipush 59, 2, 0, 0, 0, 0, 59, 0)] (by decide +kernel) rfl rfl ?_
  refine XA.icmp_ge (23) 29 (by decide +kernel) (fun c1 => ?_) (fun c1 => ?_)
  · have H := H.1 c1
    exact XA.ret none rfl (show ckRt mX7_append 29 .return_ = true by decide +kernel) trivial (Nat.le_of_ble_eq_true rfl) (Nat.le_of_ble_eq_true rfl) ⟨_, rfl, rfl, H⟩
  · have H := H.2 c1
    obtain ⟨o1, H⟩ := H
    refine XA.blk (e9 := 19) (ok := inB (σ 1 1) 59 && (true)) (ls' := [some (.ref 1), some (.int x1)]) (st' := []) (h' := hs (su σ 2 (Int32.toNatClampNeg (σ 1 1)) x1)) [(.aload_n 0, 1, 0, 0, 0, 0, 0, 0), (.getfield 9, 3, 7, 0, 2, 95, 0, 0), (.aload_n 0, 1, 0, 0, 0, 0, 0, 0), (.getfield 15, 3, 7, 1, 0, 96, 0, 0), (.iload_n 1, 1, 1, 0, 0, 0, 0, 0), (.iastore, 1, 0, 0, 0, 0, 0, 0)] (by decide +kernel) rfl (by simp only [o1, Bool.and_true, Bool.true_and]) ?_
    obtain ⟨σ1, hσ1⟩ : ∃ s9, s9 = (su σ 2 (Int32.toNatClampNeg (σ 1 1)) x1) := ⟨_, rfl⟩
    rw [← hσ1]
    have H := H σ1 hσ1
    refine XA.blk (e9 := 29) (ok := true) (ls' := [some (.ref 1), some (.int x1)]) (st' := []) (h' := hs (su σ1 1 1 ((σ1 1 1) + 1))) [(.aload_n 0, 1, 0, 0, 0, 0, 0, 0), (.dup, 1, 0, 0, 0, 0, 0, 0), (.getfield 15, 3, 7, 1, 0, 96, 0, 0), (.iconst 1, 1, 0, 0, 0, 0, 1, 0), (.iadd, 1, 0, 0, 0, 0, 0, 0), (.putfield 15, 3, 7, 1, 0, 96, 0, 0)] (by decide +kernel) rfl rfl ?_
    obtain ⟨σ2, hσ2⟩ : ∃ s9, s9 = (su σ1 1 1 ((σ1 1 1) + 1)) := ⟨_, rfl⟩
    rw [← hσ2]
    have H := H σ2 hσ2
    exact XA.ret none rfl (show ckRt mX7_append 29 .return_ = true by decide +kernel) trivial (Nat.le_of_ble_eq_true rfl) (Nat.le_of_ble_eq_true rfl) ⟨_, rfl, rfl, H⟩
theorem E_X7_append {scr : ScA}  {x1 : Int32} {σ : Nat → Nat → Int32} {P : (Nat → Nat → Int32) → Prop} (h : K_X7_append_0 scr x1 σ P) : CvA scr 0 mX7_append [.ref 1, .int x1] σ P := CtA.of (by decide) (Nat.le_of_ble_eq_true rfl) (XA.drop (by simp [leL, enL]) h)
def K_X9_forgetAnswers_0 (scr : ScA)   (σ : Nat → Nat → Int32) (P : (Nat → Nat → Int32) → Prop) : Prop := XA scr 0 mX9_forgetAnswers 172 4705 0 [some (.ref 106)] [] (hs σ) (pV P)
set_option maxRecDepth 20000 in
theorem W_X9_forgetAnswers_0 {scr : ScA}     {σ : Nat → Nat → Int32} {P : (Nat → Nat → Int32) → Prop} (H : ∀ σ1, σ1 = (su σ 106 3 0) → P σ1) : K_X9_forgetAnswers_0 scr σ P := by
  show XA scr 0 mX9_forgetAnswers 172 4705 0 [some (.ref 106)] [] (hs σ) (pV P)
  refine XA.blk (e9 := 5) (ok := true) (ls' := [some (.ref 106)]) (st' := []) (h' := hs (su σ 106 3 0)) [(.aload_n 0, 1, 0, 0, 0, 0, 0, 0), (.iconst 0, 1, 0, 0, 0, 0, 0, 0), (.putfield 31, 3, 9, 3, 2, 364, 0, 0)] (by decide +kernel) rfl rfl ?_
  obtain ⟨σ1, hσ1⟩ : ∃ s9, s9 = (su σ 106 3 0) := ⟨_, rfl⟩
  rw [← hσ1]
  have H := H σ1 hσ1
  exact XA.ret none rfl (show ckRt mX9_forgetAnswers 5 .return_ = true by decide +kernel) trivial (Nat.le_of_ble_eq_true rfl) (Nat.le_of_ble_eq_true rfl) ⟨_, rfl, rfl, H⟩
theorem E_X9_forgetAnswers {scr : ScA}   {σ : Nat → Nat → Int32} {P : (Nat → Nat → Int32) → Prop} (h : K_X9_forgetAnswers_0 scr σ P) : CvA scr 0 mX9_forgetAnswers [.ref 106] σ P := CtA.of (by decide) (Nat.le_of_ble_eq_true rfl) (XA.drop (by simp [leL, enL]) h)
def K_X3_forgetAnswers_0 (scr : ScA)   (σ : Nat → Nat → Int32) (P : (Nat → Nat → Int32) → Prop) : Prop := XA scr 0 mX3_forgetAnswers 172 4705 0 [some (.ref 49), none] [] (hs σ) (pV P)
def K_X3_forgetAnswers_18 (scr : ScA)  (x1 : Int32) (σ : Nat → Nat → Int32) (P : (Nat → Nat → Int32) → Prop) : Prop := XA scr 0 mX3_forgetAnswers 172 4705 18 [some (.ref 49), some (.int x1)] [] (hs σ) (pV P)
set_option maxRecDepth 20000 in
theorem W_X3_forgetAnswers_0 {scr : ScA}     {σ : Nat → Nat → Int32} {P : (Nat → Nat → Int32) → Prop} (H : ∀ σ1, σ1 = (su σ 64 3 0) → ∀ σ2, σ2 = (su σ1 65 3 0) → K_X3_forgetAnswers_18 scr 0 σ2 P) : K_X3_forgetAnswers_0 scr σ P := by
  show XA scr 0 mX3_forgetAnswers 172 4705 0 [some (.ref 49), none] [] (hs σ) (pV P)
  refine XA.blk (e9 := 8) (ok := true) (ls' := [some (.ref 49), none]) (st' := []) (h' := hs (su σ 64 3 0)) [(.aload_n 0, 1, 0, 0, 0, 0, 0, 0), (.getfield 30, 3, 3, 2, 16, 296, 0, 0), (.iconst 0, 1, 0, 0, 0, 0, 0, 0), (.putfield 41, 3, 0, 3, 2, 282, 0, 0)] (by decide +kernel) rfl rfl ?_
  obtain ⟨σ1, hσ1⟩ : ∃ s9, s9 = (su σ 64 3 0) := ⟨_, rfl⟩
  rw [← hσ1]
  have H := H σ1 hσ1
  refine XA.blk (e9 := 16) (ok := true) (ls' := [some (.ref 49), none]) (st' := []) (h' := hs (su σ1 65 3 0)) [(.aload_n 0, 1, 0, 0, 0, 0, 0, 0), (.getfield 34, 3, 3, 3, 17, 297, 0, 0), (.iconst 0, 1, 0, 0, 0, 0, 0, 0), (.putfield 41, 3, 0, 3, 2, 282, 0, 0)] (by decide +kernel) rfl rfl ?_
  obtain ⟨σ2, hσ2⟩ : ∃ s9, s9 = (su σ1 65 3 0) := ⟨_, rfl⟩
  rw [← hσ2]
  have H := H σ2 hσ2
  refine XA.blk (e9 := 18) (ok := true) (ls' := [some (.ref 49), some (.int 0)]) (st' := []) (h' := hs σ2) [(.iconst 0, 1, 0, 0, 0, 0, 0, 0), (.istore_n 1, 1, 1, 0, 0, 0, 0, 0)] (by decide +kernel) rfl rfl ?_
  exact H
set_option maxRecDepth 20000 in
theorem W_X3_forgetAnswers_18 {scr : ScA}   {x1 : Int32}  {σ : Nat → Nat → Int32} {P : (Nat → Nat → Int32) → Prop} (H : (10 ≤ x1 → P σ) ∧ (¬ 10 ≤ x1 → (inB x1 10 = true) ∧ (∀ σ1, σ1 = (su σ (66 + 1 + 1 * Int32.toNatClampNeg x1) 3 0) → K_X3_forgetAnswers_18 scr (x1 + 1) σ1 P))) : K_X3_forgetAnswers_18 scr x1 σ P := by
  show XA scr 0 mX3_forgetAnswers 172 4705 18 [some (.ref 49), some (.int x1)] [] (hs σ) (pV P)
  refine XA.blk (e9 := 21) (ok := true) (ls' := [some (.ref 49), some (.int x1)]) (st' := [.int 10, .int x1]) (h' := hs σ) [(.iload_n 1, 1, 1, 0, 0, 0, 0, 0), (.bipush 10, 2, 0, 0, 0, 0, 10, 0)] (by decide +kernel) rfl rfl ?_
  refine XA.icmp_ge (19) 40 (by decide +kernel) (fun c1 => ?_) (fun c1 => ?_)
  · have H := H.1 c1
    exact XA.ret none rfl (show ckRt mX3_forgetAnswers 40 .return_ = true by decide +kernel) trivial (Nat.le_of_ble_eq_true rfl) (Nat.le_of_ble_eq_true rfl) ⟨_, rfl, rfl, H⟩
  · have H := H.2 c1
    obtain ⟨o1, H⟩ := H
    refine XA.blk (e9 := 34) (ok := (inB x1 10 && (true && kR R0 66 (Int32.toNatClampNeg x1) (66 + 1 + 1 * Int32.toNatClampNeg x1))) && ((kO 172 S0 (66 + 1 + 1 * Int32.toNatClampNeg x1) 0 && true) && (true))) (ls' := [some (.ref 49), some (.int x1)]) (st' := []) (h' := hs (su σ (66 + 1 + 1 * Int32.toNatClampNeg x1) 3 0)) [(.aload_n 0, 1, 0, 0, 0, 0, 0, 0), (.getfield 37, 3, 3, 4, 18, 298, 0, 0), (.iload_n 1, 1, 1, 0, 0, 0, 0, 0), (.aaload, 1, 1, 1, 0, 0, 0, 0), (.iconst 0, 1, 0, 0, 0, 0, 0, 0), (.putfield 41, 3, 0, 3, 2, 282, 0, 0)] (by decide +kernel) rfl (by simp only [beK o1, beO (beH o1), o1, Bool.and_true, Bool.true_and]) ?_
    obtain ⟨σ1, hσ1⟩ : ∃ s9, s9 = (su σ (66 + 1 + 1 * Int32.toNatClampNeg x1) 3 0) := ⟨_, rfl⟩
    rw [← hσ1]
    have H := H σ1 hσ1
    refine XA.blk (e9 := 18) (ok := true) (ls' := [some (.ref 49), some (.int (x1 + 1))]) (st' := []) (h' := hs σ1) [(.iinc 1 1, 3, 1, 0, 0, 0, 1, 0), (.goto (-19), 3, 18, 0, 0, 0, 0, 0)] (by decide +kernel) rfl rfl ?_
    exact H
theorem E_X3_forgetAnswers {scr : ScA}   {σ : Nat → Nat → Int32} {P : (Nat → Nat → Int32) → Prop} (h : K_X3_forgetAnswers_0 scr σ P) : CvA scr 0 mX3_forgetAnswers [.ref 49] σ P := CtA.of (by decide) (Nat.le_of_ble_eq_true rfl) (XA.drop (by simp [leL, enL]) h)
def K_X10_fault_0 (scr : ScA)   (σ : Nat → Nat → Int32) (P : Int32 → (Nat → Nat → Int32) → Prop) : Prop := XA scr 0 mX10_fault 172 4705 0 [some (.ref 0)] [] (hs σ) (pI P)
set_option maxRecDepth 20000 in
theorem W_X10_fault_0 {scr : ScA}     {σ : Nat → Nat → Int32} {P : Int32 → (Nat → Nat → Int32) → Prop} (H : P (σ 0 11) σ) : K_X10_fault_0 scr σ P := by
  show XA scr 0 mX10_fault 172 4705 0 [some (.ref 0)] [] (hs σ) (pI P)
  refine XA.blk (e9 := 4) (ok := true) (ls' := [some (.ref 0)]) (st' := [.int (σ 0 11)]) (h' := hs σ) [(.aload_n 0, 1, 0, 0, 0, 0, 0, 0), (.getfield 80, 3, 10, 11, 0, 409, 0, 0)] (by decide +kernel) rfl rfl ?_
  exact XA.ret (some (.int (σ 0 11))) rfl (show ckRt mX10_fault 4 .ireturn = true by decide +kernel) trivial (Nat.le_of_ble_eq_true rfl) (Nat.le_of_ble_eq_true rfl) ⟨_, _, rfl, rfl, H⟩
theorem E_X10_fault {scr : ScA}   {σ : Nat → Nat → Int32} {P : Int32 → (Nat → Nat → Int32) → Prop} (h : K_X10_fault_0 scr σ P) : CiA scr 0 mX10_fault [.ref 0] σ P := CtA.of (by decide) (Nat.le_of_ble_eq_true rfl) (XA.drop (by simp [leL, enL]) h)
def K_X10_finding_0 (scr : ScA)  (x1 : Int32) (σ : Nat → Nat → Int32) (P : Int32 → (Nat → Nat → Int32) → Prop) : Prop := XA scr 0 mX10_finding 172 4705 0 [some (.ref 0), some (.int x1)] [] (hs σ) (pI P)
set_option maxRecDepth 20000 in
theorem W_X10_finding_0 {scr : ScA}   {x1 : Int32}  {σ : Nat → Nat → Int32} {P : Int32 → (Nat → Nat → Int32) → Prop} (H : ∀ σ1, σ1 = (su σ 0 13 x1) → P ((-10) - x1) σ1) : K_X10_finding_0 scr x1 σ P := by
  show XA scr 0 mX10_finding 172 4705 0 [some (.ref 0), some (.int x1)] [] (hs σ) (pI P)
  refine XA.blk (e9 := 5) (ok := true) (ls' := [some (.ref 0), some (.int x1)]) (st' := []) (h' := hs (su σ 0 13 x1)) [(.aload_n 0, 1, 0, 0, 0, 0, 0, 0), (.iload_n 1, 1, 1, 0, 0, 0, 0, 0), (.putfield 255, 3, 10, 13, 0, 411, 0, 0)] (by decide +kernel) rfl rfl ?_
  obtain ⟨σ1, hσ1⟩ : ∃ s9, s9 = (su σ 0 13 x1) := ⟨_, rfl⟩
  rw [← hσ1]
  have H := H σ1 hσ1
  refine XA.blk (e9 := 9) (ok := true) (ls' := [some (.ref 0), some (.int x1)]) (st' := [.int ((-10) - x1)]) (h' := hs σ1) [(.bipush (-10), 2, 0, 0, 0, 0, (-10), 0), (.iload_n 1, 1, 1, 0, 0, 0, 0, 0), (.isub, 1, 0, 0, 0, 0, 0, 0)] (by decide +kernel) rfl rfl ?_
  exact XA.ret (some (.int ((-10) - x1))) rfl (show ckRt mX10_finding 9 .ireturn = true by decide +kernel) trivial (Nat.le_of_ble_eq_true rfl) (Nat.le_of_ble_eq_true rfl) ⟨_, _, rfl, rfl, H⟩
theorem E_X10_finding {scr : ScA}  {x1 : Int32} {σ : Nat → Nat → Int32} {P : Int32 → (Nat → Nat → Int32) → Prop} (h : K_X10_finding_0 scr x1 σ P) : CiA scr 0 mX10_finding [.ref 0, .int x1] σ P := CtA.of (by decide) (Nat.le_of_ble_eq_true rfl) (XA.drop (by simp [leL, enL]) h)
def K_X8_become_0 (scr : ScA) (k : Nat)  (σ : Nat → Nat → Int32) (P : (Nat → Nat → Int32) → Prop) : Prop := XA scr 1 mX8_become 172 4705 0 [some (.ref k), some (.ref 3)] [] (hs σ) (pV P)
set_option maxRecDepth 20000 in
theorem W_X8_become_0 {scr : ScA} {k : Nat} (hk : isTr k)   {σ : Nat → Nat → Int32} {P : (Nat → Nat → Int32) → Prop} (H : ∀ σ1, σ1 = (su σ k 6 (σ 3 6)) → (decide ((k + 1) < 172 ∧ (S0 (k + 1)).1 = 1 ∧ 4 < 172 ∧ (S0 4).1 = 1) = true) ∧ (decide (¬ (0 : Int32) < 0 ∧ ¬ (0 : Int32) < 0 ∧ ¬ (10 : Int32) < 0 ∧ Int32.toNatClampNeg (0 : Int32) + Int32.toNatClampNeg (10 : Int32) ≤ (S0 4).2 ∧ Int32.toNatClampNeg (0 : Int32) + Int32.toNatClampNeg (10 : Int32) ≤ (S0 (k + 1)).2) = true) ∧ (∀ σ2, σ2 = (sr σ1 (k + 1) (va_cpy (σ1 4) (σ1 (k + 1)) (Int32.toNatClampNeg 0) (Int32.toNatClampNeg 0) (Int32.toNatClampNeg 10))) → (decide ((k + 2) < 172 ∧ (S0 (k + 2)).1 = 1 ∧ 5 < 172 ∧ (S0 5).1 = 1) = true) ∧ (decide (¬ (0 : Int32) < 0 ∧ ¬ (0 : Int32) < 0 ∧ ¬ (10 : Int32) < 0 ∧ Int32.toNatClampNeg (0 : Int32) + Int32.toNatClampNeg (10 : Int32) ≤ (S0 5).2 ∧ Int32.toNatClampNeg (0 : Int32) + Int32.toNatClampNeg (10 : Int32) ≤ (S0 (k + 2)).2) = true) ∧ (∀ σ3, σ3 = (sr σ2 (k + 2) (va_cpy (σ2 5) (σ2 (k + 2)) (Int32.toNatClampNeg 0) (Int32.toNatClampNeg 0) (Int32.toNatClampNeg 10))) → (decide ((k + 3) < 172 ∧ (S0 (k + 3)).1 = 1 ∧ 6 < 172 ∧ (S0 6).1 = 1) = true) ∧ (decide (¬ (0 : Int32) < 0 ∧ ¬ (0 : Int32) < 0 ∧ ¬ (10 : Int32) < 0 ∧ Int32.toNatClampNeg (0 : Int32) + Int32.toNatClampNeg (10 : Int32) ≤ (S0 6).2 ∧ Int32.toNatClampNeg (0 : Int32) + Int32.toNatClampNeg (10 : Int32) ≤ (S0 (k + 3)).2) = true) ∧ (∀ σ4, σ4 = (sr σ3 (k + 3) (va_cpy (σ3 6) (σ3 (k + 3)) (Int32.toNatClampNeg 0) (Int32.toNatClampNeg 0) (Int32.toNatClampNeg 10))) → (decide ((k + 4) < 172 ∧ (S0 (k + 4)).1 = 1 ∧ 7 < 172 ∧ (S0 7).1 = 1) = true) ∧ (decide (¬ (0 : Int32) < 0 ∧ ¬ (0 : Int32) < 0 ∧ ¬ (10 : Int32) < 0 ∧ Int32.toNatClampNeg (0 : Int32) + Int32.toNatClampNeg (10 : Int32) ≤ (S0 7).2 ∧ Int32.toNatClampNeg (0 : Int32) + Int32.toNatClampNeg (10 : Int32) ≤ (S0 (k + 4)).2) = true) ∧ (∀ σ5, σ5 = (sr σ4 (k + 4) (va_cpy (σ4 7) (σ4 (k + 4)) (Int32.toNatClampNeg 0) (Int32.toNatClampNeg 0) (Int32.toNatClampNeg 10))) → (decide ((k + 5) < 172 ∧ (S0 (k + 5)).1 = 1 ∧ 8 < 172 ∧ (S0 8).1 = 1) = true) ∧ (decide (¬ (0 : Int32) < 0 ∧ ¬ (0 : Int32) < 0 ∧ ¬ (10 : Int32) < 0 ∧ Int32.toNatClampNeg (0 : Int32) + Int32.toNatClampNeg (10 : Int32) ≤ (S0 8).2 ∧ Int32.toNatClampNeg (0 : Int32) + Int32.toNatClampNeg (10 : Int32) ≤ (S0 (k + 5)).2) = true) ∧ (∀ σ6, σ6 = (sr σ5 (k + 5) (va_cpy (σ5 8) (σ5 (k + 5)) (Int32.toNatClampNeg 0) (Int32.toNatClampNeg 0) (Int32.toNatClampNeg 10))) → (decide ((k + 6) < 172 ∧ (S0 (k + 6)).1 = 1 ∧ 9 < 172 ∧ (S0 9).1 = 1) = true) ∧ (decide (¬ (0 : Int32) < 0 ∧ ¬ (0 : Int32) < 0 ∧ ¬ (10 : Int32) < 0 ∧ Int32.toNatClampNeg (0 : Int32) + Int32.toNatClampNeg (10 : Int32) ≤ (S0 9).2 ∧ Int32.toNatClampNeg (0 : Int32) + Int32.toNatClampNeg (10 : Int32) ≤ (S0 (k + 6)).2) = true) ∧ (∀ σ7, σ7 = (sr σ6 (k + 6) (va_cpy (σ6 9) (σ6 (k + 6)) (Int32.toNatClampNeg 0) (Int32.toNatClampNeg 0) (Int32.toNatClampNeg 10))) → P σ7))))))) : K_X8_become_0 scr k σ P := by
  show XA scr 1 mX8_become 172 4705 0 [some (.ref k), some (.ref 3)] [] (hs σ) (pV P)
  refine XA.blk (e9 := 8) (ok := kO 172 S0 k 8 && (true)) (ls' := [some (.ref k), some (.ref 3)]) (st' := []) (h' := hs (su σ k 6 (σ 3 6))) [(.aload_n 0, 1, 0, 0, 0, 0, 0, 0), (.aload_n 1, 1, 1, 0, 0, 0, 0, 0), (.getfield 36, 3, 8, 6, 0, 139, 0, 0), (.putfield 36, 3, 8, 6, 0, 139, 0, 0)] (by decide +kernel) rfl (by simp only [trO hk, Bool.and_true, Bool.true_and]) ?_
  obtain ⟨σ1, hσ1⟩ : ∃ s9, s9 = (su σ k 6 (σ 3 6)) := ⟨_, rfl⟩
  rw [← hσ1]
  have H := H σ1 hσ1
  obtain ⟨o1, o2, H⟩ := H
  refine XA.blk (e9 := 23) (ok := (kO 172 S0 k 8 && kR R0 k 0 (k + 1)) && ((decide ((k + 1) < 172 ∧ (S0 (k + 1)).1 = 1 ∧ 4 < 172 ∧ (S0 4).1 = 1) && decide (¬ (0 : Int32) < 0 ∧ ¬ (0 : Int32) < 0 ∧ ¬ (10 : Int32) < 0 ∧ Int32.toNatClampNeg (0 : Int32) + Int32.toNatClampNeg (10 : Int32) ≤ (S0 4).2 ∧ Int32.toNatClampNeg (0 : Int32) + Int32.toNatClampNeg (10 : Int32) ≤ (S0 (k + 1)).2)) && (true))) (ls' := [some (.ref k), some (.ref 3)]) (st' := []) (h' := hs (sr σ1 (k + 1) (va_cpy (σ1 4) (σ1 (k + 1)) (Int32.toNatClampNeg 0) (Int32.toNatClampNeg 0) (Int32.toNatClampNeg 10)))) [(.aload_n 1, 1, 1, 0, 0, 0, 0, 0), (.getfield 9, 3, 8, 0, 2, 113, 0, 0), (.iconst 0, 1, 0, 0, 0, 0, 0, 0), (.aload_n 0, 1, 0, 0, 0, 0, 0, 0), (.getfield 9, 3, 8, 0, 2, 113, 0, 0), (.iconst 0, 1, 0, 0, 0, 0, 0, 0), (.bipush 10, 2, 0, 0, 0, 0, 10, 0), (.invokestatic 40, 3, 2, 0, 0, 667, 0, 0)] (by decide +kernel) rfl (by simp only [trO hk, trR0 hk, o1, o2, Bool.and_true, Bool.true_and]) ?_
  obtain ⟨σ2, hσ2⟩ : ∃ s9, s9 = (sr σ1 (k + 1) (va_cpy (σ1 4) (σ1 (k + 1)) (Int32.toNatClampNeg 0) (Int32.toNatClampNeg 0) (Int32.toNatClampNeg 10))) := ⟨_, rfl⟩
  rw [← hσ2]
  have H := H σ2 hσ2
  obtain ⟨o3, o4, H⟩ := H
  refine XA.blk (e9 := 38) (ok := (kO 172 S0 k 8 && kR R0 k 1 (k + 2)) && ((decide ((k + 2) < 172 ∧ (S0 (k + 2)).1 = 1 ∧ 5 < 172 ∧ (S0 5).1 = 1) && decide (¬ (0 : Int32) < 0 ∧ ¬ (0 : Int32) < 0 ∧ ¬ (10 : Int32) < 0 ∧ Int32.toNatClampNeg (0 : Int32) + Int32.toNatClampNeg (10 : Int32) ≤ (S0 5).2 ∧ Int32.toNatClampNeg (0 : Int32) + Int32.toNatClampNeg (10 : Int32) ≤ (S0 (k + 2)).2)) && (true))) (ls' := [some (.ref k), some (.ref 3)]) (st' := []) (h' := hs (sr σ2 (k + 2) (va_cpy (σ2 5) (σ2 (k + 2)) (Int32.toNatClampNeg 0) (Int32.toNatClampNeg 0) (Int32.toNatClampNeg 10)))) [(.aload_n 1, 1, 1, 0, 0, 0, 0, 0), (.getfield 15, 3, 8, 1, 3, 117, 0, 0), (.iconst 0, 1, 0, 0, 0, 0, 0, 0), (.aload_n 0, 1, 0, 0, 0, 0, 0, 0), (.getfield 15, 3, 8, 1, 3, 117, 0, 0), (.iconst 0, 1, 0, 0, 0, 0, 0, 0), (.bipush 10, 2, 0, 0, 0, 0, 10, 0), (.invokestatic 40, 3, 2, 0, 0, 667, 0, 0)] (by decide +kernel) rfl (by simp only [trO hk, trR1 hk, o3, o4, Bool.and_true, Bool.true_and]) ?_
  obtain ⟨σ3, hσ3⟩ : ∃ s9, s9 = (sr σ2 (k + 2) (va_cpy (σ2 5) (σ2 (k + 2)) (Int32.toNatClampNeg 0) (Int32.toNatClampNeg 0) (Int32.toNatClampNeg 10))) := ⟨_, rfl⟩
  rw [← hσ3]
  have H := H σ3 hσ3
  obtain ⟨o5, o6, H⟩ := H
  refine XA.blk (e9 := 53) (ok := (kO 172 S0 k 8 && kR R0 k 2 (k + 3)) && ((decide ((k + 3) < 172 ∧ (S0 (k + 3)).1 = 1 ∧ 6 < 172 ∧ (S0 6).1 = 1) && decide (¬ (0 : Int32) < 0 ∧ ¬ (0 : Int32) < 0 ∧ ¬ (10 : Int32) < 0 ∧ Int32.toNatClampNeg (0 : Int32) + Int32.toNatClampNeg (10 : Int32) ≤ (S0 6).2 ∧ Int32.toNatClampNeg (0 : Int32) + Int32.toNatClampNeg (10 : Int32) ≤ (S0 (k + 3)).2)) && (true))) (ls' := [some (.ref k), some (.ref 3)]) (st' := []) (h' := hs (sr σ3 (k + 3) (va_cpy (σ3 6) (σ3 (k + 3)) (Int32.toNatClampNeg 0) (Int32.toNatClampNeg 0) (Int32.toNatClampNeg 10)))) [(.aload_n 1, 1, 1, 0, 0, 0, 0, 0), (.getfield 18, 3, 8, 2, 4, 122, 0, 0), (.iconst 0, 1, 0, 0, 0, 0, 0, 0), (.aload_n 0, 1, 0, 0, 0, 0, 0, 0), (.getfield 18, 3, 8, 2, 4, 122, 0, 0), (.iconst 0, 1, 0, 0, 0, 0, 0, 0), (.bipush 10, 2, 0, 0, 0, 0, 10, 0), (.invokestatic 40, 3, 2, 0, 0, 667, 0, 0)] (by decide +kernel) rfl (by simp only [trO hk, trR2 hk, o5, o6, Bool.and_true, Bool.true_and]) ?_
  obtain ⟨σ4, hσ4⟩ : ∃ s9, s9 = (sr σ3 (k + 3) (va_cpy (σ3 6) (σ3 (k + 3)) (Int32.toNatClampNeg 0) (Int32.toNatClampNeg 0) (Int32.toNatClampNeg 10))) := ⟨_, rfl⟩
  rw [← hσ4]
  have H := H σ4 hσ4
  obtain ⟨o7, o8, H⟩ := H
  refine XA.blk (e9 := 68) (ok := (kO 172 S0 k 8 && kR R0 k 3 (k + 4)) && ((decide ((k + 4) < 172 ∧ (S0 (k + 4)).1 = 1 ∧ 7 < 172 ∧ (S0 7).1 = 1) && decide (¬ (0 : Int32) < 0 ∧ ¬ (0 : Int32) < 0 ∧ ¬ (10 : Int32) < 0 ∧ Int32.toNatClampNeg (0 : Int32) + Int32.toNatClampNeg (10 : Int32) ≤ (S0 7).2 ∧ Int32.toNatClampNeg (0 : Int32) + Int32.toNatClampNeg (10 : Int32) ≤ (S0 (k + 4)).2)) && (true))) (ls' := [some (.ref k), some (.ref 3)]) (st' := []) (h' := hs (sr σ4 (k + 4) (va_cpy (σ4 7) (σ4 (k + 4)) (Int32.toNatClampNeg 0) (Int32.toNatClampNeg 0) (Int32.toNatClampNeg 10)))) [(.aload_n 1, 1, 1, 0, 0, 0, 0, 0), (.getfield 21, 3, 8, 3, 5, 128, 0, 0), (.iconst 0, 1, 0, 0, 0, 0, 0, 0), (.aload_n 0, 1, 0, 0, 0, 0, 0, 0), (.getfield 21, 3, 8, 3, 5, 128, 0, 0), (.iconst 0, 1, 0, 0, 0, 0, 0, 0), (.bipush 10, 2, 0, 0, 0, 0, 10, 0), (.invokestatic 40, 3, 2, 0, 0, 667, 0, 0)] (by decide +kernel) rfl (by simp only [trO hk, trR3 hk, o7, o8, Bool.and_true, Bool.true_and]) ?_
  obtain ⟨σ5, hσ5⟩ : ∃ s9, s9 = (sr σ4 (k + 4) (va_cpy (σ4 7) (σ4 (k + 4)) (Int32.toNatClampNeg 0) (Int32.toNatClampNeg 0) (Int32.toNatClampNeg 10))) := ⟨_, rfl⟩
  rw [← hσ5]
  have H := H σ5 hσ5
  obtain ⟨o9, o10, H⟩ := H
  refine XA.blk (e9 := 83) (ok := (kO 172 S0 k 8 && kR R0 k 4 (k + 5)) && ((decide ((k + 5) < 172 ∧ (S0 (k + 5)).1 = 1 ∧ 8 < 172 ∧ (S0 8).1 = 1) && decide (¬ (0 : Int32) < 0 ∧ ¬ (0 : Int32) < 0 ∧ ¬ (10 : Int32) < 0 ∧ Int32.toNatClampNeg (0 : Int32) + Int32.toNatClampNeg (10 : Int32) ≤ (S0 8).2 ∧ Int32.toNatClampNeg (0 : Int32) + Int32.toNatClampNeg (10 : Int32) ≤ (S0 (k + 5)).2)) && (true))) (ls' := [some (.ref k), some (.ref 3)]) (st' := []) (h' := hs (sr σ5 (k + 5) (va_cpy (σ5 8) (σ5 (k + 5)) (Int32.toNatClampNeg 0) (Int32.toNatClampNeg 0) (Int32.toNatClampNeg 10)))) [(.aload_n 1, 1, 1, 0, 0, 0, 0, 0), (.getfield 24, 3, 8, 4, 6, 133, 0, 0), (.iconst 0, 1, 0, 0, 0, 0, 0, 0), (.aload_n 0, 1, 0, 0, 0, 0, 0, 0), (.getfield 24, 3, 8, 4, 6, 133, 0, 0), (.iconst 0, 1, 0, 0, 0, 0, 0, 0), (.bipush 10, 2, 0, 0, 0, 0, 10, 0), (.invokestatic 40, 3, 2, 0, 0, 667, 0, 0)] (by decide +kernel) rfl (by simp only [trO hk, trR4 hk, o9, o10, Bool.and_true, Bool.true_and]) ?_
  obtain ⟨σ6, hσ6⟩ : ∃ s9, s9 = (sr σ5 (k + 5) (va_cpy (σ5 8) (σ5 (k + 5)) (Int32.toNatClampNeg 0) (Int32.toNatClampNeg 0) (Int32.toNatClampNeg 10))) := ⟨_, rfl⟩
  rw [← hσ6]
  have H := H σ6 hσ6
  obtain ⟨o11, o12, H⟩ := H
  refine XA.blk (e9 := 98) (ok := (kO 172 S0 k 8 && kR R0 k 5 (k + 6)) && ((decide ((k + 6) < 172 ∧ (S0 (k + 6)).1 = 1 ∧ 9 < 172 ∧ (S0 9).1 = 1) && decide (¬ (0 : Int32) < 0 ∧ ¬ (0 : Int32) < 0 ∧ ¬ (10 : Int32) < 0 ∧ Int32.toNatClampNeg (0 : Int32) + Int32.toNatClampNeg (10 : Int32) ≤ (S0 9).2 ∧ Int32.toNatClampNeg (0 : Int32) + Int32.toNatClampNeg (10 : Int32) ≤ (S0 (k + 6)).2)) && (true))) (ls' := [some (.ref k), some (.ref 3)]) (st' := []) (h' := hs (sr σ6 (k + 6) (va_cpy (σ6 9) (σ6 (k + 6)) (Int32.toNatClampNeg 0) (Int32.toNatClampNeg 0) (Int32.toNatClampNeg 10)))) [(.aload_n 1, 1, 1, 0, 0, 0, 0, 0), (.getfield 27, 3, 8, 5, 7, 136, 0, 0), (.iconst 0, 1, 0, 0, 0, 0, 0, 0), (.aload_n 0, 1, 0, 0, 0, 0, 0, 0), (.getfield 27, 3, 8, 5, 7, 136, 0, 0), (.iconst 0, 1, 0, 0, 0, 0, 0, 0), (.bipush 10, 2, 0, 0, 0, 0, 10, 0), (.invokestatic 40, 3, 2, 0, 0, 667, 0, 0)] (by decide +kernel) rfl (by simp only [trO hk, trR5 hk, o11, o12, Bool.and_true, Bool.true_and]) ?_
  obtain ⟨σ7, hσ7⟩ : ∃ s9, s9 = (sr σ6 (k + 6) (va_cpy (σ6 9) (σ6 (k + 6)) (Int32.toNatClampNeg 0) (Int32.toNatClampNeg 0) (Int32.toNatClampNeg 10))) := ⟨_, rfl⟩
  rw [← hσ7]
  have H := H σ7 hσ7
  exact XA.ret none rfl (show ckRt mX8_become 98 .return_ = true by decide +kernel) trivial (Nat.le_of_ble_eq_true rfl) (Nat.le_of_ble_eq_true rfl) ⟨_, rfl, rfl, H⟩
theorem E_X8_become {scr : ScA} {k : Nat}  {σ : Nat → Nat → Int32} {P : (Nat → Nat → Int32) → Prop} (h : K_X8_become_0 scr k σ P) : CvA scr 1 mX8_become [.ref k, .ref 3] σ P := CtA.of (by decide) (Nat.le_of_ble_eq_true rfl) (XA.drop (by simp [leL, enL]) h)
def K_X5_applaud_0 (scr : ScA) (k q : Nat)  (σ : Nat → Nat → Int32) (P : (Nat → Nat → Int32) → Prop) : Prop := XA scr 1 mX5_applaud 172 4705 0 [some (.ref k), some (.ref q), none] [] (hs σ) (pV P)
def K_X5_applaud_2 (scr : ScA) (k q : Nat) (x2 : Int32) (σ : Nat → Nat → Int32) (P : (Nat → Nat → Int32) → Prop) : Prop := XA scr 1 mX5_applaud 172 4705 2 [some (.ref k), some (.ref q), some (.int x2)] [] (hs σ) (pV P)
set_option maxRecDepth 20000 in
theorem W_X5_applaud_0 {scr : ScA} {k q : Nat} (hk : isSw k) (hq : isTr q)   {σ : Nat → Nat → Int32} {P : (Nat → Nat → Int32) → Prop} (H : K_X5_applaud_2 scr k q 0 σ P) : K_X5_applaud_0 scr k q σ P := by
  show XA scr 1 mX5_applaud 172 4705 0 [some (.ref k), some (.ref q), none] [] (hs σ) (pV P)
  refine XA.blk (e9 := 2) (ok := true) (ls' := [some (.ref k), some (.ref q), some (.int 0)]) (st' := []) (h' := hs σ) [(.iconst 0, 1, 0, 0, 0, 0, 0, 0), (.istore_n 2, 1, 2, 0, 0, 0, 0, 0)] (by decide +kernel) rfl rfl ?_
  exact H
set_option maxRecDepth 20000 in
theorem W_X5_applaud_2 {scr : ScA} {k q : Nat} (hk : isSw k) (hq : isTr q) {x2 : Int32}  {σ : Nat → Nat → Int32} {P : (Nat → Nat → Int32) → Prop} (H : ((σ k 9) ≤ 0 → P σ) ∧ (¬ (σ k 9) ≤ 0 → ((σ q 6) ≤ x2 → P σ) ∧ (¬ (σ q 6) ≤ x2 → (inB x2 10 = true) ∧ (∀ σ1, σ1 = (su σ (k + 2) (Int32.toNatClampNeg x2) (if 0 < (σ (k + 2) (Int32.toNatClampNeg x2)) - (σ k 9) then (σ (k + 2) (Int32.toNatClampNeg x2)) - (σ k 9) else 0 : Int32)) → K_X5_applaud_2 scr k q (x2 + 1) σ1 P)))) : K_X5_applaud_2 scr k q x2 σ P := by
  show XA scr 1 mX5_applaud 172 4705 2 [some (.ref k), some (.ref q), some (.int x2)] [] (hs σ) (pV P)
  refine XA.blk (e9 := 6) (ok := kO 172 S0 k 5 && (true)) (ls' := [some (.ref k), some (.ref q), some (.int x2)]) (st' := [.int (σ k 9)]) (h' := hs σ) [(.aload_n 0, 1, 0, 0, 0, 0, 0, 0), (.getfield 95, 3, 5, 9, 0, 226, 0, 0)] (by decide +kernel) rfl (by simp only [swO hk, Bool.and_true, Bool.true_and]) ?_
  refine XA.if_le (38) 44 (by decide +kernel) (fun c1 => ?_) (fun c1 => ?_)
  · have H := H.1 c1
    exact XA.ret none rfl (show ckRt mX5_applaud 44 .return_ = true by decide +kernel) trivial (Nat.le_of_ble_eq_true rfl) (Nat.le_of_ble_eq_true rfl) ⟨_, rfl, rfl, H⟩
  · have H := H.2 c1
    refine XA.blk (e9 := 14) (ok := kO 172 S0 q 8 && (true)) (ls' := [some (.ref k), some (.ref q), some (.int x2)]) (st' := [.int (σ q 6), .int x2]) (h' := hs σ) [(.iload_n 2, 1, 2, 0, 0, 0, 0, 0), (.aload_n 1, 1, 1, 0, 0, 0, 0, 0), (.getfield 116, 3, 8, 6, 0, 141, 0, 0)] (by decide +kernel) rfl (by simp only [trO hq, Bool.and_true, Bool.true_and]) ?_
    refine XA.icmp_ge (30) 44 (by decide +kernel) (fun c2 => ?_) (fun c2 => ?_)
    · have H := H.1 c2
      exact XA.ret none rfl (show ckRt mX5_applaud 44 .return_ = true by decide +kernel) trivial (Nat.le_of_ble_eq_true rfl) (Nat.le_of_ble_eq_true rfl) ⟨_, rfl, rfl, H⟩
    · have H := H.2 c2
      obtain ⟨o1, H⟩ := H
      refine XA.blk (e9 := 38) (ok := (kO 172 S0 k 5 && kR R0 k 2 (k + 2)) && ((kO 172 S0 k 5 && kR R0 k 2 (k + 2)) && (kA 172 S0 (k + 2) 1 x2 && (kO 172 S0 k 5 && (kA 172 S0 (k + 2) 1 x2 && (true)))))) (ls' := [some (.ref k), some (.ref q), some (.int x2)]) (st' := []) (h' := hs (su σ (k + 2) (Int32.toNatClampNeg x2) (if 0 < (σ (k + 2) (Int32.toNatClampNeg x2)) - (σ k 9) then (σ (k + 2) (Int32.toNatClampNeg x2)) - (σ k 9) else 0 : Int32))) [(.aload_n 0, 1, 0, 0, 0, 0, 0, 0), (.getfield 15, 3, 5, 2, 3, 218, 0, 0), (.iload_n 2, 1, 2, 0, 0, 0, 0, 0), (.iconst 0, 1, 0, 0, 0, 0, 0, 0), (.aload_n 0, 1, 0, 0, 0, 0, 0, 0), (.getfield 15, 3, 5, 2, 3, 218, 0, 0), (.iload_n 2, 1, 2, 0, 0, 0, 0, 0), (.iaload, 1, 0, 0, 0, 0, 0, 0), (.aload_n 0, 1, 0, 0, 0, 0, 0, 0), (.getfield 95, 3, 5, 9, 0, 226, 0, 0), (.isub, 1, 0, 0, 0, 0, 0, 0), (.invokestatic 122, 3, 0, 0, 0, 583, 0, 0), (.iastore, 1, 0, 0, 0, 0, 0, 0)] (by decide +kernel) rfl (by simp only [swO hk, swR2 hk, swA2 hk x2, o1, Bool.and_true, Bool.true_and]) ?_
      obtain ⟨σ1, hσ1⟩ : ∃ s9, s9 = (su σ (k + 2) (Int32.toNatClampNeg x2) (if 0 < (σ (k + 2) (Int32.toNatClampNeg x2)) - (σ k 9) then (σ (k + 2) (Int32.toNatClampNeg x2)) - (σ k 9) else 0 : Int32)) := ⟨_, rfl⟩
      rw [← hσ1]
      have H := H σ1 hσ1
      refine XA.blk (e9 := 2) (ok := true) (ls' := [some (.ref k), some (.ref q), some (.int (x2 + 1))]) (st' := []) (h' := hs σ1) [(.iinc 2 1, 3, 2, 0, 0, 0, 1, 0), (.goto (-39), 3, 2, 0, 0, 0, 0, 0)] (by decide +kernel) rfl rfl ?_
      exact H
theorem E_X5_applaud {scr : ScA} {k q : Nat}  {σ : Nat → Nat → Int32} {P : (Nat → Nat → Int32) → Prop} (h : K_X5_applaud_0 scr k q σ P) : CvA scr 1 mX5_applaud [.ref k, .ref q] σ P := CtA.of (by decide) (Nat.le_of_ble_eq_true rfl) (XA.drop (by simp [leL, enL]) h)
def K_X11_byteAt_0 (scr : ScA)  (x1 : Int32) (σ : Nat → Nat → Int32) (P : Int32 → (Nat → Nat → Int32) → Prop) : Prop := XA scr 0 mX11_byteAt 172 4705 0 [some (.ref 136), some (.int x1)] [] (hs σ) (pI P)
set_option maxRecDepth 20000 in
theorem W_X11_byteAt_0 {scr : ScA}   {x1 : Int32}  {σ : Nat → Nat → Int32} {P : Int32 → (Nat → Nat → Int32) → Prop} (H : (¬ (σ 136 0) ≤ x1 → (inB x1 59 = true)) ∧ (P (if (σ 136 0) ≤ x1 then (-1) else σ 137 (Int32.toNatClampNeg x1) : Int32) σ)) : K_X11_byteAt_0 scr x1 σ P := by
  show XA scr 0 mX11_byteAt 172 4705 0 [some (.ref 136), some (.int x1)] [] (hs σ) (pI P)
  refine XA.blk (e9 := 5) (ok := true) (ls' := [some (.ref 136), some (.int x1)]) (st' := [.int (σ 136 0), .int x1]) (h' := hs σ) [(.iload_n 1, 1, 1, 0, 0, 0, 0, 0), (.aload_n 0, 1, 0, 0, 0, 0, 0, 0), (.getfield 122, 3, 11, 0, 0, 893, 0, 0)] (by decide +kernel) rfl rfl ?_
  obtain ⟨hF5, H⟩ := H
  have hJ5 : XA scr 0 mX11_byteAt 172 4705 18 [none, none] [.int (if (σ 136 0) ≤ x1 then (-1) else σ 137 (Int32.toNatClampNeg x1) : Int32)] (hs σ) (pI P) := by
    exact XA.ret (some (.int (if (σ 136 0) ≤ x1 then (-1) else σ 137 (Int32.toNatClampNeg x1) : Int32))) rfl (show ckRt mX11_byteAt 18 .ireturn = true by decide +kernel) trivial (Nat.le_of_ble_eq_true rfl) (Nat.le_of_ble_eq_true rfl) ⟨_, _, rfl, rfl, H⟩
  refine XA.icmp_ge (12) 17 (by decide +kernel) (fun c1 => ?_) (fun c1 => ?_)
  · refine XA.blk (e9 := 18) (ok := true) (ls' := [some (.ref 136), some (.int x1)]) (st' := [.int (-1)]) (h' := hs σ) [(.iconst (-1), 1, 0, 0, 0, 0, (-1), 0)] (by decide +kernel) rfl rfl ?_
    refine XA.drop (ls := [none, none]) (by simp [leL]) ?_
    simpa only [if_pos c1] using hJ5
  · have H := hF5 c1
    have o1 := H
    refine XA.blk (e9 := 18) (ok := inB x1 59 && (true)) (ls' := [some (.ref 136), some (.int x1)]) (st' := [.int (σ 137 (Int32.toNatClampNeg x1))]) (h' := hs σ) [(.aload_n 0, 1, 0, 0, 0, 0, 0, 0), (.getfield 7, 3, 11, 1, 2, 894, 0, 0), (.iload_n 1, 1, 1, 0, 0, 0, 0, 0), (.iaload, 1, 0, 0, 0, 0, 0, 0), (.goto 4, 3, 18, 0, 0, 0, 0, 0)] (by decide +kernel) rfl (by simp only [o1, Bool.and_true, Bool.true_and]) ?_
    refine XA.drop (ls := [none, none]) (by simp [leL]) ?_
    simpa only [if_neg c1] using hJ5
theorem E_X11_byteAt {scr : ScA}  {x1 : Int32} {σ : Nat → Nat → Int32} {P : Int32 → (Nat → Nat → Int32) → Prop} (h : K_X11_byteAt_0 scr x1 σ P) : CiA scr 0 mX11_byteAt [.ref 136, .int x1] σ P := CtA.of (by decide) (Nat.le_of_ble_eq_true rfl) (XA.drop (by simp [leL, enL]) h)
def K_X11_isTaken_0 (scr : ScA)  (x1 : Int32) (x2 : Int32) (σ : Nat → Nat → Int32) (P : Int32 → (Nat → Nat → Int32) → Prop) : Prop := XA scr 0 mX11_isTaken 172 4705 0 [some (.ref 136), some (.int x1), some (.int x2), none, none] [] (hs σ) (pI P)
def K_X11_isTaken_5 (scr : ScA)  (x1 : Int32) (x2 : Int32) (x3 : Int32) (x4 : Int32) (σ : Nat → Nat → Int32) (P : Int32 → (Nat → Nat → Int32) → Prop) : Prop := XA scr 0 mX11_isTaken 172 4705 5 [some (.ref 136), some (.int x1), some (.int x2), some (.int x3), some (.int x4)] [] (hs σ) (pI P)
set_option maxRecDepth 20000 in
theorem W_X11_isTaken_0 {scr : ScA}   {x1 : Int32} {x2 : Int32}  {σ : Nat → Nat → Int32} {P : Int32 → (Nat → Nat → Int32) → Prop} (H : K_X11_isTaken_5 scr x1 x2 0 0 σ P) : K_X11_isTaken_0 scr x1 x2 σ P := by
  show XA scr 0 mX11_isTaken 172 4705 0 [some (.ref 136), some (.int x1), some (.int x2), none, none] [] (hs σ) (pI P)
  refine XA.blk (e9 := 5) (ok := true) (ls' := [some (.ref 136), some (.int x1), some (.int x2), some (.int 0), some (.int 0)]) (st' := []) (h' := hs σ) [(.iconst 0, 1, 0, 0, 0, 0, 0, 0), (.istore_n 3, 1, 3, 0, 0, 0, 0, 0), (.iconst 0, 1, 0, 0, 0, 0, 0, 0), (.istore 4, 2, 4, 0, 0, 0, 0, 0)] (by decide +kernel) rfl rfl ?_
  exact H
set_option maxRecDepth 20000 in
theorem W_X11_isTaken_5 {scr : ScA}   {x1 : Int32} {x2 : Int32} {x3 : Int32} {x4 : Int32}  {σ : Nat → Nat → Int32} {P : Int32 → (Nat → Nat → Int32) → Prop} (H : (x1 ≤ x4 → ((x3 : Int32) = 0 ∨ (x3 : Int32) = 1) ∧ P x3 σ) ∧ (¬ x1 ≤ x4 → (x3 = 0 → (inB x4 11 = true)) ∧ (K_X11_isTaken_5 scr x1 x2 (if ¬ x3 = 0 then 1 else (if ¬ (σ 142 (Int32.toNatClampNeg x4)) = x2 then 0 else 1 : Int32) : Int32) (x4 + 1) σ P))) : K_X11_isTaken_5 scr x1 x2 x3 x4 σ P := by
  show XA scr 0 mX11_isTaken 172 4705 5 [some (.ref 136), some (.int x1), some (.int x2), some (.int x3), some (.int x4)] [] (hs σ) (pI P)
  refine XA.blk (e9 := 8) (ok := true) (ls' := [some (.ref 136), some (.int x1), some (.int x2), some (.int x3), some (.int x4)]) (st' := [.int x1, .int x4]) (h' := hs σ) [(.iload 4, 2, 4, 0, 0, 0, 0, 0), (.iload_n 1, 1, 1, 0, 0, 0, 0, 0)] (by decide +kernel) rfl rfl ?_
  refine XA.icmp_ge (30) 38 (by decide +kernel) (fun c1 => ?_) (fun c1 => ?_)
  · have H := H.1 c1
    refine XA.blk (e9 := 39) (ok := true) (ls' := [some (.ref 136), some (.int x1), some (.int x2), some (.int x3), some (.int x4)]) (st' := [.int x3]) (h' := hs σ) [(.iload_n 3, 1, 3, 0, 0, 0, 0, 0)] (by decide +kernel) rfl rfl ?_
    exact XA.ret (some (.int x3)) rfl (show ckRt mX11_isTaken 39 .ireturn = true by decide +kernel) H.1 (Nat.le_of_ble_eq_true rfl) (Nat.le_of_ble_eq_true rfl) ⟨_, _, rfl, rfl, H.2⟩
  · have H := H.2 c1
    refine XA.blk (e9 := 12) (ok := true) (ls' := [some (.ref 136), some (.int x1), some (.int x2), some (.int x3), some (.int x4)]) (st' := [.int x3]) (h' := hs σ) [(.iload_n 3, 1, 3, 0, 0, 0, 0, 0)] (by decide +kernel) rfl rfl ?_
    obtain ⟨hF12, H⟩ := H
    have hJ12 : XA scr 0 mX11_isTaken 172 4705 31 [some (.ref 136), some (.int x1), some (.int x2), none, some (.int x4)] [.int (if ¬ x3 = 0 then 1 else (if ¬ (σ 142 (Int32.toNatClampNeg x4)) = x2 then 0 else 1 : Int32) : Int32)] (hs σ) (pI P) := by
      refine XA.blk (e9 := 5) (ok := true) (ls' := [some (.ref 136), some (.int x1), some (.int x2), some (.int (if ¬ x3 = 0 then 1 else (if ¬ (σ 142 (Int32.toNatClampNeg x4)) = x2 then 0 else 1 : Int32) : Int32)), some (.int (x4 + 1))]) (st' := []) (h' := hs σ) [(.istore_n 3, 1, 3, 0, 0, 0, 0, 0), (.iinc 4 1, 3, 4, 0, 0, 0, 1, 0), (.goto (-30), 3, 5, 0, 0, 0, 0, 0)] (by decide +kernel) rfl rfl ?_
      exact H
    refine XA.if_ne (14) 26 (by decide +kernel) (fun c2 => ?_) (fun c2 => ?_)
    · refine XA.blk (e9 := 31) (ok := true) (ls' := [some (.ref 136), some (.int x1), some (.int x2), some (.int x3), some (.int x4)]) (st' := [.int 1]) (h' := hs σ) [(.iconst 1, 1, 0, 0, 0, 0, 1, 0), (.goto 4, 3, 31, 0, 0, 0, 0, 0)] (by decide +kernel) rfl rfl ?_
      refine XA.drop (ls := [some (.ref 136), some (.int x1), some (.int x2), none, some (.int x4)]) (by simp [leL]) ?_
      simpa only [if_pos c2] using hJ12
    · have H := hF12 c2
      have o1 := H
      refine XA.blk (e9 := 23) (ok := inB x4 11 && (true)) (ls' := [some (.ref 136), some (.int x1), some (.int x2), some (.int x3), some (.int x4)]) (st' := [.int x2, .int (σ 142 (Int32.toNatClampNeg x4))]) (h' := hs σ) [(.aload_n 0, 1, 0, 0, 0, 0, 0, 0), (.getfield 25, 3, 11, 7, 7, 900, 0, 0), (.iload 4, 2, 4, 0, 0, 0, 0, 0), (.iaload, 1, 0, 0, 0, 0, 0, 0), (.iload_n 2, 1, 2, 0, 0, 0, 0, 0)] (by decide +kernel) rfl (by simp only [o1, Bool.and_true, Bool.true_and]) ?_
      have hJ23 : XA scr 0 mX11_isTaken 172 4705 31 [some (.ref 136), some (.int x1), some (.int x2), none, some (.int x4)] [.int (if ¬ (σ 142 (Int32.toNatClampNeg x4)) = x2 then 0 else 1 : Int32)] (hs σ) (pI P) := by
        simpa only [if_neg (not_not_intro c2)] using hJ12
      refine XA.icmp_ne (7) 30 (by decide +kernel) (fun c3 => ?_) (fun c3 => ?_)
      · refine XA.blk (e9 := 31) (ok := true) (ls' := [some (.ref 136), some (.int x1), some (.int x2), some (.int x3), some (.int x4)]) (st' := [.int 0]) (h' := hs σ) [(.iconst 0, 1, 0, 0, 0, 0, 0, 0)] (by decide +kernel) rfl rfl ?_
        refine XA.drop (ls := [some (.ref 136), some (.int x1), some (.int x2), none, some (.int x4)]) (by simp [leL]) ?_
        simpa only [if_pos c3] using hJ23
      · refine XA.blk (e9 := 31) (ok := true) (ls' := [some (.ref 136), some (.int x1), some (.int x2), some (.int x3), some (.int x4)]) (st' := [.int 1]) (h' := hs σ) [(.iconst 1, 1, 0, 0, 0, 0, 1, 0), (.goto 4, 3, 31, 0, 0, 0, 0, 0)] (by decide +kernel) rfl rfl ?_
        refine XA.drop (ls := [some (.ref 136), some (.int x1), some (.int x2), none, some (.int x4)]) (by simp [leL]) ?_
        simpa only [if_neg (not_not_intro c3)] using hJ23
theorem E_X11_isTaken {scr : ScA}  {x1 : Int32} {x2 : Int32} {σ : Nat → Nat → Int32} {P : Int32 → (Nat → Nat → Int32) → Prop} (h : K_X11_isTaken_0 scr x1 x2 σ P) : CiA scr 0 mX11_isTaken [.ref 136, .int x1, .int x2] σ P := CtA.of (by decide) (Nat.le_of_ble_eq_true rfl) (XA.drop (by simp [leL, enL]) h)
def K_X11_acrobatOf_0 (scr : ScA)  (x1 : Int32) (x2 : Int32) (σ : Nat → Nat → Int32) (P : Int32 → (Nat → Nat → Int32) → Prop) : Prop := XA scr 0 mX11_acrobatOf 172 4705 0 [some (.ref 136), some (.int x1), some (.int x2)] [] (hs σ) (pI P)
set_option maxRecDepth 20000 in
theorem W_X11_acrobatOf_0 {scr : ScA}   {x1 : Int32} {x2 : Int32}  {σ : Nat → Nat → Int32} {P : Int32 → (Nat → Nat → Int32) → Prop} (H : (¬ x2 = 0 → (¬ x2 = 1 → (¬ x2 = 2 → (¬ x2 = 3 → (inB x1 11 = true)) ∧ (x2 = 3 → (inB x1 11 = true))) ∧ (x2 = 2 → (inB x1 11 = true))) ∧ (x2 = 1 → (inB x1 11 = true))) ∧ (x2 = 0 → (inB x1 11 = true)) ∧ (P (if ¬ x2 = 0 then (if ¬ x2 = 1 then (if ¬ x2 = 2 then (if ¬ x2 = 3 then σ 142 (Int32.toNatClampNeg x1) else σ 141 (Int32.toNatClampNeg x1) : Int32) else σ 140 (Int32.toNatClampNeg x1) : Int32) else σ 139 (Int32.toNatClampNeg x1) : Int32) else σ 138 (Int32.toNatClampNeg x1) : Int32) σ)) : K_X11_acrobatOf_0 scr x1 x2 σ P := by
  show XA scr 0 mX11_acrobatOf 172 4705 0 [some (.ref 136), some (.int x1), some (.int x2)] [] (hs σ) (pI P)
  refine XA.blk (e9 := 1) (ok := true) (ls' := [some (.ref 136), some (.int x1), some (.int x2)]) (st' := [.int x2]) (h' := hs σ) [(.iload_n 2, 1, 2, 0, 0, 0, 0, 0)] (by decide +kernel) rfl rfl ?_
  obtain ⟨hT1, hF1, H⟩ := H
  have hJ1 : XA scr 0 mX11_acrobatOf 172 4705 61 [none, none, none] [.int (if ¬ x2 = 0 then (if ¬ x2 = 1 then (if ¬ x2 = 2 then (if ¬ x2 = 3 then σ 142 (Int32.toNatClampNeg x1) else σ 141 (Int32.toNatClampNeg x1) : Int32) else σ 140 (Int32.toNatClampNeg x1) : Int32) else σ 139 (Int32.toNatClampNeg x1) : Int32) else σ 138 (Int32.toNatClampNeg x1) : Int32)] (hs σ) (pI P) := by
    exact XA.ret (some (.int (if ¬ x2 = 0 then (if ¬ x2 = 1 then (if ¬ x2 = 2 then (if ¬ x2 = 3 then σ 142 (Int32.toNatClampNeg x1) else σ 141 (Int32.toNatClampNeg x1) : Int32) else σ 140 (Int32.toNatClampNeg x1) : Int32) else σ 139 (Int32.toNatClampNeg x1) : Int32) else σ 138 (Int32.toNatClampNeg x1) : Int32))) rfl (show ckRt mX11_acrobatOf 61 .ireturn = true by decide +kernel) trivial (Nat.le_of_ble_eq_true rfl) (Nat.le_of_ble_eq_true rfl) ⟨_, _, rfl, rfl, H⟩
  refine XA.if_ne (12) 13 (by decide +kernel) (fun c1 => ?_) (fun c1 => ?_)
  · have H := hT1 c1
    refine XA.blk (e9 := 15) (ok := true) (ls' := [some (.ref 136), some (.int x1), some (.int x2)]) (st' := [.int 1, .int x2]) (h' := hs σ) [(.iload_n 2, 1, 2, 0, 0, 0, 0, 0), (.iconst 1, 1, 0, 0, 0, 0, 1, 0)] (by decide +kernel) rfl rfl ?_
    obtain ⟨hT15, hF15⟩ := H
    have hJ15 : XA scr 0 mX11_acrobatOf 172 4705 61 [none, none, none] [.int (if ¬ x2 = 1 then (if ¬ x2 = 2 then (if ¬ x2 = 3 then σ 142 (Int32.toNatClampNeg x1) else σ 141 (Int32.toNatClampNeg x1) : Int32) else σ 140 (Int32.toNatClampNeg x1) : Int32) else σ 139 (Int32.toNatClampNeg x1) : Int32)] (hs σ) (pI P) := by
      simpa only [if_pos c1] using hJ1
    refine XA.icmp_ne (12) 27 (by decide +kernel) (fun c2 => ?_) (fun c2 => ?_)
    · have H := hT15 c2
      refine XA.blk (e9 := 29) (ok := true) (ls' := [some (.ref 136), some (.int x1), some (.int x2)]) (st' := [.int 2, .int x2]) (h' := hs σ) [(.iload_n 2, 1, 2, 0, 0, 0, 0, 0), (.iconst 2, 1, 0, 0, 0, 0, 2, 0)] (by decide +kernel) rfl rfl ?_
      obtain ⟨hT29, hF29⟩ := H
      have hJ29 : XA scr 0 mX11_acrobatOf 172 4705 61 [none, none, none] [.int (if ¬ x2 = 2 then (if ¬ x2 = 3 then σ 142 (Int32.toNatClampNeg x1) else σ 141 (Int32.toNatClampNeg x1) : Int32) else σ 140 (Int32.toNatClampNeg x1) : Int32)] (hs σ) (pI P) := by
        simpa only [if_pos c2] using hJ15
      refine XA.icmp_ne (12) 41 (by decide +kernel) (fun c3 => ?_) (fun c3 => ?_)
      · have H := hT29 c3
        refine XA.blk (e9 := 43) (ok := true) (ls' := [some (.ref 136), some (.int x1), some (.int x2)]) (st' := [.int 3, .int x2]) (h' := hs σ) [(.iload_n 2, 1, 2, 0, 0, 0, 0, 0), (.iconst 3, 1, 0, 0, 0, 0, 3, 0)] (by decide +kernel) rfl rfl ?_
        obtain ⟨hT43, hF43⟩ := H
        have hJ43 : XA scr 0 mX11_acrobatOf 172 4705 61 [none, none, none] [.int (if ¬ x2 = 3 then σ 142 (Int32.toNatClampNeg x1) else σ 141 (Int32.toNatClampNeg x1) : Int32)] (hs σ) (pI P) := by
          simpa only [if_pos c3] using hJ29
        refine XA.icmp_ne (12) 55 (by decide +kernel) (fun c4 => ?_) (fun c4 => ?_)
        · have H := hT43 c4
          have o1 := H
          refine XA.blk (e9 := 61) (ok := inB x1 11 && (true)) (ls' := [some (.ref 136), some (.int x1), some (.int x2)]) (st' := [.int (σ 142 (Int32.toNatClampNeg x1))]) (h' := hs σ) [(.aload_n 0, 1, 0, 0, 0, 0, 0, 0), (.getfield 25, 3, 11, 7, 7, 900, 0, 0), (.iload_n 1, 1, 1, 0, 0, 0, 0, 0), (.iaload, 1, 0, 0, 0, 0, 0, 0)] (by decide +kernel) rfl (by simp only [o1, Bool.and_true, Bool.true_and]) ?_
          refine XA.drop (ls := [none, none, none]) (by simp [leL]) ?_
          simpa only [if_pos c4] using hJ43
        · have H := hF43 c4
          have o1 := H
          refine XA.blk (e9 := 61) (ok := inB x1 11 && (true)) (ls' := [some (.ref 136), some (.int x1), some (.int x2)]) (st' := [.int (σ 141 (Int32.toNatClampNeg x1))]) (h' := hs σ) [(.aload_n 0, 1, 0, 0, 0, 0, 0, 0), (.getfield 22, 3, 11, 6, 6, 899, 0, 0), (.iload_n 1, 1, 1, 0, 0, 0, 0, 0), (.iaload, 1, 0, 0, 0, 0, 0, 0), (.goto 9, 3, 61, 0, 0, 0, 0, 0)] (by decide +kernel) rfl (by simp only [o1, Bool.and_true, Bool.true_and]) ?_
          refine XA.drop (ls := [none, none, none]) (by simp [leL]) ?_
          simpa only [if_neg (not_not_intro c4)] using hJ43
      · have H := hF29 c3
        have o1 := H
        refine XA.blk (e9 := 61) (ok := inB x1 11 && (true)) (ls' := [some (.ref 136), some (.int x1), some (.int x2)]) (st' := [.int (σ 140 (Int32.toNatClampNeg x1))]) (h' := hs σ) [(.aload_n 0, 1, 0, 0, 0, 0, 0, 0), (.getfield 19, 3, 11, 5, 5, 898, 0, 0), (.iload_n 1, 1, 1, 0, 0, 0, 0, 0), (.iaload, 1, 0, 0, 0, 0, 0, 0), (.goto 23, 3, 61, 0, 0, 0, 0, 0)] (by decide +kernel) rfl (by simp only [o1, Bool.and_true, Bool.true_and]) ?_
        refine XA.drop (ls := [none, none, none]) (by simp [leL]) ?_
        simpa only [if_neg (not_not_intro c3)] using hJ29
    · have H := hF15 c2
      have o1 := H
      refine XA.blk (e9 := 61) (ok := inB x1 11 && (true)) (ls' := [some (.ref 136), some (.int x1), some (.int x2)]) (st' := [.int (σ 139 (Int32.toNatClampNeg x1))]) (h' := hs σ) [(.aload_n 0, 1, 0, 0, 0, 0, 0, 0), (.getfield 16, 3, 11, 4, 4, 897, 0, 0), (.iload_n 1, 1, 1, 0, 0, 0, 0, 0), (.iaload, 1, 0, 0, 0, 0, 0, 0), (.goto 37, 3, 61, 0, 0, 0, 0, 0)] (by decide +kernel) rfl (by simp only [o1, Bool.and_true, Bool.true_and]) ?_
      refine XA.drop (ls := [none, none, none]) (by simp [leL]) ?_
      simpa only [if_neg (not_not_intro c2)] using hJ15
  · have H := hF1 c1
    have o1 := H
    refine XA.blk (e9 := 61) (ok := inB x1 11 && (true)) (ls' := [some (.ref 136), some (.int x1), some (.int x2)]) (st' := [.int (σ 138 (Int32.toNatClampNeg x1))]) (h' := hs σ) [(.aload_n 0, 1, 0, 0, 0, 0, 0, 0), (.getfield 13, 3, 11, 3, 3, 896, 0, 0), (.iload_n 1, 1, 1, 0, 0, 0, 0, 0), (.iaload, 1, 0, 0, 0, 0, 0, 0), (.goto 51, 3, 61, 0, 0, 0, 0, 0)] (by decide +kernel) rfl (by simp only [o1, Bool.and_true, Bool.true_and]) ?_
    refine XA.drop (ls := [none, none, none]) (by simp [leL]) ?_
    simpa only [if_neg (not_not_intro c1)] using hJ1
theorem E_X11_acrobatOf {scr : ScA}  {x1 : Int32} {x2 : Int32} {σ : Nat → Nat → Int32} {P : Int32 → (Nat → Nat → Int32) → Prop} (h : K_X11_acrobatOf_0 scr x1 x2 σ P) : CiA scr 0 mX11_acrobatOf [.ref 136, .int x1, .int x2] σ P := CtA.of (by decide) (Nat.le_of_ble_eq_true rfl) (XA.drop (by simp [leL, enL]) h)
def K_X11_lies_0 (scr : ScA)  (x1 : Int32) (x2 : Int32) (σ : Nat → Nat → Int32) (P : Int32 → (Nat → Nat → Int32) → Prop) : Prop := XA scr 0 mX11_lies 172 4705 0 [some (.ref 136), some (.int x1), some (.int x2)] [] (hs σ) (pI P)
set_option maxRecDepth 20000 in
theorem W_X11_lies_0 {scr : ScA}   {x1 : Int32} {x2 : Int32}  {σ : Nat → Nat → Int32} {P : Int32 → (Nat → Nat → Int32) → Prop} (H : (inB x1 10 = true) ∧ ((((if (σ 153 (Int32.toNatClampNeg x1)) = (-1) then 0 else (if 3 ≤ (x2 - (σ 153 (Int32.toNatClampNeg x1))) then 0 else 1 : Int32) : Int32) : Int32) = 0 ∨ ((if (σ 153 (Int32.toNatClampNeg x1)) = (-1) then 0 else (if 3 ≤ (x2 - (σ 153 (Int32.toNatClampNeg x1))) then 0 else 1 : Int32) : Int32) : Int32) = 1) ∧ P (if (σ 153 (Int32.toNatClampNeg x1)) = (-1) then 0 else (if 3 ≤ (x2 - (σ 153 (Int32.toNatClampNeg x1))) then 0 else 1 : Int32) : Int32) σ)) : K_X11_lies_0 scr x1 x2 σ P := by
  show XA scr 0 mX11_lies 172 4705 0 [some (.ref 136), some (.int x1), some (.int x2)] [] (hs σ) (pI P)
  obtain ⟨o1, H⟩ := H
  refine XA.blk (e9 := 7) (ok := inB x1 10 && (true)) (ls' := [some (.ref 136), some (.int x1), some (.int x2)]) (st' := [.int (-1), .int (σ 153 (Int32.toNatClampNeg x1))]) (h' := hs σ) [(.aload_n 0, 1, 0, 0, 0, 0, 0, 0), (.getfield 58, 3, 11, 31, 18, 924, 0, 0), (.iload_n 1, 1, 1, 0, 0, 0, 0, 0), (.iaload, 1, 0, 0, 0, 0, 0, 0), (.iconst (-1), 1, 0, 0, 0, 0, (-1), 0)] (by decide +kernel) rfl (by simp only [o1, Bool.and_true, Bool.true_and]) ?_
  have hJ7 : XA scr 0 mX11_lies 172 4705 27 [none, none, none] [.int (if (σ 153 (Int32.toNatClampNeg x1)) = (-1) then 0 else (if 3 ≤ (x2 - (σ 153 (Int32.toNatClampNeg x1))) then 0 else 1 : Int32) : Int32)] (hs σ) (pI P) := by
    exact XA.ret (some (.int (if (σ 153 (Int32.toNatClampNeg x1)) = (-1) then 0 else (if 3 ≤ (x2 - (σ 153 (Int32.toNatClampNeg x1))) then 0 else 1 : Int32) : Int32))) rfl (show ckRt mX11_lies 27 .ireturn = true by decide +kernel) H.1 (Nat.le_of_ble_eq_true rfl) (Nat.le_of_ble_eq_true rfl) ⟨_, _, rfl, rfl, H.2⟩
  refine XA.icmp_eq (19) 26 (by decide +kernel) (fun c1 => ?_) (fun c1 => ?_)
  · refine XA.blk (e9 := 27) (ok := true) (ls' := [some (.ref 136), some (.int x1), some (.int x2)]) (st' := [.int 0]) (h' := hs σ) [(.iconst 0, 1, 0, 0, 0, 0, 0, 0)] (by decide +kernel) rfl rfl ?_
    refine XA.drop (ls := [none, none, none]) (by simp [leL]) ?_
    simpa only [if_pos c1] using hJ7
  · refine XA.blk (e9 := 19) (ok := inB x1 10 && (true)) (ls' := [some (.ref 136), some (.int x1), some (.int x2)]) (st' := [.int 3, .int (x2 - (σ 153 (Int32.toNatClampNeg x1)))]) (h' := hs σ) [(.iload_n 2, 1, 2, 0, 0, 0, 0, 0), (.aload_n 0, 1, 0, 0, 0, 0, 0, 0), (.getfield 58, 3, 11, 31, 18, 924, 0, 0), (.iload_n 1, 1, 1, 0, 0, 0, 0, 0), (.iaload, 1, 0, 0, 0, 0, 0, 0), (.isub, 1, 0, 0, 0, 0, 0, 0), (.iconst 3, 1, 0, 0, 0, 0, 3, 0)] (by decide +kernel) rfl (by simp only [o1, Bool.and_true, Bool.true_and]) ?_
    have hJ19 : XA scr 0 mX11_lies 172 4705 27 [none, none, none] [.int (if 3 ≤ (x2 - (σ 153 (Int32.toNatClampNeg x1))) then 0 else 1 : Int32)] (hs σ) (pI P) := by
      simpa only [if_neg c1] using hJ7
    refine XA.icmp_ge (7) 26 (by decide +kernel) (fun c2 => ?_) (fun c2 => ?_)
    · refine XA.blk (e9 := 27) (ok := true) (ls' := [some (.ref 136), some (.int x1), some (.int x2)]) (st' := [.int 0]) (h' := hs σ) [(.iconst 0, 1, 0, 0, 0, 0, 0, 0)] (by decide +kernel) rfl rfl ?_
      refine XA.drop (ls := [none, none, none]) (by simp [leL]) ?_
      simpa only [if_pos c2] using hJ19
    · refine XA.blk (e9 := 27) (ok := true) (ls' := [some (.ref 136), some (.int x1), some (.int x2)]) (st' := [.int 1]) (h' := hs σ) [(.iconst 1, 1, 0, 0, 0, 0, 1, 0), (.goto 4, 3, 27, 0, 0, 0, 0, 0)] (by decide +kernel) rfl rfl ?_
      refine XA.drop (ls := [none, none, none]) (by simp [leL]) ?_
      simpa only [if_neg c2] using hJ19
theorem E_X11_lies {scr : ScA}  {x1 : Int32} {x2 : Int32} {σ : Nat → Nat → Int32} {P : Int32 → (Nat → Nat → Int32) → Prop} (h : K_X11_lies_0 scr x1 x2 σ P) : CiA scr 0 mX11_lies [.ref 136, .int x1, .int x2] σ P := CtA.of (by decide) (Nat.le_of_ble_eq_true rfl) (XA.drop (by simp [leL, enL]) h)
def K_X11_wipe_0 (scr : ScA)   (σ : Nat → Nat → Int32) (P : Int32 → (Nat → Nat → Int32) → Prop) : Prop := XA scr 0 mX11_wipe 172 4705 0 [some (.ref 136), none] [] (hs σ) (pI P)
set_option maxRecDepth 20000 in
theorem W_X11_wipe_0 {scr : ScA}     {σ : Nat → Nat → Int32} {P : Int32 → (Nat → Nat → Int32) → Prop} (H : ∀ σ1, σ1 = (su σ 136 0 0) → P (σ 136 0) σ1) : K_X11_wipe_0 scr σ P := by
  show XA scr 0 mX11_wipe 172 4705 0 [some (.ref 136), none] [] (hs σ) (pI P)
  refine XA.blk (e9 := 10) (ok := true) (ls' := [some (.ref 136), some (.int (σ 136 0))]) (st' := []) (h' := hs (su σ 136 0 0)) [(.aload_n 0, 1, 0, 0, 0, 0, 0, 0), (.getfield 122, 3, 11, 0, 0, 893, 0, 0), (.istore_n 1, 1, 1, 0, 0, 0, 0, 0), (.aload_n 0, 1, 0, 0, 0, 0, 0, 0), (.iconst 0, 1, 0, 0, 0, 0, 0, 0), (.putfield 122, 3, 11, 0, 0, 893, 0, 0)] (by decide +kernel) rfl rfl ?_
  obtain ⟨σ1, hσ1⟩ : ∃ s9, s9 = (su σ 136 0 0) := ⟨_, rfl⟩
  rw [← hσ1]
  have H := H σ1 hσ1
  refine XA.blk (e9 := 11) (ok := true) (ls' := [some (.ref 136), some (.int (σ 136 0))]) (st' := [.int (σ 136 0)]) (h' := hs σ1) [(.iload_n 1, 1, 1, 0, 0, 0, 0, 0)] (by decide +kernel) rfl rfl ?_
  exact XA.ret (some (.int (σ 136 0))) rfl (show ckRt mX11_wipe 11 .ireturn = true by decide +kernel) trivial (Nat.le_of_ble_eq_true rfl) (Nat.le_of_ble_eq_true rfl) ⟨_, _, rfl, rfl, H⟩
theorem E_X11_wipe {scr : ScA}   {σ : Nat → Nat → Int32} {P : Int32 → (Nat → Nat → Int32) → Prop} (h : K_X11_wipe_0 scr σ P) : CiA scr 0 mX11_wipe [.ref 136] σ P := CtA.of (by decide) (Nat.le_of_ble_eq_true rfl) (XA.drop (by simp [leL, enL]) h)
def K_X11_undo_0 (scr : ScA)   (σ : Nat → Nat → Int32) (P : Int32 → (Nat → Nat → Int32) → Prop) : Prop := XA scr 0 mX11_undo 172 4705 0 [some (.ref 136)] [] (hs σ) (pI P)
set_option maxRecDepth 20000 in
theorem W_X11_undo_0 {scr : ScA}     {σ : Nat → Nat → Int32} {P : Int32 → (Nat → Nat → Int32) → Prop} (H : (¬ (σ 136 0) = 0 → ∀ σ1, σ1 = (su σ 136 0 ((σ 136 0) - 1)) → P (σ1 136 0) σ1) ∧ ((σ 136 0) = 0 → P (-3) σ)) : K_X11_undo_0 scr σ P := by
  show XA scr 0 mX11_undo 172 4705 0 [some (.ref 136)] [] (hs σ) (pI P)
  refine XA.blk (e9 := 4) (ok := true) (ls' := [some (.ref 136)]) (st' := [.int (σ 136 0)]) (h' := hs σ) [(.aload_n 0, 1, 0, 0, 0, 0, 0, 0), (.getfield 122, 3, 11, 0, 0, 893, 0, 0)] (by decide +kernel) rfl rfl ?_
  refine XA.if_ne (6) 10 (by decide +kernel) (fun c1 => ?_) (fun c1 => ?_)
  · have H := H.1 c1
    refine XA.blk (e9 := 20) (ok := true) (ls' := [some (.ref 136)]) (st' := []) (h' := hs (su σ 136 0 ((σ 136 0) - 1))) [(.aload_n 0, 1, 0, 0, 0, 0, 0, 0), (.dup, 1, 0, 0, 0, 0, 0, 0), (.getfield 122, 3, 11, 0, 0, 893, 0, 0), (.iconst 1, 1, 0, 0, 0, 0, 1, 0), (.isub, 1, 0, 0, 0, 0, 0, 0), (.putfield 122, 3, 11, 0, 0, 893, 0, 0)] (by decide +kernel) rfl rfl ?_
    obtain ⟨σ1, hσ1⟩ : ∃ s9, s9 = (su σ 136 0 ((σ 136 0) - 1)) := ⟨_, rfl⟩
    rw [← hσ1]
    have H := H σ1 hσ1
    refine XA.blk (e9 := 24) (ok := true) (ls' := [some (.ref 136)]) (st' := [.int (σ1 136 0)]) (h' := hs σ1) [(.aload_n 0, 1, 0, 0, 0, 0, 0, 0), (.getfield 122, 3, 11, 0, 0, 893, 0, 0)] (by decide +kernel) rfl rfl ?_
    exact XA.ret (some (.int (σ1 136 0))) rfl (show ckRt mX11_undo 24 .ireturn = true by decide +kernel) trivial (Nat.le_of_ble_eq_true rfl) (Nat.le_of_ble_eq_true rfl) ⟨_, _, rfl, rfl, H⟩
  · have H := H.2 c1
    refine XA.blk (e9 := 9) (ok := true) (ls' := [some (.ref 136)]) (st' := [.int (-3)]) (h' := hs σ) [(.bipush (-3), 2, 0, 0, 0, 0, (-3), 0)] (by decide +kernel) rfl rfl ?_
    exact XA.ret (some (.int (-3))) rfl (show ckRt mX11_undo 9 .ireturn = true by decide +kernel) trivial (Nat.le_of_ble_eq_true rfl) (Nat.le_of_ble_eq_true rfl) ⟨_, _, rfl, rfl, H⟩
theorem E_X11_undo {scr : ScA}   {σ : Nat → Nat → Int32} {P : Int32 → (Nat → Nat → Int32) → Prop} (h : K_X11_undo_0 scr σ P) : CiA scr 0 mX11_undo [.ref 136] σ P := CtA.of (by decide) (Nat.le_of_ble_eq_true rfl) (XA.drop (by simp [leL, enL]) h)
def K_X11_back_0 (scr : ScA)   (σ : Nat → Nat → Int32) (P : Int32 → (Nat → Nat → Int32) → Prop) : Prop := XA scr 0 mX11_back 172 4705 0 [some (.ref 136)] [] (hs σ) (pI P)
set_option maxRecDepth 20000 in
theorem W_X11_back_0 {scr : ScA}     {σ : Nat → Nat → Int32} {P : Int32 → (Nat → Nat → Int32) → Prop} (H : (¬ (σ 136 8) = 0 → ∀ σ1, σ1 = (su σ 136 8 ((σ 136 8) - 1)) → P (σ1 136 8) σ1) ∧ ((σ 136 8) = 0 → P (-3) σ)) : K_X11_back_0 scr σ P := by
  show XA scr 0 mX11_back 172 4705 0 [some (.ref 136)] [] (hs σ) (pI P)
  refine XA.blk (e9 := 4) (ok := true) (ls' := [some (.ref 136)]) (st' := [.int (σ 136 8)]) (h' := hs σ) [(.aload_n 0, 1, 0, 0, 0, 0, 0, 0), (.getfield 164, 3, 11, 8, 0, 901, 0, 0)] (by decide +kernel) rfl rfl ?_
  refine XA.if_ne (6) 10 (by decide +kernel) (fun c1 => ?_) (fun c1 => ?_)
  · have H := H.1 c1
    refine XA.blk (e9 := 20) (ok := true) (ls' := [some (.ref 136)]) (st' := []) (h' := hs (su σ 136 8 ((σ 136 8) - 1))) [(.aload_n 0, 1, 0, 0, 0, 0, 0, 0), (.dup, 1, 0, 0, 0, 0, 0, 0), (.getfield 164, 3, 11, 8, 0, 901, 0, 0), (.iconst 1, 1, 0, 0, 0, 0, 1, 0), (.isub, 1, 0, 0, 0, 0, 0, 0), (.putfield 164, 3, 11, 8, 0, 901, 0, 0)] (by decide +kernel) rfl rfl ?_
    obtain ⟨σ1, hσ1⟩ : ∃ s9, s9 = (su σ 136 8 ((σ 136 8) - 1)) := ⟨_, rfl⟩
    rw [← hσ1]
    have H := H σ1 hσ1
    refine XA.blk (e9 := 24) (ok := true) (ls' := [some (.ref 136)]) (st' := [.int (σ1 136 8)]) (h' := hs σ1) [(.aload_n 0, 1, 0, 0, 0, 0, 0, 0), (.getfield 164, 3, 11, 8, 0, 901, 0, 0)] (by decide +kernel) rfl rfl ?_
    exact XA.ret (some (.int (σ1 136 8))) rfl (show ckRt mX11_back 24 .ireturn = true by decide +kernel) trivial (Nat.le_of_ble_eq_true rfl) (Nat.le_of_ble_eq_true rfl) ⟨_, _, rfl, rfl, H⟩
  · have H := H.2 c1
    refine XA.blk (e9 := 9) (ok := true) (ls' := [some (.ref 136)]) (st' := [.int (-3)]) (h' := hs σ) [(.bipush (-3), 2, 0, 0, 0, 0, (-3), 0)] (by decide +kernel) rfl rfl ?_
    exact XA.ret (some (.int (-3))) rfl (show ckRt mX11_back 9 .ireturn = true by decide +kernel) trivial (Nat.le_of_ble_eq_true rfl) (Nat.le_of_ble_eq_true rfl) ⟨_, _, rfl, rfl, H⟩
theorem E_X11_back {scr : ScA}   {σ : Nat → Nat → Int32} {P : Int32 → (Nat → Nat → Int32) → Prop} (h : K_X11_back_0 scr σ P) : CiA scr 0 mX11_back [.ref 136] σ P := CtA.of (by decide) (Nat.le_of_ble_eq_true rfl) (XA.drop (by simp [leL, enL]) h)
def K_X11_ofRow_0 (scr : ScA)  (x1 : Int32) (x2 : Int32) (σ : Nat → Nat → Int32) (P : Int32 → (Nat → Nat → Int32) → Prop) : Prop := XA scr 0 mX11_ofRow 172 4705 0 [some (.ref 136), some (.int x1), some (.int x2)] [] (hs σ) (pI P)
set_option maxRecDepth 20000 in
theorem W_X11_ofRow_0 {scr : ScA}   {x1 : Int32} {x2 : Int32}  {σ : Nat → Nat → Int32} {P : Int32 → (Nat → Nat → Int32) → Prop} (H : (¬ x2 = (-1) → (¬ x1 ≤ x2 → (inB x2 2 = true))) ∧ (P (if ¬ x2 = (-1) then (if x1 ≤ x2 then (-1) else σ 162 (Int32.toNatClampNeg x2) : Int32) else x1 : Int32) σ)) : K_X11_ofRow_0 scr x1 x2 σ P := by
  show XA scr 0 mX11_ofRow 172 4705 0 [some (.ref 136), some (.int x1), some (.int x2)] [] (hs σ) (pI P)
  refine XA.blk (e9 := 2) (ok := true) (ls' := [some (.ref 136), some (.int x1), some (.int x2)]) (st' := [.int (-1), .int x2]) (h' := hs σ) [(.iload_n 2, 1, 2, 0, 0, 0, 0, 0), (.iconst (-1), 1, 0, 0, 0, 0, (-1), 0)] (by decide +kernel) rfl rfl ?_
  obtain ⟨hT2, H⟩ := H
  have hJ2 : XA scr 0 mX11_ofRow 172 4705 24 [none, none, none] [.int (if ¬ x2 = (-1) then (if x1 ≤ x2 then (-1) else σ 162 (Int32.toNatClampNeg x2) : Int32) else x1 : Int32)] (hs σ) (pI P) := by
    exact XA.ret (some (.int (if ¬ x2 = (-1) then (if x1 ≤ x2 then (-1) else σ 162 (Int32.toNatClampNeg x2) : Int32) else x1 : Int32))) rfl (show ckRt mX11_ofRow 24 .ireturn = true by decide +kernel) trivial (Nat.le_of_ble_eq_true rfl) (Nat.le_of_ble_eq_true rfl) ⟨_, _, rfl, rfl, H⟩
  refine XA.icmp_ne (7) 9 (by decide +kernel) (fun c1 => ?_) (fun c1 => ?_)
  · have H := hT2 c1
    refine XA.blk (e9 := 11) (ok := true) (ls' := [some (.ref 136), some (.int x1), some (.int x2)]) (st' := [.int x1, .int x2]) (h' := hs σ) [(.iload_n 2, 1, 2, 0, 0, 0, 0, 0), (.iload_n 1, 1, 1, 0, 0, 0, 0, 0)] (by decide +kernel) rfl rfl ?_
    have hF11 := H
    have hJ11 : XA scr 0 mX11_ofRow 172 4705 24 [none, none, none] [.int (if x1 ≤ x2 then (-1) else σ 162 (Int32.toNatClampNeg x2) : Int32)] (hs σ) (pI P) := by
      simpa only [if_pos c1] using hJ2
    refine XA.icmp_ge (12) 23 (by decide +kernel) (fun c2 => ?_) (fun c2 => ?_)
    · refine XA.blk (e9 := 24) (ok := true) (ls' := [some (.ref 136), some (.int x1), some (.int x2)]) (st' := [.int (-1)]) (h' := hs σ) [(.iconst (-1), 1, 0, 0, 0, 0, (-1), 0)] (by decide +kernel) rfl rfl ?_
      refine XA.drop (ls := [none, none, none]) (by simp [leL]) ?_
      simpa only [if_pos c2] using hJ11
    · have H := hF11 c2
      have o1 := H
      refine XA.blk (e9 := 24) (ok := inB x2 2 && (true)) (ls' := [some (.ref 136), some (.int x1), some (.int x2)]) (st' := [.int (σ 162 (Int32.toNatClampNeg x2))]) (h' := hs σ) [(.aload_n 0, 1, 0, 0, 0, 0, 0, 0), (.getfield 85, 3, 11, 42, 27, 935, 0, 0), (.iload_n 2, 1, 2, 0, 0, 0, 0, 0), (.iaload, 1, 0, 0, 0, 0, 0, 0), (.goto 4, 3, 24, 0, 0, 0, 0, 0)] (by decide +kernel) rfl (by simp only [o1, Bool.and_true, Bool.true_and]) ?_
      refine XA.drop (ls := [none, none, none]) (by simp [leL]) ?_
      simpa only [if_neg c2] using hJ11
  · refine XA.blk (e9 := 24) (ok := true) (ls' := [some (.ref 136), some (.int x1), some (.int x2)]) (st' := [.int x1]) (h' := hs σ) [(.iload_n 1, 1, 1, 0, 0, 0, 0, 0), (.goto 18, 3, 24, 0, 0, 0, 0, 0)] (by decide +kernel) rfl rfl ?_
    refine XA.drop (ls := [none, none, none]) (by simp [leL]) ?_
    simpa only [if_neg (not_not_intro c1)] using hJ2
theorem E_X11_ofRow {scr : ScA}  {x1 : Int32} {x2 : Int32} {σ : Nat → Nat → Int32} {P : Int32 → (Nat → Nat → Int32) → Prop} (h : K_X11_ofRow_0 scr x1 x2 σ P) : CiA scr 0 mX11_ofRow [.ref 136, .int x1, .int x2] σ P := CtA.of (by decide) (Nat.le_of_ble_eq_true rfl) (XA.drop (by simp [leL, enL]) h)
def K_X11_forget_0 (scr : ScA)   (σ : Nat → Nat → Int32) (P : Int32 → (Nat → Nat → Int32) → Prop) : Prop := XA scr 0 mX11_forget 172 4705 0 [some (.ref 136), none] [] (hs σ) (pI P)
set_option maxRecDepth 20000 in
theorem W_X11_forget_0 {scr : ScA}     {σ : Nat → Nat → Int32} {P : Int32 → (Nat → Nat → Int32) → Prop} (H : ∀ σ1, σ1 = (su σ 136 43 0) → P (σ 136 43) σ1) : K_X11_forget_0 scr σ P := by
  show XA scr 0 mX11_forget 172 4705 0 [some (.ref 136), none] [] (hs σ) (pI P)
  refine XA.blk (e9 := 10) (ok := true) (ls' := [some (.ref 136), some (.int (σ 136 43))]) (st' := []) (h' := hs (su σ 136 43 0)) [(.aload_n 0, 1, 0, 0, 0, 0, 0, 0), (.getfield 307, 3, 11, 43, 0, 936, 0, 0), (.istore_n 1, 1, 1, 0, 0, 0, 0, 0), (.aload_n 0, 1, 0, 0, 0, 0, 0, 0), (.iconst 0, 1, 0, 0, 0, 0, 0, 0), (.putfield 307, 3, 11, 43, 0, 936, 0, 0)] (by decide +kernel) rfl rfl ?_
  obtain ⟨σ1, hσ1⟩ : ∃ s9, s9 = (su σ 136 43 0) := ⟨_, rfl⟩
  rw [← hσ1]
  have H := H σ1 hσ1
  refine XA.blk (e9 := 11) (ok := true) (ls' := [some (.ref 136), some (.int (σ 136 43))]) (st' := [.int (σ 136 43)]) (h' := hs σ1) [(.iload_n 1, 1, 1, 0, 0, 0, 0, 0)] (by decide +kernel) rfl rfl ?_
  exact XA.ret (some (.int (σ 136 43))) rfl (show ckRt mX11_forget 11 .ireturn = true by decide +kernel) trivial (Nat.le_of_ble_eq_true rfl) (Nat.le_of_ble_eq_true rfl) ⟨_, _, rfl, rfl, H⟩
theorem E_X11_forget {scr : ScA}   {σ : Nat → Nat → Int32} {P : Int32 → (Nat → Nat → Int32) → Prop} (h : K_X11_forget_0 scr σ P) : CiA scr 0 mX11_forget [.ref 136] σ P := CtA.of (by decide) (Nat.le_of_ble_eq_true rfl) (XA.drop (by simp [leL, enL]) h)
def K_X11_meets_0 (scr : ScA)  (x1 : Int32) (σ : Nat → Nat → Int32) (P : Int32 → (Nat → Nat → Int32) → Prop) : Prop := XA scr 0 mX11_meets 172 4705 0 [some (.ref 136), some (.int x1)] [] (hs σ) (pI P)
set_option maxRecDepth 20000 in
theorem W_X11_meets_0 {scr : ScA}   {x1 : Int32}  {σ : Nat → Nat → Int32} {P : Int32 → (Nat → Nat → Int32) → Prop} (H : ∀ σ1, σ1 = (su σ 136 53 x1) → P ((-10) - x1) σ1) : K_X11_meets_0 scr x1 σ P := by
  show XA scr 0 mX11_meets 172 4705 0 [some (.ref 136), some (.int x1)] [] (hs σ) (pI P)
  refine XA.blk (e9 := 5) (ok := true) (ls' := [some (.ref 136), some (.int x1)]) (st' := []) (h' := hs (su σ 136 53 x1)) [(.aload_n 0, 1, 0, 0, 0, 0, 0, 0), (.iload_n 1, 1, 1, 0, 0, 0, 0, 0), (.putfield 342, 3, 11, 53, 0, 946, 0, 0)] (by decide +kernel) rfl rfl ?_
  obtain ⟨σ1, hσ1⟩ : ∃ s9, s9 = (su σ 136 53 x1) := ⟨_, rfl⟩
  rw [← hσ1]
  have H := H σ1 hσ1
  refine XA.blk (e9 := 9) (ok := true) (ls' := [some (.ref 136), some (.int x1)]) (st' := [.int ((-10) - x1)]) (h' := hs σ1) [(.bipush (-10), 2, 0, 0, 0, 0, (-10), 0), (.iload_n 1, 1, 1, 0, 0, 0, 0, 0), (.isub, 1, 0, 0, 0, 0, 0, 0)] (by decide +kernel) rfl rfl ?_
  exact XA.ret (some (.int ((-10) - x1))) rfl (show ckRt mX11_meets 9 .ireturn = true by decide +kernel) trivial (Nat.le_of_ble_eq_true rfl) (Nat.le_of_ble_eq_true rfl) ⟨_, _, rfl, rfl, H⟩
theorem E_X11_meets {scr : ScA}  {x1 : Int32} {σ : Nat → Nat → Int32} {P : Int32 → (Nat → Nat → Int32) → Prop} (h : K_X11_meets_0 scr x1 σ P) : CiA scr 0 mX11_meets [.ref 136, .int x1] σ P := CtA.of (by decide) (Nat.le_of_ble_eq_true rfl) (XA.drop (by simp [leL, enL]) h)
def K_X11_keep_0 (scr : ScA)  (x1 : Int32) (x2 : Int32) (x3 : Int32) (σ : Nat → Nat → Int32) (P : (Nat → Nat → Int32) → Prop) : Prop := XA scr 0 mX11_keep 172 4705 0 [some (.ref 136), some (.int x1), some (.int x2), some (.int x3)] [] (hs σ) (pV P)
set_option maxRecDepth 20000 in
theorem W_X11_keep_0 {scr : ScA}   {x1 : Int32} {x2 : Int32} {x3 : Int32}  {σ : Nat → Nat → Int32} {P : (Nat → Nat → Int32) → Prop} (H : (inB x1 4 = true) ∧ ((inB ((60 * x1) + x2) 240 = true) ∧ (∀ σ1, σ1 = (su σ 170 (Int32.toNatClampNeg ((60 * x1) + x2)) (if ¬ (σ 168 (Int32.toNatClampNeg x1)) = 0 then (if ¬ (σ 168 (Int32.toNatClampNeg x1)) = 1 then x3 else (Int32.toInt16 x3).toInt32 : Int32) else (Int32.toInt8 x3).toInt32 : Int32)) → P σ1))) : K_X11_keep_0 scr x1 x2 x3 σ P := by
  show XA scr 0 mX11_keep 172 4705 0 [some (.ref 136), some (.int x1), some (.int x2), some (.int x3)] [] (hs σ) (pV P)
  obtain ⟨o1, H⟩ := H
  refine XA.blk (e9 := 16) (ok := inB x1 4 && (true)) (ls' := [some (.ref 136), some (.int x1), some (.int x2), some (.int x3)]) (st' := [.int (σ 168 (Int32.toNatClampNeg x1)), .int ((60 * x1) + x2), .ref 170]) (h' := hs σ) [(.aload_n 0, 1, 0, 0, 0, 0, 0, 0), (.getfield 110, 3, 11, 51, 35, 944, 0, 0), (.bipush 60, 2, 0, 0, 0, 0, 60, 0), (.iload_n 1, 1, 1, 0, 0, 0, 0, 0), (.imul, 1, 0, 0, 0, 0, 0, 0), (.iload_n 2, 1, 2, 0, 0, 0, 0, 0), (.iadd, 1, 0, 0, 0, 0, 0, 0), (.aload_n 0, 1, 0, 0, 0, 0, 0, 0), (.getfield 104, 3, 11, 49, 33, 942, 0, 0), (.iload_n 1, 1, 1, 0, 0, 0, 0, 0), (.iaload, 1, 0, 0, 0, 0, 0, 0)] (by decide +kernel) rfl (by simp only [o1, Bool.and_true, Bool.true_and]) ?_
  have hJ16 : XA scr 0 mX11_keep 172 4705 40 [none, none, none, none] [.int (if ¬ (σ 168 (Int32.toNatClampNeg x1)) = 0 then (if ¬ (σ 168 (Int32.toNatClampNeg x1)) = 1 then x3 else (Int32.toInt16 x3).toInt32 : Int32) else (Int32.toInt8 x3).toInt32 : Int32), .int ((60 * x1) + x2), .ref 170] (hs σ) (pV P) := by
    obtain ⟨o2, H⟩ := H
    refine XA.blk (e9 := 41) (ok := inB ((60 * x1) + x2) 240 && (true)) (ls' := [none, none, none, none]) (st' := []) (h' := hs (su σ 170 (Int32.toNatClampNeg ((60 * x1) + x2)) (if ¬ (σ 168 (Int32.toNatClampNeg x1)) = 0 then (if ¬ (σ 168 (Int32.toNatClampNeg x1)) = 1 then x3 else (Int32.toInt16 x3).toInt32 : Int32) else (Int32.toInt8 x3).toInt32 : Int32))) [(.iastore, 1, 0, 0, 0, 0, 0, 0)] (by decide +kernel) rfl (by simp only [o2, Bool.and_true, Bool.true_and]) ?_
    obtain ⟨σ1, hσ1⟩ : ∃ s9, s9 = (su σ 170 (Int32.toNatClampNeg ((60 * x1) + x2)) (if ¬ (σ 168 (Int32.toNatClampNeg x1)) = 0 then (if ¬ (σ 168 (Int32.toNatClampNeg x1)) = 1 then x3 else (Int32.toInt16 x3).toInt32 : Int32) else (Int32.toInt8 x3).toInt32 : Int32)) := ⟨_, rfl⟩
    rw [← hσ1]
    have H := H σ1 hσ1
    exact XA.ret none rfl (show ckRt mX11_keep 41 .return_ = true by decide +kernel) trivial (Nat.le_of_ble_eq_true rfl) (Nat.le_of_ble_eq_true rfl) ⟨_, rfl, rfl, H⟩
  refine XA.if_ne (8) 24 (by decide +kernel) (fun c1 => ?_) (fun c1 => ?_)
  · refine XA.blk (e9 := 31) (ok := inB x1 4 && (true)) (ls' := [some (.ref 136), some (.int x1), some (.int x2), some (.int x3)]) (st' := [.int 1, .int (σ 168 (Int32.toNatClampNeg x1)), .int ((60 * x1) + x2), .ref 170]) (h' := hs σ) [(.aload_n 0, 1, 0, 0, 0, 0, 0, 0), (.getfield 104, 3, 11, 49, 33, 942, 0, 0), (.iload_n 1, 1, 1, 0, 0, 0, 0, 0), (.iaload, 1, 0, 0, 0, 0, 0, 0), (.iconst 1, 1, 0, 0, 0, 0, 1, 0)] (by decide +kernel) rfl (by simp only [o1, Bool.and_true, Bool.true_and]) ?_
    have hJ31 : XA scr 0 mX11_keep 172 4705 40 [none, none, none, none] [.int (if ¬ (σ 168 (Int32.toNatClampNeg x1)) = 1 then x3 else (Int32.toInt16 x3).toInt32 : Int32), .int ((60 * x1) + x2), .ref 170] (hs σ) (pV P) := by
      simpa only [if_pos c1] using hJ16
    refine XA.icmp_ne (8) 39 (by decide +kernel) (fun c2 => ?_) (fun c2 => ?_)
    · refine XA.blk (e9 := 40) (ok := true) (ls' := [some (.ref 136), some (.int x1), some (.int x2), some (.int x3)]) (st' := [.int x3, .int ((60 * x1) + x2), .ref 170]) (h' := hs σ) [(.iload_n 3, 1, 3, 0, 0, 0, 0, 0)] (by decide +kernel) rfl rfl ?_
      refine XA.drop (ls := [none, none, none, none]) (by simp [leL]) ?_
      simpa only [if_pos c2] using hJ31
    · refine XA.blk (e9 := 40) (ok := true) (ls' := [some (.ref 136), some (.int x1), some (.int x2), some (.int x3)]) (st' := [.int ((Int32.toInt16 x3).toInt32), .int ((60 * x1) + x2), .ref 170]) (h' := hs σ) [(.iload_n 3, 1, 3, 0, 0, 0, 0, 0), (.i2s, 1, 0, 0, 0, 0, 0, 0), (.goto 4, 3, 40, 0, 0, 0, 0, 0)] (by decide +kernel) rfl rfl ?_
      refine XA.drop (ls := [none, none, none, none]) (by simp [leL]) ?_
      simpa only [if_neg (not_not_intro c2)] using hJ31
  · refine XA.blk (e9 := 40) (ok := true) (ls' := [some (.ref 136), some (.int x1), some (.int x2), some (.int x3)]) (st' := [.int ((Int32.toInt8 x3).toInt32), .int ((60 * x1) + x2), .ref 170]) (h' := hs σ) [(.iload_n 3, 1, 3, 0, 0, 0, 0, 0), (.i2b, 1, 0, 0, 0, 0, 0, 0), (.goto 19, 3, 40, 0, 0, 0, 0, 0)] (by decide +kernel) rfl rfl ?_
    refine XA.drop (ls := [none, none, none, none]) (by simp [leL]) ?_
    simpa only [if_neg (not_not_intro c1)] using hJ16
theorem E_X11_keep {scr : ScA}  {x1 : Int32} {x2 : Int32} {x3 : Int32} {σ : Nat → Nat → Int32} {P : (Nat → Nat → Int32) → Prop} (h : K_X11_keep_0 scr x1 x2 x3 σ P) : CvA scr 0 mX11_keep [.ref 136, .int x1, .int x2, .int x3] σ P := CtA.of (by decide) (Nat.le_of_ble_eq_true rfl) (XA.drop (by simp [leL, enL]) h)
