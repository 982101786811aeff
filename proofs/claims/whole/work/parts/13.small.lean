def K_X10_isWithin_0 (scr : ScA)  (x0 : Int32) (x1 : Int32) (σ : Nat → Nat → Int32) (P : Int32 → (Nat → Nat → Int32) → Prop) : Prop := XA scr 0 mX10_isWithin 172 4705 0 [some (.int x0), some (.int x1)] [] (hs σ) (pI P)
set_option maxRecDepth 20000 in
theorem W_X10_isWithin_0 {scr : ScA}   {x0 : Int32} {x1 : Int32} {σ : Nat → Nat → Int32} {P : Int32 → (Nat → Nat → Int32) → Prop} (H : ((if x0 < 0 then 0 else if x1 ≤ x0 then 0 else 1) = 0 ∨ (if x0 < 0 then 0 else if x1 ≤ x0 then 0 else 1) = 1) ∧ P (if x0 < 0 then 0 else if x1 ≤ x0 then 0 else 1) σ) : K_X10_isWithin_0 scr x0 x1 σ P := by
  show XA scr 0 mX10_isWithin 172 4705 0 [some (.int x0), some (.int x1)] [] (hs σ) (pI P)
  refine XA.blk (e9 := 1) (ok := true) (ls' := [some (.int x0), some (.int x1)]) (st' := [.int x0]) (h' := hs σ) [(.iload_n 0, 1, 0, 0, 0, 0, 0, 0)] (by decide +kernel) rfl rfl ?_
  have hJ1 : XA scr 0 mX10_isWithin 172 4705 14 [none, none] [.int (if x0 < 0 then 0 else if x1 ≤ x0 then 0 else 1)] (hs σ) (pI P) := by
    exact XA.ret (some (.int (if x0 < 0 then 0 else if x1 ≤ x0 then 0 else 1))) rfl (by decide +kernel) H.1 (Nat.le_of_ble_eq_true rfl) (Nat.le_of_ble_eq_true rfl) ⟨_, _, rfl, rfl, H.2⟩
  refine XA.if_lt (12) 13 (by decide +kernel) (fun c1 => ?_) (fun c1 => ?_)
  · refine XA.blk (e9 := 14) (ok := true) (ls' := [some (.int x0), some (.int x1)]) (st' := [.int 0]) (h' := hs σ) [(.iconst 0, 1, 0, 0, 0, 0, 0, 0)] (by decide +kernel) rfl rfl ?_
    refine XA.drop (ls := [none, none]) (by simp [leL]) ?_
    simpa only [if_pos c1] using hJ1
  · refine XA.blk (e9 := 6) (ok := true) (ls' := [some (.int x0), some (.int x1)]) (st' := [.int x1, .int x0]) (h' := hs σ) [(.iload_n 0, 1, 0, 0, 0, 0, 0, 0), (.iload_n 1, 1, 1, 0, 0, 0, 0, 0)] (by decide +kernel) rfl rfl ?_
    have hJ6 : XA scr 0 mX10_isWithin 172 4705 14 [none, none] [.int (if x1 ≤ x0 then 0 else 1)] (hs σ) (pI P) := by
      simpa only [if_neg c1] using hJ1
    refine XA.icmp_ge (7) 13 (by decide +kernel) (fun c2 => ?_) (fun c2 => ?_)
    · refine XA.blk (e9 := 14) (ok := true) (ls' := [some (.int x0), some (.int x1)]) (st' := [.int 0]) (h' := hs σ) [(.iconst 0, 1, 0, 0, 0, 0, 0, 0)] (by decide +kernel) rfl rfl ?_
      refine XA.drop (ls := [none, none]) (by simp [leL]) ?_
      simpa only [if_pos c2] using hJ6
    · refine XA.blk (e9 := 14) (ok := true) (ls' := [some (.int x0), some (.int x1)]) (st' := [.int 1]) (h' := hs σ) [(.iconst 1, 1, 0, 0, 0, 0, 1, 0), (.goto 4, 3, 14, 0, 0, 0, 0, 0)] (by decide +kernel) rfl rfl ?_
      refine XA.drop (ls := [none, none]) (by simp [leL]) ?_
      simpa only [if_neg c2] using hJ6
def K_X10_hasBit_0 (scr : ScA)  (x0 : Int32) (x1 : Int32) (σ : Nat → Nat → Int32) (P : Int32 → (Nat → Nat → Int32) → Prop) : Prop := XA scr 0 mX10_hasBit 172 4705 0 [some (.int x0), some (.int x1)] [] (hs σ) (pI P)
set_option maxRecDepth 20000 in
theorem W_X10_hasBit_0 {scr : ScA}   {x0 : Int32} {x1 : Int32} {σ : Nat → Nat → Int32} {P : Int32 → (Nat → Nat → Int32) → Prop} (H : ((if ((x0 >>> (x1 &&& 31)) &&& 1) = 0 then 0 else 1) = 0 ∨ (if ((x0 >>> (x1 &&& 31)) &&& 1) = 0 then 0 else 1) = 1) ∧ P (if ((x0 >>> (x1 &&& 31)) &&& 1) = 0 then 0 else 1) σ) : K_X10_hasBit_0 scr x0 x1 σ P := by
  show XA scr 0 mX10_hasBit 172 4705 0 [some (.int x0), some (.int x1)] [] (hs σ) (pI P)
  refine XA.blk (e9 := 5) (ok := true) (ls' := [some (.int x0), some (.int x1)]) (st' := [.int ((x0 >>> (x1 &&& 31)) &&& 1)]) (h' := hs σ) [(.iload_n 0, 1, 0, 0, 0, 0, 0, 0), (.iload_n 1, 1, 1, 0, 0, 0, 0, 0), (.ishr, 1, 0, 0, 0, 0, 0, 0), (.iconst 1, 1, 0, 0, 0, 0, 1, 0), (.iand, 1, 0, 0, 0, 0, 0, 0)] (by decide +kernel) rfl rfl ?_
  have hJ5 : XA scr 0 mX10_hasBit 172 4705 13 [none, none] [.int (if ((x0 >>> (x1 &&& 31)) &&& 1) = 0 then 0 else 1)] (hs σ) (pI P) := by
    exact XA.ret (some (.int (if ((x0 >>> (x1 &&& 31)) &&& 1) = 0 then 0 else 1))) rfl (by decide +kernel) H.1 (Nat.le_of_ble_eq_true rfl) (Nat.le_of_ble_eq_true rfl) ⟨_, _, rfl, rfl, H.2⟩
  refine XA.if_eq (7) 12 (by decide +kernel) (fun c1 => ?_) (fun c1 => ?_)
  · refine XA.blk (e9 := 13) (ok := true) (ls' := [some (.int x0), some (.int x1)]) (st' := [.int 0]) (h' := hs σ) [(.iconst 0, 1, 0, 0, 0, 0, 0, 0)] (by decide +kernel) rfl rfl ?_
    refine XA.drop (ls := [none, none]) (by simp [leL]) ?_
    simpa only [if_pos c1] using hJ5
  · refine XA.blk (e9 := 13) (ok := true) (ls' := [some (.int x0), some (.int x1)]) (st' := [.int 1]) (h' := hs σ) [(.iconst 1, 1, 0, 0, 0, 0, 1, 0), (.goto 4, 3, 13, 0, 0, 0, 0, 0)] (by decide +kernel) rfl rfl ?_
    refine XA.drop (ls := [none, none]) (by simp [leL]) ?_
    simpa only [if_neg c1] using hJ5
def K_X10_height_0 (scr : ScA)  (x0 : Int32) (σ : Nat → Nat → Int32) (P : Int32 → (Nat → Nat → Int32) → Prop) : Prop := XA scr 0 mX10_height 172 4705 0 [some (.int x0), none, none, none, none, none] [] (hs σ) (pI P)
def K_X10_height_12 (scr : ScA)  (x0 : Int32) (x1 : Int32) (x3 : Int32) (x4 : Int32) (σ : Nat → Nat → Int32) (P : Int32 → (Nat → Nat → Int32) → Prop) : Prop := XA scr 0 mX10_height 172 4705 12 [some (.int x0), some (.int x1), some (.retAddr 2), some (.int x3), some (.int x4), none] [] (hs σ) (pI P)
set_option maxRecDepth 20000 in
theorem W_X10_height_0 {scr : ScA}   {x0 : Int32} {σ : Nat → Nat → Int32} {P : Int32 → (Nat → Nat → Int32) → Prop} (H : K_X10_height_12 scr x0 0 4 0 σ P) : K_X10_height_0 scr x0 σ P := by
  show XA scr 0 mX10_height 172 4705 0 [some (.int x0), none, none, none, none, none] [] (hs σ) (pI P)
  refine XA.blk (e9 := 12) (ok := true) (ls' := [some (.int x0), some (.int 0), some (.retAddr 2), some (.int 4), some (.int 0), none]) (st' := []) (h' := hs σ) [(.iconst 0, 1, 0, 0, 0, 0, 0, 0), (.istore_n 1, 1, 1, 0, 0, 0, 0, 0), (.getstatic 356, 3, 2, 0, 0, 628, 0, 0), (.astore_n 2, 1, 2, 0, 0, 0, 0, 0), (.aload_n 2, 1, 2, 0, 0, 0, 0, 0), (.arraylength, 1, 0, 0, 0, 0, 0, 0), (.istore_n 3, 1, 3, 0, 0, 0, 0, 0), (.iconst 0, 1, 0, 0, 0, 0, 0, 0), (.istore 4, 2, 4, 0, 0, 0, 0, 0)] (by decide +kernel) rfl rfl ?_
  exact H
set_option maxRecDepth 20000 in
theorem W_X10_height_12 {scr : ScA}   {x0 : Int32} {x1 : Int32} {x3 : Int32} {x4 : Int32} {σ : Nat → Nat → Int32} {P : Int32 → (Nat → Nat → Int32) → Prop} (H : (x3 ≤ x4 → P x1 σ) ∧ (¬ x3 ≤ x4 → (inB x4 4 = true) ∧ (K_X10_height_12 scr x0 (if (x0 &&& (tbV scr 2 (Int32.toNatClampNeg x4))) = 0 then x1 else x1 + 1) x3 (x4 + 1) σ P))) : K_X10_height_12 scr x0 x1 x3 x4 σ P := by
  show XA scr 0 mX10_height 172 4705 12 [some (.int x0), some (.int x1), some (.retAddr 2), some (.int x3), some (.int x4), none] [] (hs σ) (pI P)
  refine XA.blk (e9 := 15) (ok := true) (ls' := [some (.int x0), some (.int x1), some (.retAddr 2), some (.int x3), some (.int x4), none]) (st' := [.int x3, .int x4]) (h' := hs σ) [(.iload 4, 2, 4, 0, 0, 0, 0, 0), (.iload_n 3, 1, 3, 0, 0, 0, 0, 0)] (by decide +kernel) rfl rfl ?_
  refine XA.icmp_ge (25) 40 (by decide +kernel) (fun c1 => ?_) (fun c1 => ?_)
  · have H := H.1 c1
    refine XA.blk (e9 := 41) (ok := true) (ls' := [some (.int x0), some (.int x1), some (.retAddr 2), some (.int x3), some (.int x4), none]) (st' := [.int x1]) (h' := hs σ) [(.iload_n 1, 1, 1, 0, 0, 0, 0, 0)] (by decide +kernel) rfl rfl ?_
    exact XA.ret (some (.int x1)) rfl (by decide +kernel) trivial (Nat.le_of_ble_eq_true rfl) (Nat.le_of_ble_eq_true rfl) ⟨_, _, rfl, rfl, H⟩
  · have H := H.2 c1
    obtain ⟨o1, H⟩ := H
    refine XA.blk (e9 := 28) (ok := inB x4 4 && (true)) (ls' := [some (.int x0), some (.int x1), some (.retAddr 2), some (.int x3), some (.int x4), some (.int (tbV scr 2 (Int32.toNatClampNeg x4)))]) (st' := [.int (x0 &&& (tbV scr 2 (Int32.toNatClampNeg x4)))]) (h' := hs σ) [(.aload_n 2, 1, 2, 0, 0, 0, 0, 0), (.iload 4, 2, 4, 0, 0, 0, 0, 0), (.iaload, 1, 0, 0, 0, 0, 0, 0), (.istore 5, 2, 5, 0, 0, 0, 0, 0), (.iload_n 0, 1, 0, 0, 0, 0, 0, 0), (.iload 5, 2, 5, 0, 0, 0, 0, 0), (.iand, 1, 0, 0, 0, 0, 0, 0)] (by decide +kernel) rfl (by simp only [o1, Bool.and_true, Bool.true_and]) ?_
    have hJ28 : XA scr 0 mX10_height 172 4705 34 [some (.int x0), some (.int (if (x0 &&& (tbV scr 2 (Int32.toNatClampNeg x4))) = 0 then x1 else x1 + 1)), some (.retAddr 2), some (.int x3), some (.int x4), none] [] (hs σ) (pI P) := by
      refine XA.blk (e9 := 12) (ok := true) (ls' := [some (.int x0), some (.int (if (x0 &&& (tbV scr 2 (Int32.toNatClampNeg x4))) = 0 then x1 else x1 + 1)), some (.retAddr 2), some (.int x3), some (.int (x4 + 1)), none]) (st' := []) (h' := hs σ) [(.iinc 4 1, 3, 4, 0, 0, 0, 1, 0), (.goto (-25), 3, 12, 0, 0, 0, 0, 0)] (by decide +kernel) rfl rfl ?_
      exact H
    refine XA.if_eq (6) 34 (by decide +kernel) (fun c2 => ?_) (fun c2 => ?_)
    · refine XA.drop (ls := [some (.int x0), some (.int x1), some (.retAddr 2), some (.int x3), some (.int x4), none]) (by simp [leL]) ?_
      simpa only [if_pos c2] using hJ28
    · refine XA.blk (e9 := 34) (ok := true) (ls' := [some (.int x0), some (.int (x1 + 1)), some (.retAddr 2), some (.int x3), some (.int x4), some (.int (tbV scr 2 (Int32.toNatClampNeg x4)))]) (st' := []) (h' := hs σ) [(.iinc 1 1, 3, 1, 0, 0, 0, 1, 0)] (by decide +kernel) rfl rfl ?_
      refine XA.drop (ls := [some (.int x0), some (.int (x1 + 1)), some (.retAddr 2), some (.int x3), some (.int x4), none]) (by simp [leL]) ?_
      simpa only [if_neg c2] using hJ28
def K_X5_tiring_0 (scr : ScA)  (x0 : Int32) (x1 : Int32) (σ : Nat → Nat → Int32) (P : Int32 → (Nat → Nat → Int32) → Prop) : Prop := XA scr 0 mX5_tiring 172 4705 0 [some (.int x0), some (.int x1), none] [] (hs σ) (pI P)
set_option maxRecDepth 20000 in
theorem W_X5_tiring_0 {scr : ScA}   {x0 : Int32} {x1 : Int32} {σ : Nat → Nat → Int32} {P : Int32 → (Nat → Nat → Int32) → Prop} (H : (x0 = 1 → P ((x1 / 8) + 1) σ) ∧ (x0 = 2 → P (if (x1 / 8) ≤ 0 then 0 else (x1 / 8) - 1) σ) ∧ (¬ x0 = 1 → ¬ x0 = 2 → P (x1 / 8) σ)) : K_X5_tiring_0 scr x0 x1 σ P := by
  show XA scr 0 mX5_tiring 172 4705 0 [some (.int x0), some (.int x1), none] [] (hs σ) (pI P)
  refine XA.blk (e9 := 6) (ok := true) (ls' := [some (.int x0), some (.int x1), some (.int (x1 / 8))]) (st' := [.int x0]) (h' := hs σ) [(.iload_n 1, 1, 1, 0, 0, 0, 0, 0), (.bipush 8, 2, 0, 0, 0, 0, 8, 0), (.idiv, 1, 0, 0, 0, 0, 0, 0), (.istore_n 2, 1, 2, 0, 0, 0, 0, 0), (.iload_n 0, 1, 0, 0, 0, 0, 0, 0)] (by decide +kernel) rfl rfl ?_
  refine XA.lsw (42) [(1, 26), (2, 30)] 26 [(1, 32), (2, 36)] 48 (by decide +kernel) (fun q9 hq9 e9 => ?_) (fun e9 => ?_)
  · simp only [List.mem_cons, List.not_mem_nil, or_false] at hq9
    rcases hq9 with rfl | rfl
    · have H := H.1 e9
      refine XA.blk (e9 := 35) (ok := true) (ls' := [some (.int x0), some (.int x1), some (.int (x1 / 8))]) (st' := [.int ((x1 / 8) + 1)]) (h' := hs σ) [(.iload_n 2, 1, 2, 0, 0, 0, 0, 0), (.iconst 1, 1, 0, 0, 0, 0, 1, 0), (.iadd, 1, 0, 0, 0, 0, 0, 0)] (by decide +kernel) rfl rfl ?_
      exact XA.ret (some (.int ((x1 / 8) + 1))) rfl (by decide +kernel) trivial (Nat.le_of_ble_eq_true rfl) (Nat.le_of_ble_eq_true rfl) ⟨_, _, rfl, rfl, H⟩
    · have H := H.2.1 e9
      refine XA.blk (e9 := 37) (ok := true) (ls' := [some (.int x0), some (.int x1), some (.int (x1 / 8))]) (st' := [.int (x1 / 8)]) (h' := hs σ) [(.iload_n 2, 1, 2, 0, 0, 0, 0, 0)] (by decide +kernel) rfl rfl ?_
      have hJ37 : XA scr 0 mX5_tiring 172 4705 47 [none, none, none] [.int (if (x1 / 8) ≤ 0 then 0 else (x1 / 8) - 1)] (hs σ) (pI P) := by
        exact XA.ret (some (.int (if (x1 / 8) ≤ 0 then 0 else (x1 / 8) - 1))) rfl (by decide +kernel) trivial (Nat.le_of_ble_eq_true rfl) (Nat.le_of_ble_eq_true rfl) ⟨_, _, rfl, rfl, H⟩
      refine XA.if_le (9) 46 (by decide +kernel) (fun c1 => ?_) (fun c1 => ?_)
      · refine XA.blk (e9 := 47) (ok := true) (ls' := [some (.int x0), some (.int x1), some (.int (x1 / 8))]) (st' := [.int 0]) (h' := hs σ) [(.iconst 0, 1, 0, 0, 0, 0, 0, 0)] (by decide +kernel) rfl rfl ?_
        refine XA.drop (ls := [none, none, none]) (by simp [leL]) ?_
        simpa only [if_pos c1] using hJ37
      · refine XA.blk (e9 := 47) (ok := true) (ls' := [some (.int x0), some (.int x1), some (.int (x1 / 8))]) (st' := [.int ((x1 / 8) - 1)]) (h' := hs σ) [(.iload_n 2, 1, 2, 0, 0, 0, 0, 0), (.iconst 1, 1, 0, 0, 0, 0, 1, 0), (.isub, 1, 0, 0, 0, 0, 0, 0), (.goto 4, 3, 47, 0, 0, 0, 0, 0)] (by decide +kernel) rfl rfl ?_
        refine XA.drop (ls := [none, none, none]) (by simp [leL]) ?_
        simpa only [if_neg c1] using hJ37
  · have H := H.2.2 (e9 (1, 32) (by simp)) (e9 (2, 36) (by simp))
    refine XA.blk (e9 := 49) (ok := true) (ls' := [some (.int x0), some (.int x1), some (.int (x1 / 8))]) (st' := [.int (x1 / 8)]) (h' := hs σ) [(.iload_n 2, 1, 2, 0, 0, 0, 0, 0)] (by decide +kernel) rfl rfl ?_
    exact XA.ret (some (.int (x1 / 8))) rfl (by decide +kernel) trivial (Nat.le_of_ble_eq_true rfl) (Nat.le_of_ble_eq_true rfl) ⟨_, _, rfl, rfl, H⟩
def K_J6_bitCount_0f7a4_0 (scr : ScA)  (x0 : Int32) (σ : Nat → Nat → Int32) (P : Int32 → (Nat → Nat → Int32) → Prop) : Prop := XA scr 0 mJ6_bitCount_0f7a4 172 4705 0 [some (.int x0)] [] (hs σ) (pI P)
set_option maxRecDepth 20000 in
theorem W_J6_bitCount_0f7a4_0 {scr : ScA}   {x0 : Int32} {σ : Nat → Nat → Int32} {P : Int32 → (Nat → Nat → Int32) → Prop} (H : P ((((((((x0 - (((x0.toUInt32 >>> ((1 : Int32).toUInt32 &&& Int32.toUInt32 31)).toInt32) &&& 1431655765)) &&& 858993459) + ((((x0 - (((x0.toUInt32 >>> ((1 : Int32).toUInt32 &&& Int32.toUInt32 31)).toInt32) &&& 1431655765)).toUInt32 >>> ((2 : Int32).toUInt32 &&& Int32.toUInt32 31)).toInt32) &&& 858993459)) + (((((x0 - (((x0.toUInt32 >>> ((1 : Int32).toUInt32 &&& Int32.toUInt32 31)).toInt32) &&& 1431655765)) &&& 858993459) + ((((x0 - (((x0.toUInt32 >>> ((1 : Int32).toUInt32 &&& Int32.toUInt32 31)).toInt32) &&& 1431655765)).toUInt32 >>> ((2 : Int32).toUInt32 &&& Int32.toUInt32 31)).toInt32) &&& 858993459)).toUInt32 >>> ((4 : Int32).toUInt32 &&& Int32.toUInt32 31)).toInt32)) &&& 252645135) + (((((((x0 - (((x0.toUInt32 >>> ((1 : Int32).toUInt32 &&& Int32.toUInt32 31)).toInt32) &&& 1431655765)) &&& 858993459) + ((((x0 - (((x0.toUInt32 >>> ((1 : Int32).toUInt32 &&& Int32.toUInt32 31)).toInt32) &&& 1431655765)).toUInt32 >>> ((2 : Int32).toUInt32 &&& Int32.toUInt32 31)).toInt32) &&& 858993459)) + (((((x0 - (((x0.toUInt32 >>> ((1 : Int32).toUInt32 &&& Int32.toUInt32 31)).toInt32) &&& 1431655765)) &&& 858993459) + ((((x0 - (((x0.toUInt32 >>> ((1 : Int32).toUInt32 &&& Int32.toUInt32 31)).toInt32) &&& 1431655765)).toUInt32 >>> ((2 : Int32).toUInt32 &&& Int32.toUInt32 31)).toInt32) &&& 858993459)).toUInt32 >>> ((4 : Int32).toUInt32 &&& Int32.toUInt32 31)).toInt32)) &&& 252645135).toUInt32 >>> ((8 : Int32).toUInt32 &&& Int32.toUInt32 31)).toInt32)) + ((((((((x0 - (((x0.toUInt32 >>> ((1 : Int32).toUInt32 &&& Int32.toUInt32 31)).toInt32) &&& 1431655765)) &&& 858993459) + ((((x0 - (((x0.toUInt32 >>> ((1 : Int32).toUInt32 &&& Int32.toUInt32 31)).toInt32) &&& 1431655765)).toUInt32 >>> ((2 : Int32).toUInt32 &&& Int32.toUInt32 31)).toInt32) &&& 858993459)) + (((((x0 - (((x0.toUInt32 >>> ((1 : Int32).toUInt32 &&& Int32.toUInt32 31)).toInt32) &&& 1431655765)) &&& 858993459) + ((((x0 - (((x0.toUInt32 >>> ((1 : Int32).toUInt32 &&& Int32.toUInt32 31)).toInt32) &&& 1431655765)).toUInt32 >>> ((2 : Int32).toUInt32 &&& Int32.toUInt32 31)).toInt32) &&& 858993459)).toUInt32 >>> ((4 : Int32).toUInt32 &&& Int32.toUInt32 31)).toInt32)) &&& 252645135) + (((((((x0 - (((x0.toUInt32 >>> ((1 : Int32).toUInt32 &&& Int32.toUInt32 31)).toInt32) &&& 1431655765)) &&& 858993459) + ((((x0 - (((x0.toUInt32 >>> ((1 : Int32).toUInt32 &&& Int32.toUInt32 31)).toInt32) &&& 1431655765)).toUInt32 >>> ((2 : Int32).toUInt32 &&& Int32.toUInt32 31)).toInt32) &&& 858993459)) + (((((x0 - (((x0.toUInt32 >>> ((1 : Int32).toUInt32 &&& Int32.toUInt32 31)).toInt32) &&& 1431655765)) &&& 858993459) + ((((x0 - (((x0.toUInt32 >>> ((1 : Int32).toUInt32 &&& Int32.toUInt32 31)).toInt32) &&& 1431655765)).toUInt32 >>> ((2 : Int32).toUInt32 &&& Int32.toUInt32 31)).toInt32) &&& 858993459)).toUInt32 >>> ((4 : Int32).toUInt32 &&& Int32.toUInt32 31)).toInt32)) &&& 252645135).toUInt32 >>> ((8 : Int32).toUInt32 &&& Int32.toUInt32 31)).toInt32)).toUInt32 >>> ((16 : Int32).toUInt32 &&& Int32.toUInt32 31)).toInt32)) &&& 63) σ) : K_J6_bitCount_0f7a4_0 scr x0 σ P := by
  show XA scr 0 mJ6_bitCount_0f7a4 172 4705 0 [some (.int x0)] [] (hs σ) (pI P)
  refine XA.blk (e9 := 52) (ok := true) (ls' := [some (.int (((((((x0 - (((x0.toUInt32 >>> ((1 : Int32).toUInt32 &&& Int32.toUInt32 31)).toInt32) &&& 1431655765)) &&& 858993459) + ((((x0 - (((x0.toUInt32 >>> ((1 : Int32).toUInt32 &&& Int32.toUInt32 31)).toInt32) &&& 1431655765)).toUInt32 >>> ((2 : Int32).toUInt32 &&& Int32.toUInt32 31)).toInt32) &&& 858993459)) + (((((x0 - (((x0.toUInt32 >>> ((1 : Int32).toUInt32 &&& Int32.toUInt32 31)).toInt32) &&& 1431655765)) &&& 858993459) + ((((x0 - (((x0.toUInt32 >>> ((1 : Int32).toUInt32 &&& Int32.toUInt32 31)).toInt32) &&& 1431655765)).toUInt32 >>> ((2 : Int32).toUInt32 &&& Int32.toUInt32 31)).toInt32) &&& 858993459)).toUInt32 >>> ((4 : Int32).toUInt32 &&& Int32.toUInt32 31)).toInt32)) &&& 252645135) + (((((((x0 - (((x0.toUInt32 >>> ((1 : Int32).toUInt32 &&& Int32.toUInt32 31)).toInt32) &&& 1431655765)) &&& 858993459) + ((((x0 - (((x0.toUInt32 >>> ((1 : Int32).toUInt32 &&& Int32.toUInt32 31)).toInt32) &&& 1431655765)).toUInt32 >>> ((2 : Int32).toUInt32 &&& Int32.toUInt32 31)).toInt32) &&& 858993459)) + (((((x0 - (((x0.toUInt32 >>> ((1 : Int32).toUInt32 &&& Int32.toUInt32 31)).toInt32) &&& 1431655765)) &&& 858993459) + ((((x0 - (((x0.toUInt32 >>> ((1 : Int32).toUInt32 &&& Int32.toUInt32 31)).toInt32) &&& 1431655765)).toUInt32 >>> ((2 : Int32).toUInt32 &&& Int32.toUInt32 31)).toInt32) &&& 858993459)).toUInt32 >>> ((4 : Int32).toUInt32 &&& Int32.toUInt32 31)).toInt32)) &&& 252645135).toUInt32 >>> ((8 : Int32).toUInt32 &&& Int32.toUInt32 31)).toInt32)) + ((((((((x0 - (((x0.toUInt32 >>> ((1 : Int32).toUInt32 &&& Int32.toUInt32 31)).toInt32) &&& 1431655765)) &&& 858993459) + ((((x0 - (((x0.toUInt32 >>> ((1 : Int32).toUInt32 &&& Int32.toUInt32 31)).toInt32) &&& 1431655765)).toUInt32 >>> ((2 : Int32).toUInt32 &&& Int32.toUInt32 31)).toInt32) &&& 858993459)) + (((((x0 - (((x0.toUInt32 >>> ((1 : Int32).toUInt32 &&& Int32.toUInt32 31)).toInt32) &&& 1431655765)) &&& 858993459) + ((((x0 - (((x0.toUInt32 >>> ((1 : Int32).toUInt32 &&& Int32.toUInt32 31)).toInt32) &&& 1431655765)).toUInt32 >>> ((2 : Int32).toUInt32 &&& Int32.toUInt32 31)).toInt32) &&& 858993459)).toUInt32 >>> ((4 : Int32).toUInt32 &&& Int32.toUInt32 31)).toInt32)) &&& 252645135) + (((((((x0 - (((x0.toUInt32 >>> ((1 : Int32).toUInt32 &&& Int32.toUInt32 31)).toInt32) &&& 1431655765)) &&& 858993459) + ((((x0 - (((x0.toUInt32 >>> ((1 : Int32).toUInt32 &&& Int32.toUInt32 31)).toInt32) &&& 1431655765)).toUInt32 >>> ((2 : Int32).toUInt32 &&& Int32.toUInt32 31)).toInt32) &&& 858993459)) + (((((x0 - (((x0.toUInt32 >>> ((1 : Int32).toUInt32 &&& Int32.toUInt32 31)).toInt32) &&& 1431655765)) &&& 858993459) + ((((x0 - (((x0.toUInt32 >>> ((1 : Int32).toUInt32 &&& Int32.toUInt32 31)).toInt32) &&& 1431655765)).toUInt32 >>> ((2 : Int32).toUInt32 &&& Int32.toUInt32 31)).toInt32) &&& 858993459)).toUInt32 >>> ((4 : Int32).toUInt32 &&& Int32.toUInt32 31)).toInt32)) &&& 252645135).toUInt32 >>> ((8 : Int32).toUInt32 &&& Int32.toUInt32 31)).toInt32)).toUInt32 >>> ((16 : Int32).toUInt32 &&& Int32.toUInt32 31)).toInt32)))]) (st' := [.int ((((((((x0 - (((x0.toUInt32 >>> ((1 : Int32).toUInt32 &&& Int32.toUInt32 31)).toInt32) &&& 1431655765)) &&& 858993459) + ((((x0 - (((x0.toUInt32 >>> ((1 : Int32).toUInt32 &&& Int32.toUInt32 31)).toInt32) &&& 1431655765)).toUInt32 >>> ((2 : Int32).toUInt32 &&& Int32.toUInt32 31)).toInt32) &&& 858993459)) + (((((x0 - (((x0.toUInt32 >>> ((1 : Int32).toUInt32 &&& Int32.toUInt32 31)).toInt32) &&& 1431655765)) &&& 858993459) + ((((x0 - (((x0.toUInt32 >>> ((1 : Int32).toUInt32 &&& Int32.toUInt32 31)).toInt32) &&& 1431655765)).toUInt32 >>> ((2 : Int32).toUInt32 &&& Int32.toUInt32 31)).toInt32) &&& 858993459)).toUInt32 >>> ((4 : Int32).toUInt32 &&& Int32.toUInt32 31)).toInt32)) &&& 252645135) + (((((((x0 - (((x0.toUInt32 >>> ((1 : Int32).toUInt32 &&& Int32.toUInt32 31)).toInt32) &&& 1431655765)) &&& 858993459) + ((((x0 - (((x0.toUInt32 >>> ((1 : Int32).toUInt32 &&& Int32.toUInt32 31)).toInt32) &&& 1431655765)).toUInt32 >>> ((2 : Int32).toUInt32 &&& Int32.toUInt32 31)).toInt32) &&& 858993459)) + (((((x0 - (((x0.toUInt32 >>> ((1 : Int32).toUInt32 &&& Int32.toUInt32 31)).toInt32) &&& 1431655765)) &&& 858993459) + ((((x0 - (((x0.toUInt32 >>> ((1 : Int32).toUInt32 &&& Int32.toUInt32 31)).toInt32) &&& 1431655765)).toUInt32 >>> ((2 : Int32).toUInt32 &&& Int32.toUInt32 31)).toInt32) &&& 858993459)).toUInt32 >>> ((4 : Int32).toUInt32 &&& Int32.toUInt32 31)).toInt32)) &&& 252645135).toUInt32 >>> ((8 : Int32).toUInt32 &&& Int32.toUInt32 31)).toInt32)) + ((((((((x0 - (((x0.toUInt32 >>> ((1 : Int32).toUInt32 &&& Int32.toUInt32 31)).toInt32) &&& 1431655765)) &&& 858993459) + ((((x0 - (((x0.toUInt32 >>> ((1 : Int32).toUInt32 &&& Int32.toUInt32 31)).toInt32) &&& 1431655765)).toUInt32 >>> ((2 : Int32).toUInt32 &&& Int32.toUInt32 31)).toInt32) &&& 858993459)) + (((((x0 - (((x0.toUInt32 >>> ((1 : Int32).toUInt32 &&& Int32.toUInt32 31)).toInt32) &&& 1431655765)) &&& 858993459) + ((((x0 - (((x0.toUInt32 >>> ((1 : Int32).toUInt32 &&& Int32.toUInt32 31)).toInt32) &&& 1431655765)).toUInt32 >>> ((2 : Int32).toUInt32 &&& Int32.toUInt32 31)).toInt32) &&& 858993459)).toUInt32 >>> ((4 : Int32).toUInt32 &&& Int32.toUInt32 31)).toInt32)) &&& 252645135) + (((((((x0 - (((x0.toUInt32 >>> ((1 : Int32).toUInt32 &&& Int32.toUInt32 31)).toInt32) &&& 1431655765)) &&& 858993459) + ((((x0 - (((x0.toUInt32 >>> ((1 : Int32).toUInt32 &&& Int32.toUInt32 31)).toInt32) &&& 1431655765)).toUInt32 >>> ((2 : Int32).toUInt32 &&& Int32.toUInt32 31)).toInt32) &&& 858993459)) + (((((x0 - (((x0.toUInt32 >>> ((1 : Int32).toUInt32 &&& Int32.toUInt32 31)).toInt32) &&& 1431655765)) &&& 858993459) + ((((x0 - (((x0.toUInt32 >>> ((1 : Int32).toUInt32 &&& Int32.toUInt32 31)).toInt32) &&& 1431655765)).toUInt32 >>> ((2 : Int32).toUInt32 &&& Int32.toUInt32 31)).toInt32) &&& 858993459)).toUInt32 >>> ((4 : Int32).toUInt32 &&& Int32.toUInt32 31)).toInt32)) &&& 252645135).toUInt32 >>> ((8 : Int32).toUInt32 &&& Int32.toUInt32 31)).toInt32)).toUInt32 >>> ((16 : Int32).toUInt32 &&& Int32.toUInt32 31)).toInt32)) &&& 63)]) (h' := hs σ) [(.iload_n 0, 1, 0, 0, 0, 0, 0, 0), (.iload_n 0, 1, 0, 0, 0, 0, 0, 0), (.iconst 1, 1, 0, 0, 0, 0, 1, 0), (.iushr, 1, 0, 0, 0, 0, 0, 0), (.ldc_w 265, 3, 0, 0, 0, 575, 1431655765, 0), (.iand, 1, 0, 0, 0, 0, 0, 0), (.isub, 1, 0, 0, 0, 0, 0, 0), (.istore_n 0, 1, 0, 0, 0, 0, 0, 0), (.iload_n 0, 1, 0, 0, 0, 0, 0, 0), (.ldc_w 266, 3, 0, 0, 0, 576, 858993459, 0), (.iand, 1, 0, 0, 0, 0, 0, 0), (.iload_n 0, 1, 0, 0, 0, 0, 0, 0), (.iconst 2, 1, 0, 0, 0, 0, 2, 0), (.iushr, 1, 0, 0, 0, 0, 0, 0), (.ldc_w 266, 3, 0, 0, 0, 576, 858993459, 0), (.iand, 1, 0, 0, 0, 0, 0, 0), (.iadd, 1, 0, 0, 0, 0, 0, 0), (.istore_n 0, 1, 0, 0, 0, 0, 0, 0), (.iload_n 0, 1, 0, 0, 0, 0, 0, 0), (.iload_n 0, 1, 0, 0, 0, 0, 0, 0), (.iconst 4, 1, 0, 0, 0, 0, 4, 0), (.iushr, 1, 0, 0, 0, 0, 0, 0), (.iadd, 1, 0, 0, 0, 0, 0, 0), (.ldc_w 267, 3, 0, 0, 0, 577, 252645135, 0), (.iand, 1, 0, 0, 0, 0, 0, 0), (.istore_n 0, 1, 0, 0, 0, 0, 0, 0), (.iload_n 0, 1, 0, 0, 0, 0, 0, 0), (.iload_n 0, 1, 0, 0, 0, 0, 0, 0), (.bipush 8, 2, 0, 0, 0, 0, 8, 0), (.iushr, 1, 0, 0, 0, 0, 0, 0), (.iadd, 1, 0, 0, 0, 0, 0, 0), (.istore_n 0, 1, 0, 0, 0, 0, 0, 0), (.iload_n 0, 1, 0, 0, 0, 0, 0, 0), (.iload_n 0, 1, 0, 0, 0, 0, 0, 0), (.bipush 16, 2, 0, 0, 0, 0, 16, 0), (.iushr, 1, 0, 0, 0, 0, 0, 0), (.iadd, 1, 0, 0, 0, 0, 0, 0), (.istore_n 0, 1, 0, 0, 0, 0, 0, 0), (.iload_n 0, 1, 0, 0, 0, 0, 0, 0), (.bipush 63, 2, 0, 0, 0, 0, 63, 0), (.iand, 1, 0, 0, 0, 0, 0, 0)] (by decide +kernel) rfl rfl ?_
  exact XA.ret (some (.int ((((((((x0 - (((x0.toUInt32 >>> ((1 : Int32).toUInt32 &&& Int32.toUInt32 31)).toInt32) &&& 1431655765)) &&& 858993459) + ((((x0 - (((x0.toUInt32 >>> ((1 : Int32).toUInt32 &&& Int32.toUInt32 31)).toInt32) &&& 1431655765)).toUInt32 >>> ((2 : Int32).toUInt32 &&& Int32.toUInt32 31)).toInt32) &&& 858993459)) + (((((x0 - (((x0.toUInt32 >>> ((1 : Int32).toUInt32 &&& Int32.toUInt32 31)).toInt32) &&& 1431655765)) &&& 858993459) + ((((x0 - (((x0.toUInt32 >>> ((1 : Int32).toUInt32 &&& Int32.toUInt32 31)).toInt32) &&& 1431655765)).toUInt32 >>> ((2 : Int32).toUInt32 &&& Int32.toUInt32 31)).toInt32) &&& 858993459)).toUInt32 >>> ((4 : Int32).toUInt32 &&& Int32.toUInt32 31)).toInt32)) &&& 252645135) + (((((((x0 - (((x0.toUInt32 >>> ((1 : Int32).toUInt32 &&& Int32.toUInt32 31)).toInt32) &&& 1431655765)) &&& 858993459) + ((((x0 - (((x0.toUInt32 >>> ((1 : Int32).toUInt32 &&& Int32.toUInt32 31)).toInt32) &&& 1431655765)).toUInt32 >>> ((2 : Int32).toUInt32 &&& Int32.toUInt32 31)).toInt32) &&& 858993459)) + (((((x0 - (((x0.toUInt32 >>> ((1 : Int32).toUInt32 &&& Int32.toUInt32 31)).toInt32) &&& 1431655765)) &&& 858993459) + ((((x0 - (((x0.toUInt32 >>> ((1 : Int32).toUInt32 &&& Int32.toUInt32 31)).toInt32) &&& 1431655765)).toUInt32 >>> ((2 : Int32).toUInt32 &&& Int32.toUInt32 31)).toInt32) &&& 858993459)).toUInt32 >>> ((4 : Int32).toUInt32 &&& Int32.toUInt32 31)).toInt32)) &&& 252645135).toUInt32 >>> ((8 : Int32).toUInt32 &&& Int32.toUInt32 31)).toInt32)) + ((((((((x0 - (((x0.toUInt32 >>> ((1 : Int32).toUInt32 &&& Int32.toUInt32 31)).toInt32) &&& 1431655765)) &&& 858993459) + ((((x0 - (((x0.toUInt32 >>> ((1 : Int32).toUInt32 &&& Int32.toUInt32 31)).toInt32) &&& 1431655765)).toUInt32 >>> ((2 : Int32).toUInt32 &&& Int32.toUInt32 31)).toInt32) &&& 858993459)) + (((((x0 - (((x0.toUInt32 >>> ((1 : Int32).toUInt32 &&& Int32.toUInt32 31)).toInt32) &&& 1431655765)) &&& 858993459) + ((((x0 - (((x0.toUInt32 >>> ((1 : Int32).toUInt32 &&& Int32.toUInt32 31)).toInt32) &&& 1431655765)).toUInt32 >>> ((2 : Int32).toUInt32 &&& Int32.toUInt32 31)).toInt32) &&& 858993459)).toUInt32 >>> ((4 : Int32).toUInt32 &&& Int32.toUInt32 31)).toInt32)) &&& 252645135) + (((((((x0 - (((x0.toUInt32 >>> ((1 : Int32).toUInt32 &&& Int32.toUInt32 31)).toInt32) &&& 1431655765)) &&& 858993459) + ((((x0 - (((x0.toUInt32 >>> ((1 : Int32).toUInt32 &&& Int32.toUInt32 31)).toInt32) &&& 1431655765)).toUInt32 >>> ((2 : Int32).toUInt32 &&& Int32.toUInt32 31)).toInt32) &&& 858993459)) + (((((x0 - (((x0.toUInt32 >>> ((1 : Int32).toUInt32 &&& Int32.toUInt32 31)).toInt32) &&& 1431655765)) &&& 858993459) + ((((x0 - (((x0.toUInt32 >>> ((1 : Int32).toUInt32 &&& Int32.toUInt32 31)).toInt32) &&& 1431655765)).toUInt32 >>> ((2 : Int32).toUInt32 &&& Int32.toUInt32 31)).toInt32) &&& 858993459)).toUInt32 >>> ((4 : Int32).toUInt32 &&& Int32.toUInt32 31)).toInt32)) &&& 252645135).toUInt32 >>> ((8 : Int32).toUInt32 &&& Int32.toUInt32 31)).toInt32)).toUInt32 >>> ((16 : Int32).toUInt32 &&& Int32.toUInt32 31)).toInt32)) &&& 63))) rfl (by decide +kernel) trivial (Nat.le_of_ble_eq_true rfl) (Nat.le_of_ble_eq_true rfl) ⟨_, _, rfl, rfl, H⟩
def K_X11_in_0 (scr : ScA)  (x0 : Int32) (x1 : Int32) (x2 : Int32) (σ : Nat → Nat → Int32) (P : Int32 → (Nat → Nat → Int32) → Prop) : Prop := XA scr 0 mX11_in 172 4705 0 [some (.int x0), some (.int x1), some (.int x2)] [] (hs σ) (pI P)
set_option maxRecDepth 20000 in
theorem W_X11_in_0 {scr : ScA}   {x0 : Int32} {x1 : Int32} {x2 : Int32} {σ : Nat → Nat → Int32} {P : Int32 → (Nat → Nat → Int32) → Prop} (H : ((if x0 < x1 then 0 else if x2 < x0 then 0 else 1) = 0 ∨ (if x0 < x1 then 0 else if x2 < x0 then 0 else 1) = 1) ∧ P (if x0 < x1 then 0 else if x2 < x0 then 0 else 1) σ) : K_X11_in_0 scr x0 x1 x2 σ P := by
  show XA scr 0 mX11_in 172 4705 0 [some (.int x0), some (.int x1), some (.int x2)] [] (hs σ) (pI P)
  refine XA.blk (e9 := 2) (ok := true) (ls' := [some (.int x0), some (.int x1), some (.int x2)]) (st' := [.int x1, .int x0]) (h' := hs σ) [(.iload_n 0, 1, 0, 0, 0, 0, 0, 0), (.iload_n 1, 1, 1, 0, 0, 0, 0, 0)] (by decide +kernel) rfl rfl ?_
  have hJ2 : XA scr 0 mX11_in 172 4705 15 [none, none, none] [.int (if x0 < x1 then 0 else if x2 < x0 then 0 else 1)] (hs σ) (pI P) := by
    exact XA.ret (some (.int (if x0 < x1 then 0 else if x2 < x0 then 0 else 1))) rfl (by decide +kernel) H.1 (Nat.le_of_ble_eq_true rfl) (Nat.le_of_ble_eq_true rfl) ⟨_, _, rfl, rfl, H.2⟩
  refine XA.icmp_lt (12) 14 (by decide +kernel) (fun c1 => ?_) (fun c1 => ?_)
  · refine XA.blk (e9 := 15) (ok := true) (ls' := [some (.int x0), some (.int x1), some (.int x2)]) (st' := [.int 0]) (h' := hs σ) [(.iconst 0, 1, 0, 0, 0, 0, 0, 0)] (by decide +kernel) rfl rfl ?_
    refine XA.drop (ls := [none, none, none]) (by simp [leL]) ?_
    simpa only [if_pos c1] using hJ2
  · refine XA.blk (e9 := 7) (ok := true) (ls' := [some (.int x0), some (.int x1), some (.int x2)]) (st' := [.int x2, .int x0]) (h' := hs σ) [(.iload_n 0, 1, 0, 0, 0, 0, 0, 0), (.iload_n 2, 1, 2, 0, 0, 0, 0, 0)] (by decide +kernel) rfl rfl ?_
    have hJ7 : XA scr 0 mX11_in 172 4705 15 [none, none, none] [.int (if x2 < x0 then 0 else 1)] (hs σ) (pI P) := by
      simpa only [if_neg c1] using hJ2
    refine XA.icmp_gt (7) 14 (by decide +kernel) (fun c2 => ?_) (fun c2 => ?_)
    · refine XA.blk (e9 := 15) (ok := true) (ls' := [some (.int x0), some (.int x1), some (.int x2)]) (st' := [.int 0]) (h' := hs σ) [(.iconst 0, 1, 0, 0, 0, 0, 0, 0)] (by decide +kernel) rfl rfl ?_
      refine XA.drop (ls := [none, none, none]) (by simp [leL]) ?_
      simpa only [if_pos c2] using hJ7
    · refine XA.blk (e9 := 15) (ok := true) (ls' := [some (.int x0), some (.int x1), some (.int x2)]) (st' := [.int 1]) (h' := hs σ) [(.iconst 1, 1, 0, 0, 0, 0, 1, 0), (.goto 4, 3, 15, 0, 0, 0, 0, 0)] (by decide +kernel) rfl rfl ?_
      refine XA.drop (ls := [none, none, none]) (by simp [leL]) ?_
      simpa only [if_neg c2] using hJ7
def K_X11_isIn_0 (scr : ScA)  (x0 : Int32) (x1 : Int32) (σ : Nat → Nat → Int32) (P : Int32 → (Nat → Nat → Int32) → Prop) : Prop := XA scr 0 mX11_isIn 172 4705 0 [some (.int x0), some (.int x1)] [] (hs σ) (pI P)
set_option maxRecDepth 20000 in
theorem W_X11_isIn_0 {scr : ScA}   {x0 : Int32} {x1 : Int32} {σ : Nat → Nat → Int32} {P : Int32 → (Nat → Nat → Int32) → Prop} (H : ((if ¬ ((x0 >>> (x1 &&& 31)) &&& 1) = 1 then 0 else 1) = 0 ∨ (if ¬ ((x0 >>> (x1 &&& 31)) &&& 1) = 1 then 0 else 1) = 1) ∧ P (if ¬ ((x0 >>> (x1 &&& 31)) &&& 1) = 1 then 0 else 1) σ) : K_X11_isIn_0 scr x0 x1 σ P := by
  show XA scr 0 mX11_isIn 172 4705 0 [some (.int x0), some (.int x1)] [] (hs σ) (pI P)
  refine XA.blk (e9 := 6) (ok := true) (ls' := [some (.int x0), some (.int x1)]) (st' := [.int 1, .int ((x0 >>> (x1 &&& 31)) &&& 1)]) (h' := hs σ) [(.iload_n 0, 1, 0, 0, 0, 0, 0, 0), (.iload_n 1, 1, 1, 0, 0, 0, 0, 0), (.ishr, 1, 0, 0, 0, 0, 0, 0), (.iconst 1, 1, 0, 0, 0, 0, 1, 0), (.iand, 1, 0, 0, 0, 0, 0, 0), (.iconst 1, 1, 0, 0, 0, 0, 1, 0)] (by decide +kernel) rfl rfl ?_
  have hJ6 : XA scr 0 mX11_isIn 172 4705 14 [none, none] [.int (if ¬ ((x0 >>> (x1 &&& 31)) &&& 1) = 1 then 0 else 1)] (hs σ) (pI P) := by
    exact XA.ret (some (.int (if ¬ ((x0 >>> (x1 &&& 31)) &&& 1) = 1 then 0 else 1))) rfl (by decide +kernel) H.1 (Nat.le_of_ble_eq_true rfl) (Nat.le_of_ble_eq_true rfl) ⟨_, _, rfl, rfl, H.2⟩
  refine XA.icmp_ne (7) 13 (by decide +kernel) (fun c1 => ?_) (fun c1 => ?_)
  · refine XA.blk (e9 := 14) (ok := true) (ls' := [some (.int x0), some (.int x1)]) (st' := [.int 0]) (h' := hs σ) [(.iconst 0, 1, 0, 0, 0, 0, 0, 0)] (by decide +kernel) rfl rfl ?_
    refine XA.drop (ls := [none, none]) (by simp [leL]) ?_
    simpa only [if_pos c1] using hJ6
  · refine XA.blk (e9 := 14) (ok := true) (ls' := [some (.int x0), some (.int x1)]) (st' := [.int 1]) (h' := hs σ) [(.iconst 1, 1, 0, 0, 0, 0, 1, 0), (.goto 4, 3, 14, 0, 0, 0, 0, 0)] (by decide +kernel) rfl rfl ?_
    refine XA.drop (ls := [none, none]) (by simp [leL]) ?_
    simpa only [if_neg (not_not_intro c1)] using hJ6
def K_X11_below_0 (scr : ScA)  (x0 : Int32) (σ : Nat → Nat → Int32) (P : Int32 → (Nat → Nat → Int32) → Prop) : Prop := XA scr 0 mX11_below 172 4705 0 [some (.int x0)] [] (hs σ) (pI P)
set_option maxRecDepth 20000 in
theorem W_X11_below_0 {scr : ScA}   {x0 : Int32} {σ : Nat → Nat → Int32} {P : Int32 → (Nat → Nat → Int32) → Prop} (H : P (if 7 ≤ x0 then if 9 ≤ x0 then 7 else x0 - 3 else x0 - 4) σ) : K_X11_below_0 scr x0 σ P := by
  show XA scr 0 mX11_below 172 4705 0 [some (.int x0)] [] (hs σ) (pI P)
  refine XA.blk (e9 := 3) (ok := true) (ls' := [some (.int x0)]) (st' := [.int 7, .int x0]) (h' := hs σ) [(.iload_n 0, 1, 0, 0, 0, 0, 0, 0), (.bipush 7, 2, 0, 0, 0, 0, 7, 0)] (by decide +kernel) rfl rfl ?_
  have hJ3 : XA scr 0 mX11_below 172 4705 26 [none] [.int (if 7 ≤ x0 then if 9 ≤ x0 then 7 else x0 - 3 else x0 - 4)] (hs σ) (pI P) := by
    exact XA.ret (some (.int (if 7 ≤ x0 then if 9 ≤ x0 then 7 else x0 - 3 else x0 - 4))) rfl (by decide +kernel) trivial (Nat.le_of_ble_eq_true rfl) (Nat.le_of_ble_eq_true rfl) ⟨_, _, rfl, rfl, H⟩
  refine XA.icmp_ge (9) 12 (by decide +kernel) (fun c1 => ?_) (fun c1 => ?_)
  · refine XA.blk (e9 := 15) (ok := true) (ls' := [some (.int x0)]) (st' := [.int 9, .int x0]) (h' := hs σ) [(.iload_n 0, 1, 0, 0, 0, 0, 0, 0), (.bipush 9, 2, 0, 0, 0, 0, 9, 0)] (by decide +kernel) rfl rfl ?_
    have hJ15 : XA scr 0 mX11_below 172 4705 26 [none] [.int (if 9 ≤ x0 then 7 else x0 - 3)] (hs σ) (pI P) := by
      simpa only [if_pos c1] using hJ3
    refine XA.icmp_ge (9) 24 (by decide +kernel) (fun c2 => ?_) (fun c2 => ?_)
    · refine XA.blk (e9 := 26) (ok := true) (ls' := [some (.int x0)]) (st' := [.int 7]) (h' := hs σ) [(.bipush 7, 2, 0, 0, 0, 0, 7, 0)] (by decide +kernel) rfl rfl ?_
      refine XA.drop (ls := [none]) (by simp [leL]) ?_
      simpa only [if_pos c2] using hJ15
    · refine XA.blk (e9 := 26) (ok := true) (ls' := [some (.int x0)]) (st' := [.int (x0 - 3)]) (h' := hs σ) [(.iload_n 0, 1, 0, 0, 0, 0, 0, 0), (.iconst 3, 1, 0, 0, 0, 0, 3, 0), (.isub, 1, 0, 0, 0, 0, 0, 0), (.goto 5, 3, 26, 0, 0, 0, 0, 0)] (by decide +kernel) rfl rfl ?_
      refine XA.drop (ls := [none]) (by simp [leL]) ?_
      simpa only [if_neg c2] using hJ15
  · refine XA.blk (e9 := 26) (ok := true) (ls' := [some (.int x0)]) (st' := [.int (x0 - 4)]) (h' := hs σ) [(.iload_n 0, 1, 0, 0, 0, 0, 0, 0), (.iconst 4, 1, 0, 0, 0, 0, 4, 0), (.isub, 1, 0, 0, 0, 0, 0, 0), (.goto 17, 3, 26, 0, 0, 0, 0, 0)] (by decide +kernel) rfl rfl ?_
    refine XA.drop (ls := [none]) (by simp [leL]) ?_
    simpa only [if_neg c1] using hJ3
def K_X0_part_0 (scr : ScA) (k : Nat) (x1 : Int32) (σ : Nat → Nat → Int32) (P : Int32 → (Nat → Nat → Int32) → Prop) : Prop := XA scr 0 mX0_part 172 4705 0 [some (.ref k), some (.int x1)] [] (hs σ) (pI P)
set_option maxRecDepth 20000 in
theorem W_X0_part_0 {scr : ScA} {k : Nat} (hk : isBe k) {x1 : Int32} {σ : Nat → Nat → Int32} {P : Int32 → (Nat → Nat → Int32) → Prop} (H : (x1 = 0 → P (σ k 0) σ) ∧ (x1 = 1 → P (σ k 1) σ) ∧ (¬ x1 = 0 → ¬ x1 = 1 → P (σ k 2) σ)) : K_X0_part_0 scr k x1 σ P := by
  show XA scr 0 mX0_part 172 4705 0 [some (.ref k), some (.int x1)] [] (hs σ) (pI P)
  refine XA.blk (e9 := 1) (ok := true) (ls' := [some (.ref k), some (.int x1)]) (st' := [.int x1]) (h' := hs σ) [(.iload_n 1, 1, 1, 0, 0, 0, 0, 0)] (by decide +kernel) rfl rfl ?_
  refine XA.lsw (37) [(0, 27), (1, 32)] 27 [(0, 28), (1, 33)] 38 (by decide +kernel) (fun q9 hq9 e9 => ?_) (fun e9 => ?_)
  · simp only [List.mem_cons, List.not_mem_nil, or_false] at hq9
    rcases hq9 with rfl | rfl
    · have H := H.1 e9
      refine XA.blk (e9 := 32) (ok := kO 172 S0 k 0 && (true)) (ls' := [some (.ref k), some (.int x1)]) (st' := [.int (σ k 0)]) (h' := hs σ) [(.aload_n 0, 1, 0, 0, 0, 0, 0, 0), (.getfield 9, 3, 0, 0, 0, 277, 0, 0)] (by decide +kernel) rfl (by simp only [beO hk, Bool.and_true, Bool.true_and]) ?_
      exact XA.ret (some (.int (σ k 0))) rfl (by decide +kernel) trivial (Nat.le_of_ble_eq_true rfl) (Nat.le_of_ble_eq_true rfl) ⟨_, _, rfl, rfl, H⟩
    · have H := H.2.1 e9
      refine XA.blk (e9 := 37) (ok := kO 172 S0 k 0 && (true)) (ls' := [some (.ref k), some (.int x1)]) (st' := [.int (σ k 1)]) (h' := hs σ) [(.aload_n 0, 1, 0, 0, 0, 0, 0, 0), (.getfield 15, 3, 0, 1, 0, 279, 0, 0)] (by decide +kernel) rfl (by simp only [beO hk, Bool.and_true, Bool.true_and]) ?_
      exact XA.ret (some (.int (σ k 1))) rfl (by decide +kernel) trivial (Nat.le_of_ble_eq_true rfl) (Nat.le_of_ble_eq_true rfl) ⟨_, _, rfl, rfl, H⟩
  · have H := H.2.2 (e9 (0, 28) (by simp)) (e9 (1, 33) (by simp))
    refine XA.blk (e9 := 42) (ok := kO 172 S0 k 0 && (true)) (ls' := [some (.ref k), some (.int x1)]) (st' := [.int (σ k 2)]) (h' := hs σ) [(.aload_n 0, 1, 0, 0, 0, 0, 0, 0), (.getfield 18, 3, 0, 2, 0, 280, 0, 0)] (by decide +kernel) rfl (by simp only [beO hk, Bool.and_true, Bool.true_and]) ?_
    exact XA.ret (some (.int (σ k 2))) rfl (by decide +kernel) trivial (Nat.le_of_ble_eq_true rfl) (Nat.le_of_ble_eq_true rfl) ⟨_, _, rfl, rfl, H⟩
def K_X0_offer_0 (scr : ScA) (k : Nat) (x1 : Int32) (x2 : Int32) (x3 : Int32) (σ : Nat → Nat → Int32) (P : (Nat → Nat → Int32) → Prop) : Prop := XA scr 0 mX0_offer 172 4705 0 [some (.ref k), some (.int x1), some (.int x2), some (.int x3)] [] (hs σ) (pV P)
set_option maxRecDepth 20000 in
theorem W_X0_offer_0 {scr : ScA} {k : Nat} (hk : isBe k) {x1 : Int32} {x2 : Int32} {x3 : Int32} {σ : Nat → Nat → Int32} {P : (Nat → Nat → Int32) → Prop} (H : ∀ σ4, σ4 = if x3 ≤ (σ k 2) then σ else (su (su (su σ k 0 x1) k 1 x2) k 2 x3) → P σ4) : K_X0_offer_0 scr k x1 x2 x3 σ P := by
  show XA scr 0 mX0_offer 172 4705 0 [some (.ref k), some (.int x1), some (.int x2), some (.int x3)] [] (hs σ) (pV P)
  refine XA.blk (e9 := 5) (ok := kO 172 S0 k 0 && (true)) (ls' := [some (.ref k), some (.int x1), some (.int x2), some (.int x3)]) (st' := [.int (σ k 2), .int x3]) (h' := hs σ) [(.iload_n 3, 1, 3, 0, 0, 0, 0, 0), (.aload_n 0, 1, 0, 0, 0, 0, 0, 0), (.getfield 18, 3, 0, 2, 0, 280, 0, 0)] (by decide +kernel) rfl (by simp only [beO hk, Bool.and_true, Bool.true_and]) ?_
  have hJ5 : XA scr 0 mX0_offer 172 4705 23 [none, none, none, none] [] (hs (if x3 ≤ (σ k 2) then σ else (su (su (su σ k 0 x1) k 1 x2) k 2 x3))) (pV P) := by
    obtain ⟨σ4, hσ4⟩ : ∃ s9, s9 = if x3 ≤ (σ k 2) then σ else (su (su (su σ k 0 x1) k 1 x2) k 2 x3) := ⟨_, rfl⟩
    rw [← hσ4]
    have H := H σ4 hσ4
    exact XA.ret none rfl (by decide +kernel) trivial (Nat.le_of_ble_eq_true rfl) (Nat.le_of_ble_eq_true rfl) ⟨_, rfl, rfl, H⟩
  refine XA.icmp_le (18) 23 (by decide +kernel) (fun c1 => ?_) (fun c1 => ?_)
  · refine XA.drop (ls := [none, none, none, none]) (by simp [leL]) ?_
    simpa only [if_pos c1] using hJ5
  · refine XA.blk (e9 := 13) (ok := kO 172 S0 k 0 && (true)) (ls' := [some (.ref k), some (.int x1), some (.int x2), some (.int x3)]) (st' := []) (h' := hs (su σ k 0 x1)) [(.aload_n 0, 1, 0, 0, 0, 0, 0, 0), (.iload_n 1, 1, 1, 0, 0, 0, 0, 0), (.putfield 9, 3, 0, 0, 0, 277, 0, 0)] (by decide +kernel) rfl (by simp only [beO hk, Bool.and_true, Bool.true_and]) ?_
    obtain ⟨σ1, hσ1⟩ : ∃ s9, s9 = su σ k 0 x1 := ⟨_, rfl⟩
    rw [← hσ1]
    refine XA.blk (e9 := 18) (ok := kO 172 S0 k 0 && (true)) (ls' := [some (.ref k), some (.int x1), some (.int x2), some (.int x3)]) (st' := []) (h' := hs (su σ1 k 1 x2)) [(.aload_n 0, 1, 0, 0, 0, 0, 0, 0), (.iload_n 2, 1, 2, 0, 0, 0, 0, 0), (.putfield 15, 3, 0, 1, 0, 279, 0, 0)] (by decide +kernel) rfl (by simp only [beO hk, Bool.and_true, Bool.true_and]) ?_
    obtain ⟨σ2, hσ2⟩ : ∃ s9, s9 = su σ1 k 1 x2 := ⟨_, rfl⟩
    rw [← hσ2]
    refine XA.blk (e9 := 23) (ok := kO 172 S0 k 0 && (true)) (ls' := [some (.ref k), some (.int x1), some (.int x2), some (.int x3)]) (st' := []) (h' := hs (su σ2 k 2 x3)) [(.aload_n 0, 1, 0, 0, 0, 0, 0, 0), (.iload_n 3, 1, 3, 0, 0, 0, 0, 0), (.putfield 18, 3, 0, 2, 0, 280, 0, 0)] (by decide +kernel) rfl (by simp only [beO hk, Bool.and_true, Bool.true_and]) ?_
    obtain ⟨σ3, hσ3⟩ : ∃ s9, s9 = su σ2 k 2 x3 := ⟨_, rfl⟩
    rw [← hσ3]
    subst hσ3
    subst hσ2
    subst hσ1
    refine XA.drop (ls := _) ?_ (by simpa only [if_neg c1] using hJ5)
    simp [leL]
def K_X0_begin_0 (scr : ScA) (k : Nat)  (σ : Nat → Nat → Int32) (P : (Nat → Nat → Int32) → Prop) : Prop := XA scr 0 mX0_begin 172 4705 0 [some (.ref k)] [] (hs σ) (pV P)
set_option maxRecDepth 20000 in
theorem W_X0_begin_0 {scr : ScA} {k : Nat} (hk : isBe k)  {σ : Nat → Nat → Int32} {P : (Nat → Nat → Int32) → Prop} (H : ∀ σ1, σ1 = su σ k 0 (-1) → ∀ σ2, σ2 = su σ1 k 1 (-1) → ∀ σ3, σ3 = su σ2 k 2 (-1) → ∀ σ4, σ4 = su σ3 k 3 1 → P σ4) : K_X0_begin_0 scr k σ P := by
  show XA scr 0 mX0_begin 172 4705 0 [some (.ref k)] [] (hs σ) (pV P)
  refine XA.blk (e9 := 5) (ok := kO 172 S0 k 0 && (true)) (ls' := [some (.ref k)]) (st' := []) (h' := hs (su σ k 0 (-1))) [(.aload_n 0, 1, 0, 0, 0, 0, 0, 0), (.iconst (-1), 1, 0, 0, 0, 0, (-1), 0), (.putfield 9, 3, 0, 0, 0, 277, 0, 0)] (by decide +kernel) rfl (by simp only [beO hk, Bool.and_true, Bool.true_and]) ?_
  obtain ⟨σ1, hσ1⟩ : ∃ s9, s9 = su σ k 0 (-1) := ⟨_, rfl⟩
  rw [← hσ1]
  have H := H σ1 hσ1
  refine XA.blk (e9 := 10) (ok := kO 172 S0 k 0 && (true)) (ls' := [some (.ref k)]) (st' := []) (h' := hs (su σ1 k 1 (-1))) [(.aload_n 0, 1, 0, 0, 0, 0, 0, 0), (.iconst (-1), 1, 0, 0, 0, 0, (-1), 0), (.putfield 15, 3, 0, 1, 0, 279, 0, 0)] (by decide +kernel) rfl (by simp only [beO hk, Bool.and_true, Bool.true_and]) ?_
  obtain ⟨σ2, hσ2⟩ : ∃ s9, s9 = su σ1 k 1 (-1) := ⟨_, rfl⟩
  rw [← hσ2]
  have H := H σ2 hσ2
  refine XA.blk (e9 := 15) (ok := kO 172 S0 k 0 && (true)) (ls' := [some (.ref k)]) (st' := []) (h' := hs (su σ2 k 2 (-1))) [(.aload_n 0, 1, 0, 0, 0, 0, 0, 0), (.iconst (-1), 1, 0, 0, 0, 0, (-1), 0), (.putfield 18, 3, 0, 2, 0, 280, 0, 0)] (by decide +kernel) rfl (by simp only [beO hk, Bool.and_true, Bool.true_and]) ?_
  obtain ⟨σ3, hσ3⟩ : ∃ s9, s9 = su σ2 k 2 (-1) := ⟨_, rfl⟩
  rw [← hσ3]
  have H := H σ3 hσ3
  refine XA.blk (e9 := 20) (ok := (kO 172 S0 k 0 && true) && (true)) (ls' := [some (.ref k)]) (st' := []) (h' := hs (su σ3 k 3 1)) [(.aload_n 0, 1, 0, 0, 0, 0, 0, 0), (.iconst 1, 1, 0, 0, 0, 0, 1, 0), (.putfield 21, 3, 0, 3, 2, 283, 0, 0)] (by decide +kernel) rfl (by simp only [beO hk, Bool.and_true, Bool.true_and]) ?_
  obtain ⟨σ4, hσ4⟩ : ∃ s9, s9 = su σ3 k 3 1 := ⟨_, rfl⟩
  rw [← hσ4]
  have H := H σ4 hσ4
  exact XA.ret none rfl (by decide +kernel) trivial (Nat.le_of_ble_eq_true rfl) (Nat.le_of_ble_eq_true rfl) ⟨_, rfl, rfl, H⟩
