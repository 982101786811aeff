def K_X10_chance_0 (scr : ScA)  (x1 : Int32) (x2 : Int32) (x3 : Int32) (σ : Nat → Nat → Int32) (P : Int64 → (Nat → Nat → Int32) → Prop) : Prop := XA scr 6 mX10_chance 172 4705 0 [some (.ref 0), some (.int x1), some (.int x2), some (.int x3), none, none, none, none, none] [] (hs σ) (pJ P)
def K_X10_chance_47 (scr : ScA)  (x3 : Int32) (y0 : Int64) (σ : Nat → Nat → Int32) (P : Int64 → (Nat → Nat → Int32) → Prop) : Prop := XA scr 6 mX10_chance 172 4705 47 [some (.ref 0), none, none, some (.int x3), none, none, none, none, none] [.long y0] (hs σ) (pJ P)
def K_X10_chance_65 (scr : ScA)  (x3 : Int32) (x4 : Int64) (x6 : Int64) (x8 : Int32) (σ : Nat → Nat → Int32) (P : Int64 → (Nat → Nat → Int32) → Prop) : Prop := XA scr 6 mX10_chance 172 4705 65 [none, none, none, some (.int x3), some (.long x4), none, some (.long x6), none, some (.int x8)] [] (hs σ) (pJ P)
set_option maxRecDepth 20000 in
theorem W_X10_chance_0 {scr : ScA}   {x1 : Int32} {x2 : Int32} {x3 : Int32}  {σ : Nat → Nat → Int32} {P : Int64 → (Nat → Nat → Int32) → Prop} (H : ((isW x1 17) = 0 → P (-9223372036854775806) σ) ∧ (¬ (isW x1 17) = 0 → ((isW x2 24) = 0 → P (-9223372036854775806) σ) ∧ (¬ (isW x2 24) = 0 → (¬ (isW x3 2) = 0 → ClA scr 5 mX9_chanceAbove [.ref 106, .ref 3, .ref 10, .int x1, .int x2] σ (fun r9 σ' => K_X10_chance_47 scr x3 r9 σ' P)) ∧ ((isW x3 2) = 0 → P (-9223372036854775806) σ)))) : K_X10_chance_0 scr x1 x2 x3 σ P := by
  show XA scr 6 mX10_chance 172 4705 0 [some (.ref 0), some (.int x1), some (.int x2), some (.int x3), none, none, none, none, none] [] (hs σ) (pJ P)
  refine XA.blk (e9 := 3) (ok := true) (ls' := [some (.ref 0), some (.int x1), some (.int x2), some (.int x3), none, none, none, none, none]) (st' := [.int 17, .int x1]) (h' := hs σ) [(.iload_n 1, 1, 1, 0, 0, 0, 0, 0), (.bipush 17, 2, 0, 0, 0, 0, 17, 0)] (by decide +kernel) rfl rfl ?_
  refine XA.callS (as := [.int x1, .int 17]) (rest := []) (mc' := 0) (ms' := 0) (idx := 84) (t := 445) cs_X10_isWithin (by decide +kernel) rfl rfl (Nat.le_of_ble_eq_true rfl) (Nat.le_of_ble_eq_true rfl) (Nat.le_of_ble_eq_true rfl) (Nat.le_of_ble_eq_true rfl) (pu_X10_isWithin scr σ x1 17) (fun rv h' hp => ?_)
  obtain ⟨rfl, rfl⟩ := hp
  refine ⟨rfl, rfl, ?_⟩
  show XA scr 6 mX10_chance 172 4705 6 [some (.ref 0), some (.int x1), some (.int x2), some (.int x3), none, none, none, none, none] [.int (isW x1 17)] (hs σ) (pJ P)
  refine XA.if_eq (20) 26 (by decide +kernel) (fun c1 => ?_) (fun c1 => ?_)
  · have H := H.1 c1
    refine XA.blk (e9 := 29) (ok := true) (ls' := [some (.ref 0), some (.int x1), some (.int x2), some (.int x3), none, none, none, none, none]) (st' := [.long (-9223372036854775806)]) (h' := hs σ) [(.ldc2_w 224, 3, 0, 0, 0, 779, 0, (-9223372036854775806))] (by decide +kernel) rfl rfl ?_
    exact XA.ret (some (.long (-9223372036854775806))) rfl (show ckRt mX10_chance 29 .lreturn = true by decide +kernel) trivial (Nat.le_of_ble_eq_true rfl) (Nat.le_of_ble_eq_true rfl) ⟨_, _, rfl, rfl, H⟩
  · have H := H.2 c1
    refine XA.blk (e9 := 12) (ok := true) (ls' := [some (.ref 0), some (.int x1), some (.int x2), some (.int x3), none, none, none, none, none]) (st' := [.int 24, .int x2]) (h' := hs σ) [(.iload_n 2, 1, 2, 0, 0, 0, 0, 0), (.bipush 24, 2, 0, 0, 0, 0, 24, 0)] (by decide +kernel) rfl rfl ?_
    refine XA.callS (as := [.int x2, .int 24]) (rest := []) (mc' := 0) (ms' := 0) (idx := 84) (t := 445) cs_X10_isWithin (by decide +kernel) rfl rfl (Nat.le_of_ble_eq_true rfl) (Nat.le_of_ble_eq_true rfl) (Nat.le_of_ble_eq_true rfl) (Nat.le_of_ble_eq_true rfl) (pu_X10_isWithin scr σ x2 24) (fun rv h' hp => ?_)
    obtain ⟨rfl, rfl⟩ := hp
    refine ⟨rfl, rfl, ?_⟩
    show XA scr 6 mX10_chance 172 4705 15 [some (.ref 0), some (.int x1), some (.int x2), some (.int x3), none, none, none, none, none] [.int (isW x2 24)] (hs σ) (pJ P)
    refine XA.if_eq (11) 26 (by decide +kernel) (fun c2 => ?_) (fun c2 => ?_)
    · have H := H.1 c2
      refine XA.blk (e9 := 29) (ok := true) (ls' := [some (.ref 0), some (.int x1), some (.int x2), some (.int x3), none, none, none, none, none]) (st' := [.long (-9223372036854775806)]) (h' := hs σ) [(.ldc2_w 224, 3, 0, 0, 0, 779, 0, (-9223372036854775806))] (by decide +kernel) rfl rfl ?_
      exact XA.ret (some (.long (-9223372036854775806))) rfl (show ckRt mX10_chance 29 .lreturn = true by decide +kernel) trivial (Nat.le_of_ble_eq_true rfl) (Nat.le_of_ble_eq_true rfl) ⟨_, _, rfl, rfl, H⟩
    · have H := H.2 c2
      refine XA.blk (e9 := 20) (ok := true) (ls' := [some (.ref 0), some (.int x1), some (.int x2), some (.int x3), none, none, none, none, none]) (st' := [.int 2, .int x3]) (h' := hs σ) [(.iload_n 3, 1, 3, 0, 0, 0, 0, 0), (.iconst 2, 1, 0, 0, 0, 0, 2, 0)] (by decide +kernel) rfl rfl ?_
      refine XA.callS (as := [.int x3, .int 2]) (rest := []) (mc' := 0) (ms' := 0) (idx := 84) (t := 445) cs_X10_isWithin (by decide +kernel) rfl rfl (Nat.le_of_ble_eq_true rfl) (Nat.le_of_ble_eq_true rfl) (Nat.le_of_ble_eq_true rfl) (Nat.le_of_ble_eq_true rfl) (pu_X10_isWithin scr σ x3 2) (fun rv h' hp => ?_)
      obtain ⟨rfl, rfl⟩ := hp
      refine ⟨rfl, rfl, ?_⟩
      show XA scr 6 mX10_chance 172 4705 23 [some (.ref 0), some (.int x1), some (.int x2), some (.int x3), none, none, none, none, none] [.int (isW x3 2)] (hs σ) (pJ P)
      refine XA.if_ne (7) 30 (by decide +kernel) (fun c3 => ?_) (fun c3 => ?_)
      · have H := H.1 c3
        refine XA.blk (e9 := 44) (ok := true) (ls' := [some (.ref 0), some (.int x1), some (.int x2), some (.int x3), none, none, none, none, none]) (st' := [.int x2, .int x1, .ref 10, .ref 3, .ref 106]) (h' := hs σ) [(.aload_n 0, 1, 0, 0, 0, 0, 0, 0), (.getfield 63, 3, 10, 7, 107, 405, 0, 0), (.aload_n 0, 1, 0, 0, 0, 0, 0, 0), (.getfield 19, 3, 10, 1, 4, 399, 0, 0), (.aload_n 0, 1, 0, 0, 0, 0, 0, 0), (.getfield 26, 3, 10, 2, 11, 400, 0, 0), (.iload_n 1, 1, 1, 0, 0, 0, 0, 0), (.iload_n 2, 1, 2, 0, 0, 0, 0, 0)] (by decide +kernel) rfl rfl ?_
        refine XA.callV (as := [.ref 3, .ref 10, .int x1, .int x2]) (rest := []) (mc' := 0) (ms' := 0) (idx := 226) (t := 780) cv_X9_chanceAbove (by decide +kernel) rfl rfl rfl (Nat.le_of_ble_eq_true rfl) (Nat.le_of_ble_eq_true rfl) (Nat.le_of_ble_eq_true rfl) (Nat.le_of_ble_eq_true rfl) (H) (fun rv h' hp => ?_)
        obtain ⟨r9, s9, rfl, rfl, hK⟩ := hp
        exact ⟨rfl, rfl, XA.drop (by simp [leL]) hK⟩
      · have H := H.2 c3
        refine XA.blk (e9 := 29) (ok := true) (ls' := [some (.ref 0), some (.int x1), some (.int x2), some (.int x3), none, none, none, none, none]) (st' := [.long (-9223372036854775806)]) (h' := hs σ) [(.ldc2_w 224, 3, 0, 0, 0, 779, 0, (-9223372036854775806))] (by decide +kernel) rfl rfl ?_
        exact XA.ret (some (.long (-9223372036854775806))) rfl (show ckRt mX10_chance 29 .lreturn = true by decide +kernel) trivial (Nat.le_of_ble_eq_true rfl) (Nat.le_of_ble_eq_true rfl) ⟨_, _, rfl, rfl, H⟩
set_option maxRecDepth 20000 in
theorem W_X10_chance_47 {scr : ScA}   {x3 : Int32} {y0 : Int64}  {σ : Nat → Nat → Int32} {P : Int64 → (Nat → Nat → Int32) → Prop} (H : K_X10_chance_65 scr x3 y0 ((1 : Int64) <<< ((Int32.toInt64 (4 * (σ 10 3))) &&& 63)) 0 σ P) : K_X10_chance_47 scr x3 y0 σ P := by
  show XA scr 6 mX10_chance 172 4705 47 [some (.ref 0), none, none, some (.int x3), none, none, none, none, none] [.long y0] (hs σ) (pJ P)
  refine XA.blk (e9 := 65) (ok := true) (ls' := [some (.ref 0), none, none, some (.int x3), some (.long y0), none, some (.long ((1 : Int64) <<< ((Int32.toInt64 (4 * (σ 10 3))) &&& 63))), none, some (.int 0)]) (st' := []) (h' := hs σ) [(.lstore 4, 2, 4, 0, 0, 0, 0, 0), (.lconst 1, 1, 0, 0, 0, 0, 0, 1), (.iconst 4, 1, 0, 0, 0, 0, 4, 0), (.aload_n 0, 1, 0, 0, 0, 0, 0, 0), (.getfield 26, 3, 10, 2, 11, 400, 0, 0), (.getfield 117, 3, 1, 3, 0, 175, 0, 0), (.imul, 1, 0, 0, 0, 0, 0, 0), (.lshl, 1, 0, 0, 0, 0, 0, 0), (.lstore 6, 2, 6, 0, 0, 0, 0, 0), (.iconst 0, 1, 0, 0, 0, 0, 0, 0), (.istore 8, 2, 8, 0, 0, 0, 0, 0)] (by decide +kernel) rfl rfl ?_
  exact XA.drop (by simp [leL]) H
set_option maxRecDepth 20000 in
theorem W_X10_chance_65 {scr : ScA}   {x3 : Int32} {x4 : Int64} {x6 : Int64} {x8 : Int32}  {σ : Nat → Nat → Int32} {P : Int64 → (Nat → Nat → Int32) → Prop} (H : (32 ≤ x8 → P (if ¬ x3 = 0 then x6 else x4 : Int64) σ) ∧ (¬ 32 ≤ x8 → (¬ (lg_cmp (x4 - x4 / 2 * 2) 0) = 0 → P (if ¬ x3 = 0 then x6 else x4 : Int64) σ) ∧ ((lg_cmp (x4 - x4 / 2 * 2) 0) = 0 → (¬ (lg_cmp (x6 - x6 / 2 * 2) 0) = 0 → P (if ¬ x3 = 0 then x6 else x4 : Int64) σ) ∧ ((lg_cmp (x6 - x6 / 2 * 2) 0) = 0 → K_X10_chance_65 scr x3 (x4 / 2) (x6 / 2) (x8 + 1) σ P)))) : K_X10_chance_65 scr x3 x4 x6 x8 σ P := by
  show XA scr 6 mX10_chance 172 4705 65 [none, none, none, some (.int x3), some (.long x4), none, some (.long x6), none, some (.int x8)] [] (hs σ) (pJ P)
  refine XA.blk (e9 := 69) (ok := true) (ls' := [none, none, none, some (.int x3), some (.long x4), none, some (.long x6), none, some (.int x8)]) (st' := [.int 32, .int x8]) (h' := hs σ) [(.iload 8, 2, 8, 0, 0, 0, 0, 0), (.bipush 32, 2, 0, 0, 0, 0, 32, 0)] (by decide +kernel) rfl rfl ?_
  refine XA.icmp_ge (47) 116 (by decide +kernel) (fun c1 => ?_) (fun c1 => ?_)
  · have H := H.1 c1
    refine XA.blk (e9 := 117) (ok := true) (ls' := [none, none, none, some (.int x3), some (.long x4), none, some (.long x6), none, some (.int x8)]) (st' := [.int x3]) (h' := hs σ) [(.iload_n 3, 1, 3, 0, 0, 0, 0, 0)] (by decide +kernel) rfl rfl ?_
    have hJ117 : XA scr 6 mX10_chance 172 4705 127 [none, none, none, none, none, none, none, none, none] [.long (if ¬ x3 = 0 then x6 else x4 : Int64)] (hs σ) (pJ P) := by
      exact XA.ret (some (.long (if ¬ x3 = 0 then x6 else x4 : Int64))) rfl (show ckRt mX10_chance 127 .lreturn = true by decide +kernel) trivial (Nat.le_of_ble_eq_true rfl) (Nat.le_of_ble_eq_true rfl) ⟨_, _, rfl, rfl, H⟩
    refine XA.if_ne (8) 125 (by decide +kernel) (fun c2 => ?_) (fun c2 => ?_)
    · refine XA.blk (e9 := 127) (ok := true) (ls' := [none, none, none, some (.int x3), some (.long x4), none, some (.long x6), none, some (.int x8)]) (st' := [.long x6]) (h' := hs σ) [(.lload 6, 2, 6, 0, 0, 0, 0, 0)] (by decide +kernel) rfl rfl ?_
      refine XA.drop (ls := [none, none, none, none, none, none, none, none, none]) (by simp [leL]) ?_
      simpa only [if_pos c2] using hJ117
    · refine XA.blk (e9 := 127) (ok := true) (ls' := [none, none, none, some (.int x3), some (.long x4), none, some (.long x6), none, some (.int x8)]) (st' := [.long x4]) (h' := hs σ) [(.lload 4, 2, 4, 0, 0, 0, 0, 0), (.goto 5, 3, 127, 0, 0, 0, 0, 0)] (by decide +kernel) rfl rfl ?_
      refine XA.drop (ls := [none, none, none, none, none, none, none, none, none]) (by simp [leL]) ?_
      simpa only [if_neg (not_not_intro c2)] using hJ117
  · have H := H.2 c1
    refine XA.blk (e9 := 80) (ok := true) (ls' := [none, none, none, some (.int x3), some (.long x4), none, some (.long x6), none, some (.int x8)]) (st' := [.int (lg_cmp (x4 - x4 / 2 * 2) 0)]) (h' := hs σ) [(.lload 4, 2, 4, 0, 0, 0, 0, 0), (.ldc2_w 230, 3, 0, 0, 0, 788, 0, 2), (.lrem, 1, 0, 0, 0, 0, 0, 0), (.lconst 0, 1, 0, 0, 0, 0, 0, 0), (.lcmp, 1, 0, 0, 0, 0, 0, 0)] (by decide +kernel) rfl rfl ?_
    refine XA.if_ne (36) 116 (by decide +kernel) (fun c2 => ?_) (fun c2 => ?_)
    · have H := H.1 c2
      refine XA.blk (e9 := 117) (ok := true) (ls' := [none, none, none, some (.int x3), some (.long x4), none, some (.long x6), none, some (.int x8)]) (st' := [.int x3]) (h' := hs σ) [(.iload_n 3, 1, 3, 0, 0, 0, 0, 0)] (by decide +kernel) rfl rfl ?_
      have hJ117 : XA scr 6 mX10_chance 172 4705 127 [none, none, none, none, none, none, none, none, none] [.long (if ¬ x3 = 0 then x6 else x4 : Int64)] (hs σ) (pJ P) := by
        exact XA.ret (some (.long (if ¬ x3 = 0 then x6 else x4 : Int64))) rfl (show ckRt mX10_chance 127 .lreturn = true by decide +kernel) trivial (Nat.le_of_ble_eq_true rfl) (Nat.le_of_ble_eq_true rfl) ⟨_, _, rfl, rfl, H⟩
      refine XA.if_ne (8) 125 (by decide +kernel) (fun c3 => ?_) (fun c3 => ?_)
      · refine XA.blk (e9 := 127) (ok := true) (ls' := [none, none, none, some (.int x3), some (.long x4), none, some (.long x6), none, some (.int x8)]) (st' := [.long x6]) (h' := hs σ) [(.lload 6, 2, 6, 0, 0, 0, 0, 0)] (by decide +kernel) rfl rfl ?_
        refine XA.drop (ls := [none, none, none, none, none, none, none, none, none]) (by simp [leL]) ?_
        simpa only [if_pos c3] using hJ117
      · refine XA.blk (e9 := 127) (ok := true) (ls' := [none, none, none, some (.int x3), some (.long x4), none, some (.long x6), none, some (.int x8)]) (st' := [.long x4]) (h' := hs σ) [(.lload 4, 2, 4, 0, 0, 0, 0, 0), (.goto 5, 3, 127, 0, 0, 0, 0, 0)] (by decide +kernel) rfl rfl ?_
        refine XA.drop (ls := [none, none, none, none, none, none, none, none, none]) (by simp [leL]) ?_
        simpa only [if_neg (not_not_intro c3)] using hJ117
    · have H := H.2 c2
      refine XA.blk (e9 := 91) (ok := true) (ls' := [none, none, none, some (.int x3), some (.long x4), none, some (.long x6), none, some (.int x8)]) (st' := [.int (lg_cmp (x6 - x6 / 2 * 2) 0)]) (h' := hs σ) [(.lload 6, 2, 6, 0, 0, 0, 0, 0), (.ldc2_w 230, 3, 0, 0, 0, 788, 0, 2), (.lrem, 1, 0, 0, 0, 0, 0, 0), (.lconst 0, 1, 0, 0, 0, 0, 0, 0), (.lcmp, 1, 0, 0, 0, 0, 0, 0)] (by decide +kernel) rfl rfl ?_
      refine XA.if_ne (25) 116 (by decide +kernel) (fun c3 => ?_) (fun c3 => ?_)
      · have H := H.1 c3
        refine XA.blk (e9 := 117) (ok := true) (ls' := [none, none, none, some (.int x3), some (.long x4), none, some (.long x6), none, some (.int x8)]) (st' := [.int x3]) (h' := hs σ) [(.iload_n 3, 1, 3, 0, 0, 0, 0, 0)] (by decide +kernel) rfl rfl ?_
        have hJ117 : XA scr 6 mX10_chance 172 4705 127 [none, none, none, none, none, none, none, none, none] [.long (if ¬ x3 = 0 then x6 else x4 : Int64)] (hs σ) (pJ P) := by
          exact XA.ret (some (.long (if ¬ x3 = 0 then x6 else x4 : Int64))) rfl (show ckRt mX10_chance 127 .lreturn = true by decide +kernel) trivial (Nat.le_of_ble_eq_true rfl) (Nat.le_of_ble_eq_true rfl) ⟨_, _, rfl, rfl, H⟩
        refine XA.if_ne (8) 125 (by decide +kernel) (fun c4 => ?_) (fun c4 => ?_)
        · refine XA.blk (e9 := 127) (ok := true) (ls' := [none, none, none, some (.int x3), some (.long x4), none, some (.long x6), none, some (.int x8)]) (st' := [.long x6]) (h' := hs σ) [(.lload 6, 2, 6, 0, 0, 0, 0, 0)] (by decide +kernel) rfl rfl ?_
          refine XA.drop (ls := [none, none, none, none, none, none, none, none, none]) (by simp [leL]) ?_
          simpa only [if_pos c4] using hJ117
        · refine XA.blk (e9 := 127) (ok := true) (ls' := [none, none, none, some (.int x3), some (.long x4), none, some (.long x6), none, some (.int x8)]) (st' := [.long x4]) (h' := hs σ) [(.lload 4, 2, 4, 0, 0, 0, 0, 0), (.goto 5, 3, 127, 0, 0, 0, 0, 0)] (by decide +kernel) rfl rfl ?_
          refine XA.drop (ls := [none, none, none, none, none, none, none, none, none]) (by simp [leL]) ?_
          simpa only [if_neg (not_not_intro c4)] using hJ117
      · have H := H.2 c3
        refine XA.blk (e9 := 65) (ok := true) (ls' := [none, none, none, some (.int x3), some (.long (x4 / 2)), none, some (.long (x6 / 2)), none, some (.int (x8 + 1))]) (st' := []) (h' := hs σ) [(.lload 4, 2, 4, 0, 0, 0, 0, 0), (.ldc2_w 230, 3, 0, 0, 0, 788, 0, 2), (.ldiv, 1, 0, 0, 0, 0, 0, 0), (.lstore 4, 2, 4, 0, 0, 0, 0, 0), (.lload 6, 2, 6, 0, 0, 0, 0, 0), (.ldc2_w 230, 3, 0, 0, 0, 788, 0, 2), (.ldiv, 1, 0, 0, 0, 0, 0, 0), (.lstore 6, 2, 6, 0, 0, 0, 0, 0), (.iinc 8 1, 3, 8, 0, 0, 0, 1, 0), (.goto (-48), 3, 65, 0, 0, 0, 0, 0)] (by decide +kernel) rfl rfl ?_
        exact H
theorem E_X10_chance {scr : ScA}  {x1 : Int32} {x2 : Int32} {x3 : Int32} {σ : Nat → Nat → Int32} {P : Int64 → (Nat → Nat → Int32) → Prop} (h : K_X10_chance_0 scr x1 x2 x3 σ P) : ClA scr 6 mX10_chance [.ref 0, .int x1, .int x2, .int x3] σ P := CtA.of (by decide) (Nat.le_of_ble_eq_true rfl) (XA.drop (by simp [leL, enL]) h)
def K_X10_years_0 (scr : ScA)  (x1 : Int32) (x2 : Int32) (x3 : Int32) (σ : Nat → Nat → Int32) (P : Int32 → (Nat → Nat → Int32) → Prop) : Prop := XA scr 4 mX10_years 172 4705 0 [some (.ref 0), some (.int x1), some (.int x2), some (.int x3)] [] (hs σ) (pI P)
def K_X10_years_36 (scr : ScA)  (x3 : Int32) (σ : Nat → Nat → Int32) (P : Int32 → (Nat → Nat → Int32) → Prop) : Prop := XA scr 4 mX10_years 172 4705 36 [some (.ref 0), none, none, some (.int x3)] [] (hs σ) (pI P)
def K_X10_years_59 (scr : ScA)  (x3 : Int32) (σ : Nat → Nat → Int32) (P : Int32 → (Nat → Nat → Int32) → Prop) : Prop := XA scr 4 mX10_years 172 4705 59 [some (.ref 0), none, none, some (.int x3)] [] (hs σ) (pI P)
set_option maxRecDepth 20000 in
theorem W_X10_years_0 {scr : ScA}   {x1 : Int32} {x2 : Int32} {x3 : Int32}  {σ : Nat → Nat → Int32} {P : Int32 → (Nat → Nat → Int32) → Prop} (H : ((isW x2 9) = 0 → P (-2) σ) ∧ (¬ (isW x2 9) = 0 → (¬ (isW x3 2) = 0 → CvA scr 1 mX1_drawByLot [.ref 116, .int x1, .int x2, .int (σ 3 6)] σ (fun σ' => K_X10_years_36 scr x3 σ' P)) ∧ ((isW x3 2) = 0 → P (-2) σ))) : K_X10_years_0 scr x1 x2 x3 σ P := by
  show XA scr 4 mX10_years 172 4705 0 [some (.ref 0), some (.int x1), some (.int x2), some (.int x3)] [] (hs σ) (pI P)
  refine XA.blk (e9 := 3) (ok := true) (ls' := [some (.ref 0), some (.int x1), some (.int x2), some (.int x3)]) (st' := [.int 9, .int x2]) (h' := hs σ) [(.iload_n 2, 1, 2, 0, 0, 0, 0, 0), (.bipush 9, 2, 0, 0, 0, 0, 9, 0)] (by decide +kernel) rfl rfl ?_
  refine XA.callS (as := [.int x2, .int 9]) (rest := []) (mc' := 0) (ms' := 0) (idx := 84) (t := 445) cs_X10_isWithin (by decide +kernel) rfl rfl (Nat.le_of_ble_eq_true rfl) (Nat.le_of_ble_eq_true rfl) (Nat.le_of_ble_eq_true rfl) (Nat.le_of_ble_eq_true rfl) (pu_X10_isWithin scr σ x2 9) (fun rv h' hp => ?_)
  obtain ⟨rfl, rfl⟩ := hp
  refine ⟨rfl, rfl, ?_⟩
  show XA scr 4 mX10_years 172 4705 6 [some (.ref 0), some (.int x1), some (.int x2), some (.int x3)] [.int (isW x2 9)] (hs σ) (pI P)
  refine XA.if_eq (11) 17 (by decide +kernel) (fun c1 => ?_) (fun c1 => ?_)
  · have H := H.1 c1
    refine XA.blk (e9 := 19) (ok := true) (ls' := [some (.ref 0), some (.int x1), some (.int x2), some (.int x3)]) (st' := [.int (-2)]) (h' := hs σ) [(.bipush (-2), 2, 0, 0, 0, 0, (-2), 0)] (by decide +kernel) rfl rfl ?_
    exact XA.ret (some (.int (-2))) rfl (show ckRt mX10_years 19 .ireturn = true by decide +kernel) trivial (Nat.le_of_ble_eq_true rfl) (Nat.le_of_ble_eq_true rfl) ⟨_, _, rfl, rfl, H⟩
  · have H := H.2 c1
    refine XA.blk (e9 := 11) (ok := true) (ls' := [some (.ref 0), some (.int x1), some (.int x2), some (.int x3)]) (st' := [.int 2, .int x3]) (h' := hs σ) [(.iload_n 3, 1, 3, 0, 0, 0, 0, 0), (.iconst 2, 1, 0, 0, 0, 0, 2, 0)] (by decide +kernel) rfl rfl ?_
    refine XA.callS (as := [.int x3, .int 2]) (rest := []) (mc' := 0) (ms' := 0) (idx := 84) (t := 445) cs_X10_isWithin (by decide +kernel) rfl rfl (Nat.le_of_ble_eq_true rfl) (Nat.le_of_ble_eq_true rfl) (Nat.le_of_ble_eq_true rfl) (Nat.le_of_ble_eq_true rfl) (pu_X10_isWithin scr σ x3 2) (fun rv h' hp => ?_)
    obtain ⟨rfl, rfl⟩ := hp
    refine ⟨rfl, rfl, ?_⟩
    show XA scr 4 mX10_years 172 4705 14 [some (.ref 0), some (.int x1), some (.int x2), some (.int x3)] [.int (isW x3 2)] (hs σ) (pI P)
    refine XA.if_ne (6) 20 (by decide +kernel) (fun c2 => ?_) (fun c2 => ?_)
    · have H := H.1 c2
      refine XA.blk (e9 := 33) (ok := true) (ls' := [some (.ref 0), some (.int x1), some (.int x2), some (.int x3)]) (st' := [.int (σ 3 6), .int x2, .int x1, .ref 116]) (h' := hs σ) [(.aload_n 0, 1, 0, 0, 0, 0, 0, 0), (.getfield 67, 3, 10, 8, 117, 406, 0, 0), (.iload_n 1, 1, 1, 0, 0, 0, 0, 0), (.iload_n 2, 1, 2, 0, 0, 0, 0, 0), (.aload_n 0, 1, 0, 0, 0, 0, 0, 0), (.getfield 19, 3, 10, 1, 4, 399, 0, 0), (.getfield 98, 3, 8, 6, 0, 143, 0, 0)] (by decide +kernel) rfl rfl ?_
      refine XA.callV (as := [.int x1, .int x2, .int (σ 3 6)]) (rest := []) (mc' := 0) (ms' := 0) (idx := 232) (t := 793) cv_X1_drawByLot (by decide +kernel) rfl rfl rfl (Nat.le_of_ble_eq_true rfl) (Nat.le_of_ble_eq_true rfl) (Nat.le_of_ble_eq_true rfl) (Nat.le_of_ble_eq_true rfl) (H) (fun rv h' hp => ?_)
      obtain ⟨s9, rfl, rfl, hK⟩ := hp
      exact ⟨rfl, rfl, XA.drop (by simp [leL]) hK⟩
    · have H := H.2 c2
      refine XA.blk (e9 := 19) (ok := true) (ls' := [some (.ref 0), some (.int x1), some (.int x2), some (.int x3)]) (st' := [.int (-2)]) (h' := hs σ) [(.bipush (-2), 2, 0, 0, 0, 0, (-2), 0)] (by decide +kernel) rfl rfl ?_
      exact XA.ret (some (.int (-2))) rfl (show ckRt mX10_years 19 .ireturn = true by decide +kernel) trivial (Nat.le_of_ble_eq_true rfl) (Nat.le_of_ble_eq_true rfl) ⟨_, _, rfl, rfl, H⟩
set_option maxRecDepth 20000 in
theorem W_X10_years_36 {scr : ScA}   {x3 : Int32}  {σ : Nat → Nat → Int32} {P : Int32 → (Nat → Nat → Int32) → Prop} (H : CvA scr 3 mX5_play [.ref 120, .ref 3, .ref 116, .int (((1 : Int32) <<< ((σ 116 3) &&& 31)) - 1), .int 0] σ (fun σ' => K_X10_years_59 scr x3 σ' P)) : K_X10_years_36 scr x3 σ P := by
  show XA scr 4 mX10_years 172 4705 36 [some (.ref 0), none, none, some (.int x3)] [] (hs σ) (pI P)
  refine XA.blk (e9 := 52) (ok := true) (ls' := [some (.ref 0), none, none, some (.int x3)]) (st' := [.ref 116, .ref 116, .ref 3, .ref 120]) (h' := hs σ) [(.aload_n 0, 1, 0, 0, 0, 0, 0, 0), (.getfield 70, 3, 10, 9, 121, 407, 0, 0), (.aload_n 0, 1, 0, 0, 0, 0, 0, 0), (.getfield 19, 3, 10, 1, 4, 399, 0, 0), (.aload_n 0, 1, 0, 0, 0, 0, 0, 0), (.getfield 67, 3, 10, 8, 117, 406, 0, 0), (.aload_n 0, 1, 0, 0, 0, 0, 0, 0), (.getfield 67, 3, 10, 8, 117, 406, 0, 0)] (by decide +kernel) rfl rfl ?_
  refine XA.callV (as := []) (rest := [.ref 116, .ref 3, .ref 120]) (mc' := 0) (ms' := 0) (idx := 235) (t := 542) cv_X1_allBits (by decide +kernel) rfl rfl rfl (Nat.le_of_ble_eq_true rfl) (Nat.le_of_ble_eq_true rfl) (Nat.le_of_ble_eq_true rfl) (Nat.le_of_ble_eq_true rfl) (pu_X1_allBits scr σ (by unfold isEv; omega) ) (fun rv h' hp => ?_)
  obtain ⟨rfl, rfl⟩ := hp
  refine ⟨rfl, rfl, ?_⟩
  show XA scr 4 mX10_years 172 4705 55 [some (.ref 0), none, none, some (.int x3)] [.int (((1 : Int32) <<< ((σ 116 3) &&& 31)) - 1), .ref 116, .ref 3, .ref 120] (hs σ) (pI P)
  refine XA.blk (e9 := 56) (ok := true) (ls' := [some (.ref 0), none, none, some (.int x3)]) (st' := [.int 0, .int (((1 : Int32) <<< ((σ 116 3) &&& 31)) - 1), .ref 116, .ref 3, .ref 120]) (h' := hs σ) [(.iconst 0, 1, 0, 0, 0, 0, 0, 0)] (by decide +kernel) rfl rfl ?_
  refine XA.callV (as := [.ref 3, .ref 116, .int (((1 : Int32) <<< ((σ 116 3) &&& 31)) - 1), .int 0]) (rest := []) (mc' := 0) (ms' := 0) (idx := 239) (t := 546) cv_X5_play (by decide +kernel) rfl rfl rfl (Nat.le_of_ble_eq_true rfl) (Nat.le_of_ble_eq_true rfl) (Nat.le_of_ble_eq_true rfl) (Nat.le_of_ble_eq_true rfl) (H) (fun rv h' hp => ?_)
  obtain ⟨s9, rfl, rfl, hK⟩ := hp
  exact ⟨rfl, rfl, hK⟩
set_option maxRecDepth 20000 in
theorem W_X10_years_59 {scr : ScA}   {x3 : Int32}  {σ : Nat → Nat → Int32} {P : Int32 → (Nat → Nat → Int32) → Prop} (H : P (if ¬ x3 = 0 then σ 120 11 else σ 120 10 : Int32) σ) : K_X10_years_59 scr x3 σ P := by
  show XA scr 4 mX10_years 172 4705 59 [some (.ref 0), none, none, some (.int x3)] [] (hs σ) (pI P)
  refine XA.blk (e9 := 60) (ok := true) (ls' := [some (.ref 0), none, none, some (.int x3)]) (st' := [.int x3]) (h' := hs σ) [(.iload_n 3, 1, 3, 0, 0, 0, 0, 0)] (by decide +kernel) rfl rfl ?_
  have hJ60 : XA scr 4 mX10_years 172 4705 80 [none, none, none, none] [.int (if ¬ x3 = 0 then σ 120 11 else σ 120 10 : Int32)] (hs σ) (pI P) := by
    exact XA.ret (some (.int (if ¬ x3 = 0 then σ 120 11 else σ 120 10 : Int32))) rfl (show ckRt mX10_years 80 .ireturn = true by decide +kernel) trivial (Nat.le_of_ble_eq_true rfl) (Nat.le_of_ble_eq_true rfl) ⟨_, _, rfl, rfl, H⟩
  refine XA.if_ne (13) 73 (by decide +kernel) (fun c1 => ?_) (fun c1 => ?_)
  · refine XA.blk (e9 := 80) (ok := true) (ls' := [some (.ref 0), none, none, some (.int x3)]) (st' := [.int (σ 120 11)]) (h' := hs σ) [(.aload_n 0, 1, 0, 0, 0, 0, 0, 0), (.getfield 70, 3, 10, 9, 121, 407, 0, 0), (.getfield 167, 3, 5, 11, 0, 231, 0, 0)] (by decide +kernel) rfl rfl ?_
    refine XA.drop (ls := [none, none, none, none]) (by simp [leL]) ?_
    simpa only [if_pos c1] using hJ60
  · refine XA.blk (e9 := 80) (ok := true) (ls' := [some (.ref 0), none, none, some (.int x3)]) (st' := [.int (σ 120 10)]) (h' := hs σ) [(.aload_n 0, 1, 0, 0, 0, 0, 0, 0), (.getfield 70, 3, 10, 9, 121, 407, 0, 0), (.getfield 164, 3, 5, 10, 0, 229, 0, 0), (.goto 10, 3, 80, 0, 0, 0, 0, 0)] (by decide +kernel) rfl rfl ?_
    refine XA.drop (ls := [none, none, none, none]) (by simp [leL]) ?_
    simpa only [if_neg (not_not_intro c1)] using hJ60
theorem E_X10_years {scr : ScA}  {x1 : Int32} {x2 : Int32} {x3 : Int32} {σ : Nat → Nat → Int32} {P : Int32 → (Nat → Nat → Int32) → Prop} (h : K_X10_years_0 scr x1 x2 x3 σ P) : CiA scr 4 mX10_years [.ref 0, .int x1, .int x2, .int x3] σ P := CtA.of (by decide) (Nat.le_of_ble_eq_true rfl) (XA.drop (by simp [leL, enL]) h)
def K_X10_sheet_0 (scr : ScA)  (x1 : Int32) (x2 : Int32) (x3 : Int32) (σ : Nat → Nat → Int32) (P : Int32 → (Nat → Nat → Int32) → Prop) : Prop := XA scr 2 mX10_sheet 172 4705 0 [some (.ref 0), some (.int x1), some (.int x2), some (.int x3)] [] (hs σ) (pI P)
def K_X10_sheet_34 (scr : ScA)  (y0 : Int32) (σ : Nat → Nat → Int32) (P : Int32 → (Nat → Nat → Int32) → Prop) : Prop := XA scr 2 mX10_sheet 172 4705 34 [none, none, none, none] [.int y0] (hs σ) (pI P)
def K_X10_sheet_46 (scr : ScA)  (x3 : Int32) (σ : Nat → Nat → Int32) (P : Int32 → (Nat → Nat → Int32) → Prop) : Prop := XA scr 2 mX10_sheet 172 4705 46 [none, none, none, some (.int x3)] [] (hs σ) (pI P)
set_option maxRecDepth 20000 in
theorem W_X10_sheet_0 {scr : ScA}   {x1 : Int32} {x2 : Int32} {x3 : Int32}  {σ : Nat → Nat → Int32} {P : Int32 → (Nat → Nat → Int32) → Prop} (H : ((isW x1 4) = 0 → P (-2) σ) ∧ (¬ (isW x1 4) = 0 → ((isW x2 3) = 0 → P (-2) σ) ∧ (¬ (isW x2 3) = 0 → (x3 ≤ 60 → (0 ≤ x3 → (inB x1 4 = true) ∧ (CvA scr 1 mX4_renew [.ref (127 + 1 + 2 * Int32.toNatClampNeg x1), .int x2, .int x3] σ (fun σ' => K_X10_sheet_46 scr x3 σ' P))) ∧ (¬ 0 ≤ x3 → CiA scr 0 mX10_finding [.ref 0, .int 5] σ (fun r9 σ' => K_X10_sheet_34 scr r9 σ' P))) ∧ (¬ x3 ≤ 60 → P (-2) σ)))) : K_X10_sheet_0 scr x1 x2 x3 σ P := by
  show XA scr 2 mX10_sheet 172 4705 0 [some (.ref 0), some (.int x1), some (.int x2), some (.int x3)] [] (hs σ) (pI P)
  refine XA.blk (e9 := 2) (ok := true) (ls' := [some (.ref 0), some (.int x1), some (.int x2), some (.int x3)]) (st' := [.int 4, .int x1]) (h' := hs σ) [(.iload_n 1, 1, 1, 0, 0, 0, 0, 0), (.iconst 4, 1, 0, 0, 0, 0, 4, 0)] (by decide +kernel) rfl rfl ?_
  refine XA.callS (as := [.int x1, .int 4]) (rest := []) (mc' := 0) (ms' := 0) (idx := 84) (t := 445) cs_X10_isWithin (by decide +kernel) rfl rfl (Nat.le_of_ble_eq_true rfl) (Nat.le_of_ble_eq_true rfl) (Nat.le_of_ble_eq_true rfl) (Nat.le_of_ble_eq_true rfl) (pu_X10_isWithin scr σ x1 4) (fun rv h' hp => ?_)
  obtain ⟨rfl, rfl⟩ := hp
  refine ⟨rfl, rfl, ?_⟩
  show XA scr 2 mX10_sheet 172 4705 5 [some (.ref 0), some (.int x1), some (.int x2), some (.int x3)] [.int (isW x1 4)] (hs σ) (pI P)
  refine XA.if_eq (17) 22 (by decide +kernel) (fun c1 => ?_) (fun c1 => ?_)
  · have H := H.1 c1
    refine XA.blk (e9 := 24) (ok := true) (ls' := [some (.ref 0), some (.int x1), some (.int x2), some (.int x3)]) (st' := [.int (-2)]) (h' := hs σ) [(.bipush (-2), 2, 0, 0, 0, 0, (-2), 0)] (by decide +kernel) rfl rfl ?_
    exact XA.ret (some (.int (-2))) rfl (show ckRt mX10_sheet 24 .ireturn = true by decide +kernel) trivial (Nat.le_of_ble_eq_true rfl) (Nat.le_of_ble_eq_true rfl) ⟨_, _, rfl, rfl, H⟩
  · have H := H.2 c1
    refine XA.blk (e9 := 10) (ok := true) (ls' := [some (.ref 0), some (.int x1), some (.int x2), some (.int x3)]) (st' := [.int 3, .int x2]) (h' := hs σ) [(.iload_n 2, 1, 2, 0, 0, 0, 0, 0), (.iconst 3, 1, 0, 0, 0, 0, 3, 0)] (by decide +kernel) rfl rfl ?_
    refine XA.callS (as := [.int x2, .int 3]) (rest := []) (mc' := 0) (ms' := 0) (idx := 84) (t := 445) cs_X10_isWithin (by decide +kernel) rfl rfl (Nat.le_of_ble_eq_true rfl) (Nat.le_of_ble_eq_true rfl) (Nat.le_of_ble_eq_true rfl) (Nat.le_of_ble_eq_true rfl) (pu_X10_isWithin scr σ x2 3) (fun rv h' hp => ?_)
    obtain ⟨rfl, rfl⟩ := hp
    refine ⟨rfl, rfl, ?_⟩
    show XA scr 2 mX10_sheet 172 4705 13 [some (.ref 0), some (.int x1), some (.int x2), some (.int x3)] [.int (isW x2 3)] (hs σ) (pI P)
    refine XA.if_eq (9) 22 (by decide +kernel) (fun c2 => ?_) (fun c2 => ?_)
    · have H := H.1 c2
      refine XA.blk (e9 := 24) (ok := true) (ls' := [some (.ref 0), some (.int x1), some (.int x2), some (.int x3)]) (st' := [.int (-2)]) (h' := hs σ) [(.bipush (-2), 2, 0, 0, 0, 0, (-2), 0)] (by decide +kernel) rfl rfl ?_
      exact XA.ret (some (.int (-2))) rfl (show ckRt mX10_sheet 24 .ireturn = true by decide +kernel) trivial (Nat.le_of_ble_eq_true rfl) (Nat.le_of_ble_eq_true rfl) ⟨_, _, rfl, rfl, H⟩
    · have H := H.2 c2
      refine XA.blk (e9 := 19) (ok := true) (ls' := [some (.ref 0), some (.int x1), some (.int x2), some (.int x3)]) (st' := [.int 60, .int x3]) (h' := hs σ) [(.iload_n 3, 1, 3, 0, 0, 0, 0, 0), (.bipush 60, 2, 0, 0, 0, 0, 60, 0)] (by decide +kernel) rfl rfl ?_
      refine XA.icmp_le (6) 25 (by decide +kernel) (fun c3 => ?_) (fun c3 => ?_)
      · have H := H.1 c3
        refine XA.blk (e9 := 26) (ok := true) (ls' := [some (.ref 0), some (.int x1), some (.int x2), some (.int x3)]) (st' := [.int x3]) (h' := hs σ) [(.iload_n 3, 1, 3, 0, 0, 0, 0, 0)] (by decide +kernel) rfl rfl ?_
        refine XA.if_ge (9) 35 (by decide +kernel) (fun c4 => ?_) (fun c4 => ?_)
        · have H := H.1 c4
          obtain ⟨o1, H⟩ := H
          refine XA.blk (e9 := 43) (ok := (inB x1 4 && (true && kR R0 127 (Int32.toNatClampNeg x1) (127 + 1 + 2 * Int32.toNatClampNeg x1))) && (true)) (ls' := [some (.ref 0), some (.int x1), some (.int x2), some (.int x3)]) (st' := [.int x3, .int x2, .ref (127 + 1 + 2 * Int32.toNatClampNeg x1)]) (h' := hs σ) [(.aload_n 0, 1, 0, 0, 0, 0, 0, 0), (.getfield 75, 3, 10, 10, 128, 408, 0, 0), (.iload_n 1, 1, 1, 0, 0, 0, 0, 0), (.aaload, 1, 1, 2, 1, 0, 0, 0), (.iload_n 2, 1, 2, 0, 0, 0, 0, 0), (.iload_n 3, 1, 3, 0, 0, 0, 0, 0)] (by decide +kernel) rfl (by simp only [seK o1, o1, Bool.and_true, Bool.true_and]) ?_
          refine XA.callV (as := [.int x2, .int x3]) (rest := []) (mc' := 0) (ms' := 0) (idx := 243) (t := 806) cv_X4_renew (by decide +kernel) (seO (seH o1)) rfl rfl (Nat.le_of_ble_eq_true rfl) (Nat.le_of_ble_eq_true rfl) (Nat.le_of_ble_eq_true rfl) (Nat.le_of_ble_eq_true rfl) (H) (fun rv h' hp => ?_)
          obtain ⟨s9, rfl, rfl, hK⟩ := hp
          exact ⟨rfl, rfl, XA.drop (by simp [leL]) hK⟩
        · have H := H.2 c4
          refine XA.blk (e9 := 31) (ok := true) (ls' := [some (.ref 0), some (.int x1), some (.int x2), some (.int x3)]) (st' := [.int 5, .ref 0]) (h' := hs σ) [(.aload_n 0, 1, 0, 0, 0, 0, 0, 0), (.iconst 5, 1, 0, 0, 0, 0, 5, 0)] (by decide +kernel) rfl rfl ?_
          refine XA.callV (as := [.int 5]) (rest := []) (mc' := 0) (ms' := 0) (idx := 129) (t := 524) cv_X10_finding (by decide +kernel) rfl rfl rfl (Nat.le_of_ble_eq_true rfl) (Nat.le_of_ble_eq_true rfl) (Nat.le_of_ble_eq_true rfl) (Nat.le_of_ble_eq_true rfl) (H) (fun rv h' hp => ?_)
          obtain ⟨r9, s9, rfl, rfl, hK⟩ := hp
          exact ⟨rfl, rfl, XA.drop (by simp [leL]) hK⟩
      · have H := H.2 c3
        refine XA.blk (e9 := 24) (ok := true) (ls' := [some (.ref 0), some (.int x1), some (.int x2), some (.int x3)]) (st' := [.int (-2)]) (h' := hs σ) [(.bipush (-2), 2, 0, 0, 0, 0, (-2), 0)] (by decide +kernel) rfl rfl ?_
        exact XA.ret (some (.int (-2))) rfl (show ckRt mX10_sheet 24 .ireturn = true by decide +kernel) trivial (Nat.le_of_ble_eq_true rfl) (Nat.le_of_ble_eq_true rfl) ⟨_, _, rfl, rfl, H⟩
set_option maxRecDepth 20000 in
theorem W_X10_sheet_34 {scr : ScA}   {y0 : Int32}  {σ : Nat → Nat → Int32} {P : Int32 → (Nat → Nat → Int32) → Prop} (H : P y0 σ) : K_X10_sheet_34 scr y0 σ P := by
  show XA scr 2 mX10_sheet 172 4705 34 [none, none, none, none] [.int y0] (hs σ) (pI P)
  exact XA.ret (some (.int y0)) rfl (show ckRt mX10_sheet 34 .ireturn = true by decide +kernel) trivial (Nat.le_of_ble_eq_true rfl) (Nat.le_of_ble_eq_true rfl) ⟨_, _, rfl, rfl, H⟩
set_option maxRecDepth 20000 in
theorem W_X10_sheet_46 {scr : ScA}   {x3 : Int32}  {σ : Nat → Nat → Int32} {P : Int32 → (Nat → Nat → Int32) → Prop} (H : P x3 σ) : K_X10_sheet_46 scr x3 σ P := by
  show XA scr 2 mX10_sheet 172 4705 46 [none, none, none, some (.int x3)] [] (hs σ) (pI P)
  refine XA.blk (e9 := 47) (ok := true) (ls' := [none, none, none, some (.int x3)]) (st' := [.int x3]) (h' := hs σ) [(.iload_n 3, 1, 3, 0, 0, 0, 0, 0)] (by decide +kernel) rfl rfl ?_
  exact XA.ret (some (.int x3)) rfl (show ckRt mX10_sheet 47 .ireturn = true by decide +kernel) trivial (Nat.le_of_ble_eq_true rfl) (Nat.le_of_ble_eq_true rfl) ⟨_, _, rfl, rfl, H⟩
theorem E_X10_sheet {scr : ScA}  {x1 : Int32} {x2 : Int32} {x3 : Int32} {σ : Nat → Nat → Int32} {P : Int32 → (Nat → Nat → Int32) → Prop} (h : K_X10_sheet_0 scr x1 x2 x3 σ P) : CiA scr 2 mX10_sheet [.ref 0, .int x1, .int x2, .int x3] σ P := CtA.of (by decide) (Nat.le_of_ble_eq_true rfl) (XA.drop (by simp [leL, enL]) h)
def K_X10_lose_0 (scr : ScA)  (x1 : Int32) (σ : Nat → Nat → Int32) (P : Int32 → (Nat → Nat → Int32) → Prop) : Prop := XA scr 1 mX10_lose 172 4705 0 [some (.ref 0), some (.int x1)] [] (hs σ) (pI P)
def K_X10_lose_28 (scr : ScA)  (y0 : Int32) (σ : Nat → Nat → Int32) (P : Int32 → (Nat → Nat → Int32) → Prop) : Prop := XA scr 1 mX10_lose 172 4705 28 [none, none] [.int y0] (hs σ) (pI P)
set_option maxRecDepth 20000 in
theorem W_X10_lose_0 {scr : ScA}   {x1 : Int32}  {σ : Nat → Nat → Int32} {P : Int32 → (Nat → Nat → Int32) → Prop} (H : (¬ (isW x1 4) = 0 → (inB x1 4 = true) ∧ (((σ (127 + 1 + 2 * Int32.toNatClampNeg x1) 3) = 0 → ∀ σ1, σ1 = (su σ (127 + 1 + 2 * Int32.toNatClampNeg x1) 3 1) → P (σ1 (127 + 1 + 2 * Int32.toNatClampNeg x1) 2) σ1) ∧ (¬ (σ (127 + 1 + 2 * Int32.toNatClampNeg x1) 3) = 0 → CiA scr 0 mX10_finding [.ref 0, .int 1] σ (fun r9 σ' => K_X10_lose_28 scr r9 σ' P)))) ∧ ((isW x1 4) = 0 → P (-2) σ)) : K_X10_lose_0 scr x1 σ P := by
  show XA scr 1 mX10_lose 172 4705 0 [some (.ref 0), some (.int x1)] [] (hs σ) (pI P)
  refine XA.blk (e9 := 2) (ok := true) (ls' := [some (.ref 0), some (.int x1)]) (st' := [.int 4, .int x1]) (h' := hs σ) [(.iload_n 1, 1, 1, 0, 0, 0, 0, 0), (.iconst 4, 1, 0, 0, 0, 0, 4, 0)] (by decide +kernel) rfl rfl ?_
  refine XA.callS (as := [.int x1, .int 4]) (rest := []) (mc' := 0) (ms' := 0) (idx := 84) (t := 445) cs_X10_isWithin (by decide +kernel) rfl rfl (Nat.le_of_ble_eq_true rfl) (Nat.le_of_ble_eq_true rfl) (Nat.le_of_ble_eq_true rfl) (Nat.le_of_ble_eq_true rfl) (pu_X10_isWithin scr σ x1 4) (fun rv h' hp => ?_)
  obtain ⟨rfl, rfl⟩ := hp
  refine ⟨rfl, rfl, ?_⟩
  show XA scr 1 mX10_lose 172 4705 5 [some (.ref 0), some (.int x1)] [.int (isW x1 4)] (hs σ) (pI P)
  refine XA.if_ne (6) 11 (by decide +kernel) (fun c1 => ?_) (fun c1 => ?_)
  · have H := H.1 c1
    obtain ⟨o1, H⟩ := H
    refine XA.blk (e9 := 20) (ok := (inB x1 4 && (true && kR R0 127 (Int32.toNatClampNeg x1) (127 + 1 + 2 * Int32.toNatClampNeg x1))) && (kO 172 S0 (127 + 1 + 2 * Int32.toNatClampNeg x1) 4 && (true))) (ls' := [some (.ref 0), some (.int x1)]) (st' := [.int (σ (127 + 1 + 2 * Int32.toNatClampNeg x1) 3)]) (h' := hs σ) [(.aload_n 0, 1, 0, 0, 0, 0, 0, 0), (.getfield 75, 3, 10, 10, 128, 408, 0, 0), (.iload_n 1, 1, 1, 0, 0, 0, 0, 0), (.aaload, 1, 1, 2, 1, 0, 0, 0), (.getfield 125, 3, 4, 3, 0, 388, 0, 0)] (by decide +kernel) rfl (by simp only [seK o1, seO (seH o1), o1, Bool.and_true, Bool.true_and]) ?_
    refine XA.if_eq (9) 29 (by decide +kernel) (fun c2 => ?_) (fun c2 => ?_)
    · have H := H.1 c2
      refine XA.blk (e9 := 39) (ok := (inB x1 4 && (true && kR R0 127 (Int32.toNatClampNeg x1) (127 + 1 + 2 * Int32.toNatClampNeg x1))) && ((kO 172 S0 (127 + 1 + 2 * Int32.toNatClampNeg x1) 4 && true) && (true))) (ls' := [some (.ref 0), some (.int x1)]) (st' := []) (h' := hs (su σ (127 + 1 + 2 * Int32.toNatClampNeg x1) 3 1)) [(.aload_n 0, 1, 0, 0, 0, 0, 0, 0), (.getfield 75, 3, 10, 10, 128, 408, 0, 0), (.iload_n 1, 1, 1, 0, 0, 0, 0, 0), (.aaload, 1, 1, 2, 1, 0, 0, 0), (.iconst 1, 1, 0, 0, 0, 0, 1, 0), (.putfield 125, 3, 4, 3, 2, 388, 0, 0)] (by decide +kernel) rfl (by simp only [seK o1, seO (seH o1), o1, Bool.and_true, Bool.true_and]) ?_
      obtain ⟨σ1, hσ1⟩ : ∃ s9, s9 = (su σ (127 + 1 + 2 * Int32.toNatClampNeg x1) 3 1) := ⟨_, rfl⟩
      rw [← hσ1]
      have H := H σ1 hσ1
      refine XA.blk (e9 := 48) (ok := (inB x1 4 && (true && kR R0 127 (Int32.toNatClampNeg x1) (127 + 1 + 2 * Int32.toNatClampNeg x1))) && (kO 172 S0 (127 + 1 + 2 * Int32.toNatClampNeg x1) 4 && (true))) (ls' := [some (.ref 0), some (.int x1)]) (st' := [.int (σ1 (127 + 1 + 2 * Int32.toNatClampNeg x1) 2)]) (h' := hs σ1) [(.aload_n 0, 1, 0, 0, 0, 0, 0, 0), (.getfield 75, 3, 10, 10, 128, 408, 0, 0), (.iload_n 1, 1, 1, 0, 0, 0, 0, 0), (.aaload, 1, 1, 2, 1, 0, 0, 0), (.getfield 133, 3, 4, 2, 0, 386, 0, 0)] (by decide +kernel) rfl (by simp only [seK o1, seO (seH o1), o1, Bool.and_true, Bool.true_and]) ?_
      exact XA.ret (some (.int (σ1 (127 + 1 + 2 * Int32.toNatClampNeg x1) 2))) rfl (show ckRt mX10_lose 48 .ireturn = true by decide +kernel) trivial (Nat.le_of_ble_eq_true rfl) (Nat.le_of_ble_eq_true rfl) ⟨_, _, rfl, rfl, H⟩
    · have H := H.2 c2
      refine XA.blk (e9 := 25) (ok := true) (ls' := [some (.ref 0), some (.int x1)]) (st' := [.int 1, .ref 0]) (h' := hs σ) [(.aload_n 0, 1, 0, 0, 0, 0, 0, 0), (.iconst 1, 1, 0, 0, 0, 0, 1, 0)] (by decide +kernel) rfl rfl ?_
      refine XA.callV (as := [.int 1]) (rest := []) (mc' := 0) (ms' := 0) (idx := 129) (t := 524) cv_X10_finding (by decide +kernel) rfl rfl rfl (Nat.le_of_ble_eq_true rfl) (Nat.le_of_ble_eq_true rfl) (Nat.le_of_ble_eq_true rfl) (Nat.le_of_ble_eq_true rfl) (H) (fun rv h' hp => ?_)
      obtain ⟨r9, s9, rfl, rfl, hK⟩ := hp
      exact ⟨rfl, rfl, XA.drop (by simp [leL]) hK⟩
  · have H := H.2 c1
    refine XA.blk (e9 := 10) (ok := true) (ls' := [some (.ref 0), some (.int x1)]) (st' := [.int (-2)]) (h' := hs σ) [(.bipush (-2), 2, 0, 0, 0, 0, (-2), 0)] (by decide +kernel) rfl rfl ?_
    exact XA.ret (some (.int (-2))) rfl (show ckRt mX10_lose 10 .ireturn = true by decide +kernel) trivial (Nat.le_of_ble_eq_true rfl) (Nat.le_of_ble_eq_true rfl) ⟨_, _, rfl, rfl, H⟩
set_option maxRecDepth 20000 in
theorem W_X10_lose_28 {scr : ScA}   {y0 : Int32}  {σ : Nat → Nat → Int32} {P : Int32 → (Nat → Nat → Int32) → Prop} (H : P y0 σ) : K_X10_lose_28 scr y0 σ P := by
  show XA scr 1 mX10_lose 172 4705 28 [none, none] [.int y0] (hs σ) (pI P)
  exact XA.ret (some (.int y0)) rfl (show ckRt mX10_lose 28 .ireturn = true by decide +kernel) trivial (Nat.le_of_ble_eq_true rfl) (Nat.le_of_ble_eq_true rfl) ⟨_, _, rfl, rfl, H⟩
theorem E_X10_lose {scr : ScA}  {x1 : Int32} {σ : Nat → Nat → Int32} {P : Int32 → (Nat → Nat → Int32) → Prop} (h : K_X10_lose_0 scr x1 σ P) : CiA scr 1 mX10_lose [.ref 0, .int x1] σ P := CtA.of (by decide) (Nat.le_of_ble_eq_true rfl) (XA.drop (by simp [leL, enL]) h)
def K_X10_put_0 (scr : ScA)  (x1 : Int32) (x2 : Int32) (x3 : Int32) (x4 : Int32) (σ : Nat → Nat → Int32) (P : Int32 → (Nat → Nat → Int32) → Prop) : Prop := XA scr 2 mX10_put 172 4705 0 [some (.ref 0), some (.int x1), some (.int x2), some (.int x3), some (.int x4), none] [] (hs σ) (pI P)
def K_X10_put_43 (scr : ScA)  (y0 : Int32) (σ : Nat → Nat → Int32) (P : Int32 → (Nat → Nat → Int32) → Prop) : Prop := XA scr 2 mX10_put 172 4705 43 [none, none, none, none, none, none] [.int y0] (hs σ) (pI P)
def K_X10_put_56 (scr : ScA)   (σ : Nat → Nat → Int32) (P : Int32 → (Nat → Nat → Int32) → Prop) : Prop := XA scr 2 mX10_put 172 4705 56 [none, none, none, none, none, none] [] (hs σ) (pI P)
set_option maxRecDepth 20000 in
theorem W_X10_put_0 {scr : ScA}   {x1 : Int32} {x2 : Int32} {x3 : Int32} {x4 : Int32}  {σ : Nat → Nat → Int32} {P : Int32 → (Nat → Nat → Int32) → Prop} (H : ((isW x1 4) = 0 → P (-2) σ) ∧ (¬ (isW x1 4) = 0 → (¬ (isW x2 3) = 0 → (inB x1 4 = true) ∧ (((wfV σ (127 + 1 + 2 * Int32.toNatClampNeg x1) x2 x3) = 0 → CvA scr 1 mX4_setItem [.ref (127 + 1 + 2 * Int32.toNatClampNeg x1), .int x3, .int x4] σ (fun σ' => K_X10_put_56 scr σ' P)) ∧ (¬ (wfV σ (127 + 1 + 2 * Int32.toNatClampNeg x1) x2 x3) = 0 → CiA scr 0 mX10_finding [.ref 0, .int (wfV σ (127 + 1 + 2 * Int32.toNatClampNeg x1) x2 x3)] σ (fun r9 σ' => K_X10_put_43 scr r9 σ' P)))) ∧ ((isW x2 3) = 0 → P (-2) σ))) : K_X10_put_0 scr x1 x2 x3 x4 σ P := by
  show XA scr 2 mX10_put 172 4705 0 [some (.ref 0), some (.int x1), some (.int x2), some (.int x3), some (.int x4), none] [] (hs σ) (pI P)
  refine XA.blk (e9 := 2) (ok := true) (ls' := [some (.ref 0), some (.int x1), some (.int x2), some (.int x3), some (.int x4), none]) (st' := [.int 4, .int x1]) (h' := hs σ) [(.iload_n 1, 1, 1, 0, 0, 0, 0, 0), (.iconst 4, 1, 0, 0, 0, 0, 4, 0)] (by decide +kernel) rfl rfl ?_
  refine XA.callS (as := [.int x1, .int 4]) (rest := []) (mc' := 0) (ms' := 0) (idx := 84) (t := 445) cs_X10_isWithin (by decide +kernel) rfl rfl (Nat.le_of_ble_eq_true rfl) (Nat.le_of_ble_eq_true rfl) (Nat.le_of_ble_eq_true rfl) (Nat.le_of_ble_eq_true rfl) (pu_X10_isWithin scr σ x1 4) (fun rv h' hp => ?_)
  obtain ⟨rfl, rfl⟩ := hp
  refine ⟨rfl, rfl, ?_⟩
  show XA scr 2 mX10_put 172 4705 5 [some (.ref 0), some (.int x1), some (.int x2), some (.int x3), some (.int x4), none] [.int (isW x1 4)] (hs σ) (pI P)
  refine XA.if_eq (11) 16 (by decide +kernel) (fun c1 => ?_) (fun c1 => ?_)
  · have H := H.1 c1
    refine XA.blk (e9 := 18) (ok := true) (ls' := [some (.ref 0), some (.int x1), some (.int x2), some (.int x3), some (.int x4), none]) (st' := [.int (-2)]) (h' := hs σ) [(.bipush (-2), 2, 0, 0, 0, 0, (-2), 0)] (by decide +kernel) rfl rfl ?_
    exact XA.ret (some (.int (-2))) rfl (show ckRt mX10_put 18 .ireturn = true by decide +kernel) trivial (Nat.le_of_ble_eq_true rfl) (Nat.le_of_ble_eq_true rfl) ⟨_, _, rfl, rfl, H⟩
  · have H := H.2 c1
    refine XA.blk (e9 := 10) (ok := true) (ls' := [some (.ref 0), some (.int x1), some (.int x2), some (.int x3), some (.int x4), none]) (st' := [.int 3, .int x2]) (h' := hs σ) [(.iload_n 2, 1, 2, 0, 0, 0, 0, 0), (.iconst 3, 1, 0, 0, 0, 0, 3, 0)] (by decide +kernel) rfl rfl ?_
    refine XA.callS (as := [.int x2, .int 3]) (rest := []) (mc' := 0) (ms' := 0) (idx := 84) (t := 445) cs_X10_isWithin (by decide +kernel) rfl rfl (Nat.le_of_ble_eq_true rfl) (Nat.le_of_ble_eq_true rfl) (Nat.le_of_ble_eq_true rfl) (Nat.le_of_ble_eq_true rfl) (pu_X10_isWithin scr σ x2 3) (fun rv h' hp => ?_)
    obtain ⟨rfl, rfl⟩ := hp
    refine ⟨rfl, rfl, ?_⟩
    show XA scr 2 mX10_put 172 4705 13 [some (.ref 0), some (.int x1), some (.int x2), some (.int x3), some (.int x4), none] [.int (isW x2 3)] (hs σ) (pI P)
    refine XA.if_ne (6) 19 (by decide +kernel) (fun c2 => ?_) (fun c2 => ?_)
    · have H := H.1 c2
      obtain ⟨o1, H⟩ := H
      refine XA.blk (e9 := 27) (ok := (inB x1 4 && (true && kR R0 127 (Int32.toNatClampNeg x1) (127 + 1 + 2 * Int32.toNatClampNeg x1))) && (true)) (ls' := [some (.ref 0), some (.int x1), some (.int x2), some (.int x3), some (.int x4), none]) (st' := [.int x3, .int x2, .ref (127 + 1 + 2 * Int32.toNatClampNeg x1)]) (h' := hs σ) [(.aload_n 0, 1, 0, 0, 0, 0, 0, 0), (.getfield 75, 3, 10, 10, 128, 408, 0, 0), (.iload_n 1, 1, 1, 0, 0, 0, 0, 0), (.aaload, 1, 1, 2, 1, 0, 0, 0), (.iload_n 2, 1, 2, 0, 0, 0, 0, 0), (.iload_n 3, 1, 3, 0, 0, 0, 0, 0)] (by decide +kernel) rfl (by simp only [seK o1, o1, Bool.and_true, Bool.true_and]) ?_
      refine XA.callV (as := [.int x2, .int x3]) (rest := []) (mc' := 0) (ms' := 0) (idx := 247) (t := 821) cv_X4_whatFails (by decide +kernel) (seO (seH o1)) rfl rfl (Nat.le_of_ble_eq_true rfl) (Nat.le_of_ble_eq_true rfl) (Nat.le_of_ble_eq_true rfl) (Nat.le_of_ble_eq_true rfl) (pu_X4_whatFails scr σ (seH o1) x2 x3) (fun rv h' hp => ?_)
      obtain ⟨rfl, rfl⟩ := hp
      refine ⟨rfl, rfl, ?_⟩
      show XA scr 2 mX10_put 172 4705 30 [some (.ref 0), some (.int x1), some (.int x2), some (.int x3), some (.int x4), none] [.int (wfV σ (127 + 1 + 2 * Int32.toNatClampNeg x1) x2 x3)] (hs σ) (pI P)
      refine XA.blk (e9 := 34) (ok := true) (ls' := [some (.ref 0), some (.int x1), some (.int x2), some (.int x3), some (.int x4), some (.int (wfV σ (127 + 1 + 2 * Int32.toNatClampNeg x1) x2 x3))]) (st' := [.int (wfV σ (127 + 1 + 2 * Int32.toNatClampNeg x1) x2 x3)]) (h' := hs σ) [(.istore 5, 2, 5, 0, 0, 0, 0, 0), (.iload 5, 2, 5, 0, 0, 0, 0, 0)] (by decide +kernel) rfl rfl ?_
      refine XA.if_eq (10) 44 (by decide +kernel) (fun c3 => ?_) (fun c3 => ?_)
      · have H := H.1 c3
        refine XA.blk (e9 := 53) (ok := (inB x1 4 && (true && kR R0 127 (Int32.toNatClampNeg x1) (127 + 1 + 2 * Int32.toNatClampNeg x1))) && (true)) (ls' := [some (.ref 0), some (.int x1), some (.int x2), some (.int x3), some (.int x4), some (.int (wfV σ (127 + 1 + 2 * Int32.toNatClampNeg x1) x2 x3))]) (st' := [.int x4, .int x3, .ref (127 + 1 + 2 * Int32.toNatClampNeg x1)]) (h' := hs σ) [(.aload_n 0, 1, 0, 0, 0, 0, 0, 0), (.getfield 75, 3, 10, 10, 128, 408, 0, 0), (.iload_n 1, 1, 1, 0, 0, 0, 0, 0), (.aaload, 1, 1, 2, 1, 0, 0, 0), (.iload_n 3, 1, 3, 0, 0, 0, 0, 0), (.iload 4, 2, 4, 0, 0, 0, 0, 0)] (by decide +kernel) rfl (by simp only [seK o1, o1, Bool.and_true, Bool.true_and]) ?_
        refine XA.callV (as := [.int x3, .int x4]) (rest := []) (mc' := 0) (ms' := 0) (idx := 251) (t := 825) cv_X4_setItem (by decide +kernel) (seO (seH o1)) rfl rfl (Nat.le_of_ble_eq_true rfl) (Nat.le_of_ble_eq_true rfl) (Nat.le_of_ble_eq_true rfl) (Nat.le_of_ble_eq_true rfl) (H) (fun rv h' hp => ?_)
        obtain ⟨s9, rfl, rfl, hK⟩ := hp
        exact ⟨rfl, rfl, XA.drop (by simp [leL]) hK⟩
      · have H := H.2 c3
        refine XA.blk (e9 := 40) (ok := true) (ls' := [some (.ref 0), some (.int x1), some (.int x2), some (.int x3), some (.int x4), some (.int (wfV σ (127 + 1 + 2 * Int32.toNatClampNeg x1) x2 x3))]) (st' := [.int (wfV σ (127 + 1 + 2 * Int32.toNatClampNeg x1) x2 x3), .ref 0]) (h' := hs σ) [(.aload_n 0, 1, 0, 0, 0, 0, 0, 0), (.iload 5, 2, 5, 0, 0, 0, 0, 0)] (by decide +kernel) rfl rfl ?_
        refine XA.callV (as := [.int (wfV σ (127 + 1 + 2 * Int32.toNatClampNeg x1) x2 x3)]) (rest := []) (mc' := 0) (ms' := 0) (idx := 129) (t := 524) cv_X10_finding (by decide +kernel) rfl rfl rfl (Nat.le_of_ble_eq_true rfl) (Nat.le_of_ble_eq_true rfl) (Nat.le_of_ble_eq_true rfl) (Nat.le_of_ble_eq_true rfl) (H) (fun rv h' hp => ?_)
        obtain ⟨r9, s9, rfl, rfl, hK⟩ := hp
        exact ⟨rfl, rfl, XA.drop (by simp [leL]) hK⟩
    · have H := H.2 c2
      refine XA.blk (e9 := 18) (ok := true) (ls' := [some (.ref 0), some (.int x1), some (.int x2), some (.int x3), some (.int x4), none]) (st' := [.int (-2)]) (h' := hs σ) [(.bipush (-2), 2, 0, 0, 0, 0, (-2), 0)] (by decide +kernel) rfl rfl ?_
      exact XA.ret (some (.int (-2))) rfl (show ckRt mX10_put 18 .ireturn = true by decide +kernel) trivial (Nat.le_of_ble_eq_true rfl) (Nat.le_of_ble_eq_true rfl) ⟨_, _, rfl, rfl, H⟩
set_option maxRecDepth 20000 in
theorem W_X10_put_43 {scr : ScA}   {y0 : Int32}  {σ : Nat → Nat → Int32} {P : Int32 → (Nat → Nat → Int32) → Prop} (H : P y0 σ) : K_X10_put_43 scr y0 σ P := by
  show XA scr 2 mX10_put 172 4705 43 [none, none, none, none, none, none] [.int y0] (hs σ) (pI P)
  exact XA.ret (some (.int y0)) rfl (show ckRt mX10_put 43 .ireturn = true by decide +kernel) trivial (Nat.le_of_ble_eq_true rfl) (Nat.le_of_ble_eq_true rfl) ⟨_, _, rfl, rfl, H⟩
set_option maxRecDepth 20000 in
theorem W_X10_put_56 {scr : ScA}     {σ : Nat → Nat → Int32} {P : Int32 → (Nat → Nat → Int32) → Prop} (H : P 1 σ) : K_X10_put_56 scr σ P := by
  show XA scr 2 mX10_put 172 4705 56 [none, none, none, none, none, none] [] (hs σ) (pI P)
  refine XA.blk (e9 := 57) (ok := true) (ls' := [none, none, none, none, none, none]) (st' := [.int 1]) (h' := hs σ) [(.iconst 1, 1, 0, 0, 0, 0, 1, 0)] (by decide +kernel) rfl rfl ?_
  exact XA.ret (some (.int 1)) rfl (show ckRt mX10_put 57 .ireturn = true by decide +kernel) trivial (Nat.le_of_ble_eq_true rfl) (Nat.le_of_ble_eq_true rfl) ⟨_, _, rfl, rfl, H⟩
theorem E_X10_put {scr : ScA}  {x1 : Int32} {x2 : Int32} {x3 : Int32} {x4 : Int32} {σ : Nat → Nat → Int32} {P : Int32 → (Nat → Nat → Int32) → Prop} (h : K_X10_put_0 scr x1 x2 x3 x4 σ P) : CiA scr 2 mX10_put [.ref 0, .int x1, .int x2, .int x3, .int x4] σ P := CtA.of (by decide) (Nat.le_of_ble_eq_true rfl) (XA.drop (by simp [leL, enL]) h)
def K_X10_get_0 (scr : ScA)  (x1 : Int32) (x2 : Int32) (x3 : Int32) (σ : Nat → Nat → Int32) (P : Int32 → (Nat → Nat → Int32) → Prop) : Prop := XA scr 2 mX10_get 172 4705 0 [some (.ref 0), some (.int x1), some (.int x2), some (.int x3), none] [] (hs σ) (pI P)
set_option maxRecDepth 20000 in
theorem W_X10_get_0 {scr : ScA}   {x1 : Int32} {x2 : Int32} {x3 : Int32}  {σ : Nat → Nat → Int32} {P : Int32 → (Nat → Nat → Int32) → Prop} (H : ((isW x1 4) = 0 → P (-2147483648) σ) ∧ (¬ (isW x1 4) = 0 → (¬ (isW x2 3) = 0 → (inB x1 4 = true) ∧ (((wfV σ (127 + 1 + 2 * Int32.toNatClampNeg x1) x2 x3) = 0 → P (itV σ (127 + 1 + 2 * Int32.toNatClampNeg x1) x3) σ) ∧ (¬ (wfV σ (127 + 1 + 2 * Int32.toNatClampNeg x1) x2 x3) = 0 → ∀ σ1, σ1 = (su σ 0 13 (wfV σ (127 + 1 + 2 * Int32.toNatClampNeg x1) x2 x3)) → P (-2147483648) σ1))) ∧ ((isW x2 3) = 0 → P (-2147483648) σ))) : K_X10_get_0 scr x1 x2 x3 σ P := by
  show XA scr 2 mX10_get 172 4705 0 [some (.ref 0), some (.int x1), some (.int x2), some (.int x3), none] [] (hs σ) (pI P)
  refine XA.blk (e9 := 2) (ok := true) (ls' := [some (.ref 0), some (.int x1), some (.int x2), some (.int x3), none]) (st' := [.int 4, .int x1]) (h' := hs σ) [(.iload_n 1, 1, 1, 0, 0, 0, 0, 0), (.iconst 4, 1, 0, 0, 0, 0, 4, 0)] (by decide +kernel) rfl rfl ?_
  refine XA.callS (as := [.int x1, .int 4]) (rest := []) (mc' := 0) (ms' := 0) (idx := 84) (t := 445) cs_X10_isWithin (by decide +kernel) rfl rfl (Nat.le_of_ble_eq_true rfl) (Nat.le_of_ble_eq_true rfl) (Nat.le_of_ble_eq_true rfl) (Nat.le_of_ble_eq_true rfl) (pu_X10_isWithin scr σ x1 4) (fun rv h' hp => ?_)
  obtain ⟨rfl, rfl⟩ := hp
  refine ⟨rfl, rfl, ?_⟩
  show XA scr 2 mX10_get 172 4705 5 [some (.ref 0), some (.int x1), some (.int x2), some (.int x3), none] [.int (isW x1 4)] (hs σ) (pI P)
  refine XA.if_eq (11) 16 (by decide +kernel) (fun c1 => ?_) (fun c1 => ?_)
  · have H := H.1 c1
    refine XA.blk (e9 := 18) (ok := true) (ls' := [some (.ref 0), some (.int x1), some (.int x2), some (.int x3), none]) (st' := [.int (-2147483648)]) (h' := hs σ) [(.ldc 254, 2, 0, 0, 0, 833, (-2147483648), 0)] (by decide +kernel) rfl rfl ?_
    exact XA.ret (some (.int (-2147483648))) rfl (show ckRt mX10_get 18 .ireturn = true by decide +kernel) trivial (Nat.le_of_ble_eq_true rfl) (Nat.le_of_ble_eq_true rfl) ⟨_, _, rfl, rfl, H⟩
  · have H := H.2 c1
    refine XA.blk (e9 := 10) (ok := true) (ls' := [some (.ref 0), some (.int x1), some (.int x2), some (.int x3), none]) (st' := [.int 3, .int x2]) (h' := hs σ) [(.iload_n 2, 1, 2, 0, 0, 0, 0, 0), (.iconst 3, 1, 0, 0, 0, 0, 3, 0)] (by decide +kernel) rfl rfl ?_
    refine XA.callS (as := [.int x2, .int 3]) (rest := []) (mc' := 0) (ms' := 0) (idx := 84) (t := 445) cs_X10_isWithin (by decide +kernel) rfl rfl (Nat.le_of_ble_eq_true rfl) (Nat.le_of_ble_eq_true rfl) (Nat.le_of_ble_eq_true rfl) (Nat.le_of_ble_eq_true rfl) (pu_X10_isWithin scr σ x2 3) (fun rv h' hp => ?_)
    obtain ⟨rfl, rfl⟩ := hp
    refine ⟨rfl, rfl, ?_⟩
    show XA scr 2 mX10_get 172 4705 13 [some (.ref 0), some (.int x1), some (.int x2), some (.int x3), none] [.int (isW x2 3)] (hs σ) (pI P)
    refine XA.if_ne (6) 19 (by decide +kernel) (fun c2 => ?_) (fun c2 => ?_)
    · have H := H.1 c2
      obtain ⟨o1, H⟩ := H
      refine XA.blk (e9 := 27) (ok := (inB x1 4 && (true && kR R0 127 (Int32.toNatClampNeg x1) (127 + 1 + 2 * Int32.toNatClampNeg x1))) && (true)) (ls' := [some (.ref 0), some (.int x1), some (.int x2), some (.int x3), none]) (st' := [.int x3, .int x2, .ref (127 + 1 + 2 * Int32.toNatClampNeg x1)]) (h' := hs σ) [(.aload_n 0, 1, 0, 0, 0, 0, 0, 0), (.getfield 75, 3, 10, 10, 128, 408, 0, 0), (.iload_n 1, 1, 1, 0, 0, 0, 0, 0), (.aaload, 1, 1, 2, 1, 0, 0, 0), (.iload_n 2, 1, 2, 0, 0, 0, 0, 0), (.iload_n 3, 1, 3, 0, 0, 0, 0, 0)] (by decide +kernel) rfl (by simp only [seK o1, o1, Bool.and_true, Bool.true_and]) ?_
      refine XA.callV (as := [.int x2, .int x3]) (rest := []) (mc' := 0) (ms' := 0) (idx := 247) (t := 821) cv_X4_whatFails (by decide +kernel) (seO (seH o1)) rfl rfl (Nat.le_of_ble_eq_true rfl) (Nat.le_of_ble_eq_true rfl) (Nat.le_of_ble_eq_true rfl) (Nat.le_of_ble_eq_true rfl) (pu_X4_whatFails scr σ (seH o1) x2 x3) (fun rv h' hp => ?_)
      obtain ⟨rfl, rfl⟩ := hp
      refine ⟨rfl, rfl, ?_⟩
      show XA scr 2 mX10_get 172 4705 30 [some (.ref 0), some (.int x1), some (.int x2), some (.int x3), none] [.int (wfV σ (127 + 1 + 2 * Int32.toNatClampNeg x1) x2 x3)] (hs σ) (pI P)
      refine XA.blk (e9 := 34) (ok := true) (ls' := [some (.ref 0), some (.int x1), some (.int x2), some (.int x3), some (.int (wfV σ (127 + 1 + 2 * Int32.toNatClampNeg x1) x2 x3))]) (st' := [.int (wfV σ (127 + 1 + 2 * Int32.toNatClampNeg x1) x2 x3)]) (h' := hs σ) [(.istore 4, 2, 4, 0, 0, 0, 0, 0), (.iload 4, 2, 4, 0, 0, 0, 0, 0)] (by decide +kernel) rfl rfl ?_
      refine XA.if_eq (12) 46 (by decide +kernel) (fun c3 => ?_) (fun c3 => ?_)
      · have H := H.1 c3
        refine XA.blk (e9 := 53) (ok := (inB x1 4 && (true && kR R0 127 (Int32.toNatClampNeg x1) (127 + 1 + 2 * Int32.toNatClampNeg x1))) && (true)) (ls' := [some (.ref 0), some (.int x1), some (.int x2), some (.int x3), some (.int (wfV σ (127 + 1 + 2 * Int32.toNatClampNeg x1) x2 x3))]) (st' := [.int x3, .ref (127 + 1 + 2 * Int32.toNatClampNeg x1)]) (h' := hs σ) [(.aload_n 0, 1, 0, 0, 0, 0, 0, 0), (.getfield 75, 3, 10, 10, 128, 408, 0, 0), (.iload_n 1, 1, 1, 0, 0, 0, 0, 0), (.aaload, 1, 1, 2, 1, 0, 0, 0), (.iload_n 3, 1, 3, 0, 0, 0, 0, 0)] (by decide +kernel) rfl (by simp only [seK o1, o1, Bool.and_true, Bool.true_and]) ?_
        refine XA.callV (as := [.int x3]) (rest := []) (mc' := 0) (ms' := 0) (idx := 134) (t := 528) cv_X4_item (by decide +kernel) (seO (seH o1)) rfl rfl (Nat.le_of_ble_eq_true rfl) (Nat.le_of_ble_eq_true rfl) (Nat.le_of_ble_eq_true rfl) (Nat.le_of_ble_eq_true rfl) (pu_X4_item scr σ (seH o1) x3) (fun rv h' hp => ?_)
        obtain ⟨rfl, rfl⟩ := hp
        refine ⟨rfl, rfl, ?_⟩
        show XA scr 2 mX10_get 172 4705 56 [some (.ref 0), some (.int x1), some (.int x2), some (.int x3), some (.int (wfV σ (127 + 1 + 2 * Int32.toNatClampNeg x1) x2 x3))] [.int (itV σ (127 + 1 + 2 * Int32.toNatClampNeg x1) x3)] (hs σ) (pI P)
        exact XA.ret (some (.int (itV σ (127 + 1 + 2 * Int32.toNatClampNeg x1) x3))) rfl (show ckRt mX10_get 56 .ireturn = true by decide +kernel) trivial (Nat.le_of_ble_eq_true rfl) (Nat.le_of_ble_eq_true rfl) ⟨_, _, rfl, rfl, H⟩
      · have H := H.2 c3
        refine XA.blk (e9 := 43) (ok := true) (ls' := [some (.ref 0), some (.int x1), some (.int x2), some (.int x3), some (.int (wfV σ (127 + 1 + 2 * Int32.toNatClampNeg x1) x2 x3))]) (st' := []) (h' := hs (su σ 0 13 (wfV σ (127 + 1 + 2 * Int32.toNatClampNeg x1) x2 x3))) [(.aload_n 0, 1, 0, 0, 0, 0, 0, 0), (.iload 4, 2, 4, 0, 0, 0, 0, 0), (.putfield 255, 3, 10, 13, 0, 411, 0, 0)] (by decide +kernel) rfl rfl ?_
        obtain ⟨σ1, hσ1⟩ : ∃ s9, s9 = (su σ 0 13 (wfV σ (127 + 1 + 2 * Int32.toNatClampNeg x1) x2 x3)) := ⟨_, rfl⟩
        rw [← hσ1]
        have H := H σ1 hσ1
        refine XA.blk (e9 := 45) (ok := true) (ls' := [some (.ref 0), some (.int x1), some (.int x2), some (.int x3), some (.int (wfV σ (127 + 1 + 2 * Int32.toNatClampNeg x1) x2 x3))]) (st' := [.int (-2147483648)]) (h' := hs σ1) [(.ldc 254, 2, 0, 0, 0, 833, (-2147483648), 0)] (by decide +kernel) rfl rfl ?_
        exact XA.ret (some (.int (-2147483648))) rfl (show ckRt mX10_get 45 .ireturn = true by decide +kernel) trivial (Nat.le_of_ble_eq_true rfl) (Nat.le_of_ble_eq_true rfl) ⟨_, _, rfl, rfl, H⟩
    · have H := H.2 c2
      refine XA.blk (e9 := 18) (ok := true) (ls' := [some (.ref 0), some (.int x1), some (.int x2), some (.int x3), none]) (st' := [.int (-2147483648)]) (h' := hs σ) [(.ldc 254, 2, 0, 0, 0, 833, (-2147483648), 0)] (by decide +kernel) rfl rfl ?_
      exact XA.ret (some (.int (-2147483648))) rfl (show ckRt mX10_get 18 .ireturn = true by decide +kernel) trivial (Nat.le_of_ble_eq_true rfl) (Nat.le_of_ble_eq_true rfl) ⟨_, _, rfl, rfl, H⟩
theorem E_X10_get {scr : ScA}  {x1 : Int32} {x2 : Int32} {x3 : Int32} {σ : Nat → Nat → Int32} {P : Int32 → (Nat → Nat → Int32) → Prop} (h : K_X10_get_0 scr x1 x2 x3 σ P) : CiA scr 2 mX10_get [.ref 0, .int x1, .int x2, .int x3] σ P := CtA.of (by decide) (Nat.le_of_ble_eq_true rfl) (XA.drop (by simp [leL, enL]) h)
def K_X10_copy_0 (scr : ScA)  (x1 : Int32) (x2 : Int32) (x3 : Int32) (x4 : Int32) (x5 : Int32) (σ : Nat → Nat → Int32) (P : Int32 → (Nat → Nat → Int32) → Prop) : Prop := XA scr 1 mX10_copy 172 4705 0 [some (.ref 0), some (.int x1), some (.int x2), some (.int x3), some (.int x4), some (.int x5), none, none] [] (hs σ) (pI P)
def K_X10_copy_56 (scr : ScA)  (y0 : Int32) (σ : Nat → Nat → Int32) (P : Int32 → (Nat → Nat → Int32) → Prop) : Prop := XA scr 1 mX10_copy 172 4705 56 [none, none, none, none, none, none, none, none] [.int y0] (hs σ) (pI P)
def K_X10_copy_75 (scr : ScA)  (y0 : Int32) (σ : Nat → Nat → Int32) (P : Int32 → (Nat → Nat → Int32) → Prop) : Prop := XA scr 1 mX10_copy 172 4705 75 [none, none, none, none, none, none, none, none] [.int y0] (hs σ) (pI P)
def K_X10_copy_104 (scr : ScA)  (y0 : Int32) (σ : Nat → Nat → Int32) (P : Int32 → (Nat → Nat → Int32) → Prop) : Prop := XA scr 1 mX10_copy 172 4705 104 [none, none, none, none, none, none, none, none] [.int y0] (hs σ) (pI P)
set_option maxRecDepth 20000 in
theorem W_X10_copy_0 {scr : ScA}   {x1 : Int32} {x2 : Int32} {x3 : Int32} {x4 : Int32} {x5 : Int32}  {σ : Nat → Nat → Int32} {P : Int32 → (Nat → Nat → Int32) → Prop} (H : ((isW x1 4) = 0 → P (-2) σ) ∧ (¬ (isW x1 4) = 0 → (¬ (isW x3 4) = 0 → (inB x1 4 = true) ∧ (inB x3 4 = true) ∧ ((¬ (σ (127 + 1 + 2 * Int32.toNatClampNeg x1) 3) = 0 → CiA scr 0 mX10_finding [.ref 0, .int 1] σ (fun r9 σ' => K_X10_copy_56 scr r9 σ' P)) ∧ ((σ (127 + 1 + 2 * Int32.toNatClampNeg x1) 3) = 0 → ((σ (127 + 1 + 2 * Int32.toNatClampNeg x3) 3) = 0 → ((σ (127 + 1 + 2 * Int32.toNatClampNeg x1) 1) = (σ (127 + 1 + 2 * Int32.toNatClampNeg x3) 1) → ((hrV σ (127 + 1 + 2 * Int32.toNatClampNeg x1) x2 x5) = 0 → CiA scr 0 mX10_finding [.ref 0, .int 2] σ (fun r9 σ' => K_X10_copy_104 scr r9 σ' P)) ∧ (¬ (hrV σ (127 + 1 + 2 * Int32.toNatClampNeg x1) x2 x5) = 0 → (¬ (hrV σ (127 + 1 + 2 * Int32.toNatClampNeg x3) x4 x5) = 0 → (decide (((127 + 1 + 2 * Int32.toNatClampNeg x3) + 1) < 172 ∧ (S0 ((127 + 1 + 2 * Int32.toNatClampNeg x3) + 1)).1 = 1 ∧ ((127 + 1 + 2 * Int32.toNatClampNeg x1) + 1) < 172 ∧ (S0 ((127 + 1 + 2 * Int32.toNatClampNeg x1) + 1)).1 = 1) = true) ∧ (decide (¬ (x2 : Int32) < 0 ∧ ¬ (x4 : Int32) < 0 ∧ ¬ (x5 : Int32) < 0 ∧ Int32.toNatClampNeg (x2 : Int32) + Int32.toNatClampNeg (x5 : Int32) ≤ (S0 ((127 + 1 + 2 * Int32.toNatClampNeg x1) + 1)).2 ∧ Int32.toNatClampNeg (x4 : Int32) + Int32.toNatClampNeg (x5 : Int32) ≤ (S0 ((127 + 1 + 2 * Int32.toNatClampNeg x3) + 1)).2) = true) ∧ (∀ σ1, σ1 = (sr σ ((127 + 1 + 2 * Int32.toNatClampNeg x3) + 1) (va_cpy (σ ((127 + 1 + 2 * Int32.toNatClampNeg x1) + 1)) (σ ((127 + 1 + 2 * Int32.toNatClampNeg x3) + 1)) (Int32.toNatClampNeg x2) (Int32.toNatClampNeg x4) (Int32.toNatClampNeg x5))) → P 1 σ1)) ∧ ((hrV σ (127 + 1 + 2 * Int32.toNatClampNeg x3) x4 x5) = 0 → CiA scr 0 mX10_finding [.ref 0, .int 2] σ (fun r9 σ' => K_X10_copy_104 scr r9 σ' P)))) ∧ (¬ (σ (127 + 1 + 2 * Int32.toNatClampNeg x1) 1) = (σ (127 + 1 + 2 * Int32.toNatClampNeg x3) 1) → CiA scr 0 mX10_finding [.ref 0, .int 4] σ (fun r9 σ' => K_X10_copy_75 scr r9 σ' P))) ∧ (¬ (σ (127 + 1 + 2 * Int32.toNatClampNeg x3) 3) = 0 → CiA scr 0 mX10_finding [.ref 0, .int 1] σ (fun r9 σ' => K_X10_copy_56 scr r9 σ' P))))) ∧ ((isW x3 4) = 0 → P (-2) σ))) : K_X10_copy_0 scr x1 x2 x3 x4 x5 σ P := by
  show XA scr 1 mX10_copy 172 4705 0 [some (.ref 0), some (.int x1), some (.int x2), some (.int x3), some (.int x4), some (.int x5), none, none] [] (hs σ) (pI P)
  refine XA.blk (e9 := 2) (ok := true) (ls' := [some (.ref 0), some (.int x1), some (.int x2), some (.int x3), some (.int x4), some (.int x5), none, none]) (st' := [.int 4, .int x1]) (h' := hs σ) [(.iload_n 1, 1, 1, 0, 0, 0, 0, 0), (.iconst 4, 1, 0, 0, 0, 0, 4, 0)] (by decide +kernel) rfl rfl ?_
  refine XA.callS (as := [.int x1, .int 4]) (rest := []) (mc' := 0) (ms' := 0) (idx := 84) (t := 445) cs_X10_isWithin (by decide +kernel) rfl rfl (Nat.le_of_ble_eq_true rfl) (Nat.le_of_ble_eq_true rfl) (Nat.le_of_ble_eq_true rfl) (Nat.le_of_ble_eq_true rfl) (pu_X10_isWithin scr σ x1 4) (fun rv h' hp => ?_)
  obtain ⟨rfl, rfl⟩ := hp
  refine ⟨rfl, rfl, ?_⟩
  show XA scr 1 mX10_copy 172 4705 5 [some (.ref 0), some (.int x1), some (.int x2), some (.int x3), some (.int x4), some (.int x5), none, none] [.int (isW x1 4)] (hs σ) (pI P)
  refine XA.if_eq (11) 16 (by decide +kernel) (fun c1 => ?_) (fun c1 => ?_)
  · have H := H.1 c1
    refine XA.blk (e9 := 18) (ok := true) (ls' := [some (.ref 0), some (.int x1), some (.int x2), some (.int x3), some (.int x4), some (.int x5), none, none]) (st' := [.int (-2)]) (h' := hs σ) [(.bipush (-2), 2, 0, 0, 0, 0, (-2), 0)] (by decide +kernel) rfl rfl ?_
    exact XA.ret (some (.int (-2))) rfl (show ckRt mX10_copy 18 .ireturn = true by decide +kernel) trivial (Nat.le_of_ble_eq_true rfl) (Nat.le_of_ble_eq_true rfl) ⟨_, _, rfl, rfl, H⟩
  · have H := H.2 c1
    refine XA.blk (e9 := 10) (ok := true) (ls' := [some (.ref 0), some (.int x1), some (.int x2), some (.int x3), some (.int x4), some (.int x5), none, none]) (st' := [.int 4, .int x3]) (h' := hs σ) [(.iload_n 3, 1, 3, 0, 0, 0, 0, 0), (.iconst 4, 1, 0, 0, 0, 0, 4, 0)] (by decide +kernel) rfl rfl ?_
    refine XA.callS (as := [.int x3, .int 4]) (rest := []) (mc' := 0) (ms' := 0) (idx := 84) (t := 445) cs_X10_isWithin (by decide +kernel) rfl rfl (Nat.le_of_ble_eq_true rfl) (Nat.le_of_ble_eq_true rfl) (Nat.le_of_ble_eq_true rfl) (Nat.le_of_ble_eq_true rfl) (pu_X10_isWithin scr σ x3 4) (fun rv h' hp => ?_)
    obtain ⟨rfl, rfl⟩ := hp
    refine ⟨rfl, rfl, ?_⟩
    show XA scr 1 mX10_copy 172 4705 13 [some (.ref 0), some (.int x1), some (.int x2), some (.int x3), some (.int x4), some (.int x5), none, none] [.int (isW x3 4)] (hs σ) (pI P)
    refine XA.if_ne (6) 19 (by decide +kernel) (fun c2 => ?_) (fun c2 => ?_)
    · have H := H.1 c2
      obtain ⟨o1, o2, H⟩ := H
      refine XA.blk (e9 := 40) (ok := (inB x1 4 && (true && kR R0 127 (Int32.toNatClampNeg x1) (127 + 1 + 2 * Int32.toNatClampNeg x1))) && ((inB x3 4 && (true && kR R0 127 (Int32.toNatClampNeg x3) (127 + 1 + 2 * Int32.toNatClampNeg x3))) && (kO 172 S0 (127 + 1 + 2 * Int32.toNatClampNeg x1) 4 && (true)))) (ls' := [some (.ref 0), some (.int x1), some (.int x2), some (.int x3), some (.int x4), some (.int x5), some (.ref (127 + 1 + 2 * Int32.toNatClampNeg x1)), some (.ref (127 + 1 + 2 * Int32.toNatClampNeg x3))]) (st' := [.int (σ (127 + 1 + 2 * Int32.toNatClampNeg x1) 3)]) (h' := hs σ) [(.aload_n 0, 1, 0, 0, 0, 0, 0, 0), (.getfield 75, 3, 10, 10, 128, 408, 0, 0), (.iload_n 1, 1, 1, 0, 0, 0, 0, 0), (.aaload, 1, 1, 2, 1, 0, 0, 0), (.astore 6, 2, 6, 0, 0, 0, 0, 0), (.aload_n 0, 1, 0, 0, 0, 0, 0, 0), (.getfield 75, 3, 10, 10, 128, 408, 0, 0), (.iload_n 3, 1, 3, 0, 0, 0, 0, 0), (.aaload, 1, 1, 2, 1, 0, 0, 0), (.astore 7, 2, 7, 0, 0, 0, 0, 0), (.aload 6, 2, 6, 0, 0, 0, 0, 0), (.getfield 125, 3, 4, 3, 0, 388, 0, 0)] (by decide +kernel) rfl (by simp only [seK o1, seK o2, seO (seH o1), o1, o2, Bool.and_true, Bool.true_and]) ?_
      refine XA.if_ne (11) 51 (by decide +kernel) (fun c3 => ?_) (fun c3 => ?_)
      · have H := H.1 c3
        refine XA.blk (e9 := 53) (ok := true) (ls' := [some (.ref 0), some (.int x1), some (.int x2), some (.int x3), some (.int x4), some (.int x5), some (.ref (127 + 1 + 2 * Int32.toNatClampNeg x1)), some (.ref (127 + 1 + 2 * Int32.toNatClampNeg x3))]) (st' := [.int 1, .ref 0]) (h' := hs σ) [(.aload_n 0, 1, 0, 0, 0, 0, 0, 0), (.iconst 1, 1, 0, 0, 0, 0, 1, 0)] (by decide +kernel) rfl rfl ?_
        refine XA.callV (as := [.int 1]) (rest := []) (mc' := 0) (ms' := 0) (idx := 129) (t := 524) cv_X10_finding (by decide +kernel) rfl rfl rfl (Nat.le_of_ble_eq_true rfl) (Nat.le_of_ble_eq_true rfl) (Nat.le_of_ble_eq_true rfl) (Nat.le_of_ble_eq_true rfl) (H) (fun rv h' hp => ?_)
        obtain ⟨r9, s9, rfl, rfl, hK⟩ := hp
        exact ⟨rfl, rfl, XA.drop (by simp [leL]) hK⟩
      · have H := H.2 c3
        refine XA.blk (e9 := 48) (ok := kO 172 S0 (127 + 1 + 2 * Int32.toNatClampNeg x3) 4 && (true)) (ls' := [some (.ref 0), some (.int x1), some (.int x2), some (.int x3), some (.int x4), some (.int x5), some (.ref (127 + 1 + 2 * Int32.toNatClampNeg x1)), some (.ref (127 + 1 + 2 * Int32.toNatClampNeg x3))]) (st' := [.int (σ (127 + 1 + 2 * Int32.toNatClampNeg x3) 3)]) (h' := hs σ) [(.aload 7, 2, 7, 0, 0, 0, 0, 0), (.getfield 125, 3, 4, 3, 0, 388, 0, 0)] (by decide +kernel) rfl (by simp only [seO (seH o2), Bool.and_true, Bool.true_and]) ?_
        refine XA.if_eq (9) 57 (by decide +kernel) (fun c4 => ?_) (fun c4 => ?_)
        · have H := H.1 c4
          refine XA.blk (e9 := 67) (ok := kO 172 S0 (127 + 1 + 2 * Int32.toNatClampNeg x1) 4 && (kO 172 S0 (127 + 1 + 2 * Int32.toNatClampNeg x3) 4 && (true))) (ls' := [some (.ref 0), some (.int x1), some (.int x2), some (.int x3), some (.int x4), some (.int x5), some (.ref (127 + 1 + 2 * Int32.toNatClampNeg x1)), some (.ref (127 + 1 + 2 * Int32.toNatClampNeg x3))]) (st' := [.int (σ (127 + 1 + 2 * Int32.toNatClampNeg x3) 1), .int (σ (127 + 1 + 2 * Int32.toNatClampNeg x1) 1)]) (h' := hs σ) [(.aload 6, 2, 6, 0, 0, 0, 0, 0), (.getfield 258, 3, 4, 1, 0, 384, 0, 0), (.aload 7, 2, 7, 0, 0, 0, 0, 0), (.getfield 258, 3, 4, 1, 0, 384, 0, 0)] (by decide +kernel) rfl (by simp only [seO (seH o1), seO (seH o2), Bool.and_true, Bool.true_and]) ?_
          refine XA.icmp_eq (9) 76 (by decide +kernel) (fun c5 => ?_) (fun c5 => ?_)
          · have H := H.1 c5
            refine XA.blk (e9 := 81) (ok := true) (ls' := [some (.ref 0), some (.int x1), some (.int x2), some (.int x3), some (.int x4), some (.int x5), some (.ref (127 + 1 + 2 * Int32.toNatClampNeg x1)), some (.ref (127 + 1 + 2 * Int32.toNatClampNeg x3))]) (st' := [.int x5, .int x2, .ref (127 + 1 + 2 * Int32.toNatClampNeg x1)]) (h' := hs σ) [(.aload 6, 2, 6, 0, 0, 0, 0, 0), (.iload_n 2, 1, 2, 0, 0, 0, 0, 0), (.iload 5, 2, 5, 0, 0, 0, 0, 0)] (by decide +kernel) rfl rfl ?_
            refine XA.callV (as := [.int x2, .int x5]) (rest := []) (mc' := 0) (ms' := 0) (idx := 261) (t := 838) cv_X4_hasRange (by decide +kernel) (seO (seH o1)) rfl rfl (Nat.le_of_ble_eq_true rfl) (Nat.le_of_ble_eq_true rfl) (Nat.le_of_ble_eq_true rfl) (Nat.le_of_ble_eq_true rfl) (pu_X4_hasRange scr σ (seH o1) x2 x5) (fun rv h' hp => ?_)
            obtain ⟨rfl, rfl⟩ := hp
            refine ⟨rfl, rfl, ?_⟩
            show XA scr 1 mX10_copy 172 4705 84 [some (.ref 0), some (.int x1), some (.int x2), some (.int x3), some (.int x4), some (.int x5), some (.ref (127 + 1 + 2 * Int32.toNatClampNeg x1)), some (.ref (127 + 1 + 2 * Int32.toNatClampNeg x3))] [.int (hrV σ (127 + 1 + 2 * Int32.toNatClampNeg x1) x2 x5)] (hs σ) (pI P)
            refine XA.if_eq (15) 99 (by decide +kernel) (fun c6 => ?_) (fun c6 => ?_)
            · have H := H.1 c6
              refine XA.blk (e9 := 101) (ok := true) (ls' := [some (.ref 0), some (.int x1), some (.int x2), some (.int x3), some (.int x4), some (.int x5), some (.ref (127 + 1 + 2 * Int32.toNatClampNeg x1)), some (.ref (127 + 1 + 2 * Int32.toNatClampNeg x3))]) (st' := [.int 2, .ref 0]) (h' := hs σ) [(.aload_n 0, 1, 0, 0, 0, 0, 0, 0), (.iconst 2, 1, 0, 0, 0, 0, 2, 0)] (by decide +kernel) rfl rfl ?_
              refine XA.callV (as := [.int 2]) (rest := []) (mc' := 0) (ms' := 0) (idx := 129) (t := 524) cv_X10_finding (by decide +kernel) rfl rfl rfl (Nat.le_of_ble_eq_true rfl) (Nat.le_of_ble_eq_true rfl) (Nat.le_of_ble_eq_true rfl) (Nat.le_of_ble_eq_true rfl) (H) (fun rv h' hp => ?_)
              obtain ⟨r9, s9, rfl, rfl, hK⟩ := hp
              exact ⟨rfl, rfl, XA.drop (by simp [leL]) hK⟩
            · have H := H.2 c6
              refine XA.blk (e9 := 93) (ok := true) (ls' := [some (.ref 0), some (.int x1), some (.int x2), some (.int x3), some (.int x4), some (.int x5), some (.ref (127 + 1 + 2 * Int32.toNatClampNeg x1)), some (.ref (127 + 1 + 2 * Int32.toNatClampNeg x3))]) (st' := [.int x5, .int x4, .ref (127 + 1 + 2 * Int32.toNatClampNeg x3)]) (h' := hs σ) [(.aload 7, 2, 7, 0, 0, 0, 0, 0), (.iload 4, 2, 4, 0, 0, 0, 0, 0), (.iload 5, 2, 5, 0, 0, 0, 0, 0)] (by decide +kernel) rfl rfl ?_
              refine XA.callV (as := [.int x4, .int x5]) (rest := []) (mc' := 0) (ms' := 0) (idx := 261) (t := 838) cv_X4_hasRange (by decide +kernel) (seO (seH o2)) rfl rfl (Nat.le_of_ble_eq_true rfl) (Nat.le_of_ble_eq_true rfl) (Nat.le_of_ble_eq_true rfl) (Nat.le_of_ble_eq_true rfl) (pu_X4_hasRange scr σ (seH o2) x4 x5) (fun rv h' hp => ?_)
              obtain ⟨rfl, rfl⟩ := hp
              refine ⟨rfl, rfl, ?_⟩
              show XA scr 1 mX10_copy 172 4705 96 [some (.ref 0), some (.int x1), some (.int x2), some (.int x3), some (.int x4), some (.int x5), some (.ref (127 + 1 + 2 * Int32.toNatClampNeg x1)), some (.ref (127 + 1 + 2 * Int32.toNatClampNeg x3))] [.int (hrV σ (127 + 1 + 2 * Int32.toNatClampNeg x3) x4 x5)] (hs σ) (pI P)
              refine XA.if_ne (9) 105 (by decide +kernel) (fun c7 => ?_) (fun c7 => ?_)
              · have H := H.1 c7
                obtain ⟨o3, o4, H⟩ := H
                refine XA.blk (e9 := 123) (ok := (kO 172 S0 (127 + 1 + 2 * Int32.toNatClampNeg x1) 4 && kR R0 (127 + 1 + 2 * Int32.toNatClampNeg x1) 0 ((127 + 1 + 2 * Int32.toNatClampNeg x1) + 1)) && ((kO 172 S0 (127 + 1 + 2 * Int32.toNatClampNeg x3) 4 && kR R0 (127 + 1 + 2 * Int32.toNatClampNeg x3) 0 ((127 + 1 + 2 * Int32.toNatClampNeg x3) + 1)) && ((decide (((127 + 1 + 2 * Int32.toNatClampNeg x3) + 1) < 172 ∧ (S0 ((127 + 1 + 2 * Int32.toNatClampNeg x3) + 1)).1 = 1 ∧ ((127 + 1 + 2 * Int32.toNatClampNeg x1) + 1) < 172 ∧ (S0 ((127 + 1 + 2 * Int32.toNatClampNeg x1) + 1)).1 = 1) && decide (¬ (x2 : Int32) < 0 ∧ ¬ (x4 : Int32) < 0 ∧ ¬ (x5 : Int32) < 0 ∧ Int32.toNatClampNeg (x2 : Int32) + Int32.toNatClampNeg (x5 : Int32) ≤ (S0 ((127 + 1 + 2 * Int32.toNatClampNeg x1) + 1)).2 ∧ Int32.toNatClampNeg (x4 : Int32) + Int32.toNatClampNeg (x5 : Int32) ≤ (S0 ((127 + 1 + 2 * Int32.toNatClampNeg x3) + 1)).2)) && (true)))) (ls' := [some (.ref 0), some (.int x1), some (.int x2), some (.int x3), some (.int x4), some (.int x5), some (.ref (127 + 1 + 2 * Int32.toNatClampNeg x1)), some (.ref (127 + 1 + 2 * Int32.toNatClampNeg x3))]) (st' := []) (h' := hs (sr σ ((127 + 1 + 2 * Int32.toNatClampNeg x3) + 1) (va_cpy (σ ((127 + 1 + 2 * Int32.toNatClampNeg x1) + 1)) (σ ((127 + 1 + 2 * Int32.toNatClampNeg x3) + 1)) (Int32.toNatClampNeg x2) (Int32.toNatClampNeg x4) (Int32.toNatClampNeg x5)))) [(.aload 6, 2, 6, 0, 0, 0, 0, 0), (.getfield 264, 3, 4, 0, 2, 382, 0, 0), (.iload_n 2, 1, 2, 0, 0, 0, 0, 0), (.aload 7, 2, 7, 0, 0, 0, 0, 0), (.getfield 264, 3, 4, 0, 2, 382, 0, 0), (.iload 4, 2, 4, 0, 0, 0, 0, 0), (.iload 5, 2, 5, 0, 0, 0, 0, 0), (.invokestatic 267, 3, 2, 0, 0, 842, 0, 0)] (by decide +kernel) rfl (by simp only [seO (seH o1), seR0 (seH o1), seO (seH o2), seR0 (seH o2), o3, o4, Bool.and_true, Bool.true_and]) ?_
                obtain ⟨σ1, hσ1⟩ : ∃ s9, s9 = (sr σ ((127 + 1 + 2 * Int32.toNatClampNeg x3) + 1) (va_cpy (σ ((127 + 1 + 2 * Int32.toNatClampNeg x1) + 1)) (σ ((127 + 1 + 2 * Int32.toNatClampNeg x3) + 1)) (Int32.toNatClampNeg x2) (Int32.toNatClampNeg x4) (Int32.toNatClampNeg x5))) := ⟨_, rfl⟩
                rw [← hσ1]
                have H := H σ1 hσ1
                refine XA.blk (e9 := 124) (ok := true) (ls' := [some (.ref 0), some (.int x1), some (.int x2), some (.int x3), some (.int x4), some (.int x5), some (.ref (127 + 1 + 2 * Int32.toNatClampNeg x1)), some (.ref (127 + 1 + 2 * Int32.toNatClampNeg x3))]) (st' := [.int 1]) (h' := hs σ1) [(.iconst 1, 1, 0, 0, 0, 0, 1, 0)] (by decide +kernel) rfl rfl ?_
                exact XA.ret (some (.int 1)) rfl (show ckRt mX10_copy 124 .ireturn = true by decide +kernel) trivial (Nat.le_of_ble_eq_true rfl) (Nat.le_of_ble_eq_true rfl) ⟨_, _, rfl, rfl, H⟩
              · have H := H.2 c7
                refine XA.blk (e9 := 101) (ok := true) (ls' := [some (.ref 0), some (.int x1), some (.int x2), some (.int x3), some (.int x4), some (.int x5), some (.ref (127 + 1 + 2 * Int32.toNatClampNeg x1)), some (.ref (127 + 1 + 2 * Int32.toNatClampNeg x3))]) (st' := [.int 2, .ref 0]) (h' := hs σ) [(.aload_n 0, 1, 0, 0, 0, 0, 0, 0), (.iconst 2, 1, 0, 0, 0, 0, 2, 0)] (by decide +kernel) rfl rfl ?_
                refine XA.callV (as := [.int 2]) (rest := []) (mc' := 0) (ms' := 0) (idx := 129) (t := 524) cv_X10_finding (by decide +kernel) rfl rfl rfl (Nat.le_of_ble_eq_true rfl) (Nat.le_of_ble_eq_true rfl) (Nat.le_of_ble_eq_true rfl) (Nat.le_of_ble_eq_true rfl) (H) (fun rv h' hp => ?_)
                obtain ⟨r9, s9, rfl, rfl, hK⟩ := hp
                exact ⟨rfl, rfl, XA.drop (by simp [leL]) hK⟩
          · have H := H.2 c5
            refine XA.blk (e9 := 72) (ok := true) (ls' := [some (.ref 0), some (.int x1), some (.int x2), some (.int x3), some (.int x4), some (.int x5), some (.ref (127 + 1 + 2 * Int32.toNatClampNeg x1)), some (.ref (127 + 1 + 2 * Int32.toNatClampNeg x3))]) (st' := [.int 4, .ref 0]) (h' := hs σ) [(.aload_n 0, 1, 0, 0, 0, 0, 0, 0), (.iconst 4, 1, 0, 0, 0, 0, 4, 0)] (by decide +kernel) rfl rfl ?_
            refine XA.callV (as := [.int 4]) (rest := []) (mc' := 0) (ms' := 0) (idx := 129) (t := 524) cv_X10_finding (by decide +kernel) rfl rfl rfl (Nat.le_of_ble_eq_true rfl) (Nat.le_of_ble_eq_true rfl) (Nat.le_of_ble_eq_true rfl) (Nat.le_of_ble_eq_true rfl) (H) (fun rv h' hp => ?_)
            obtain ⟨r9, s9, rfl, rfl, hK⟩ := hp
            exact ⟨rfl, rfl, XA.drop (by simp [leL]) hK⟩
        · have H := H.2 c4
          refine XA.blk (e9 := 53) (ok := true) (ls' := [some (.ref 0), some (.int x1), some (.int x2), some (.int x3), some (.int x4), some (.int x5), some (.ref (127 + 1 + 2 * Int32.toNatClampNeg x1)), some (.ref (127 + 1 + 2 * Int32.toNatClampNeg x3))]) (st' := [.int 1, .ref 0]) (h' := hs σ) [(.aload_n 0, 1, 0, 0, 0, 0, 0, 0), (.iconst 1, 1, 0, 0, 0, 0, 1, 0)] (by decide +kernel) rfl rfl ?_
          refine XA.callV (as := [.int 1]) (rest := []) (mc' := 0) (ms' := 0) (idx := 129) (t := 524) cv_X10_finding (by decide +kernel) rfl rfl rfl (Nat.le_of_ble_eq_true rfl) (Nat.le_of_ble_eq_true rfl) (Nat.le_of_ble_eq_true rfl) (Nat.le_of_ble_eq_true rfl) (H) (fun rv h' hp => ?_)
          obtain ⟨r9, s9, rfl, rfl, hK⟩ := hp
          exact ⟨rfl, rfl, XA.drop (by simp [leL]) hK⟩
    · have H := H.2 c2
      refine XA.blk (e9 := 18) (ok := true) (ls' := [some (.ref 0), some (.int x1), some (.int x2), some (.int x3), some (.int x4), some (.int x5), none, none]) (st' := [.int (-2)]) (h' := hs σ) [(.bipush (-2), 2, 0, 0, 0, 0, (-2), 0)] (by decide +kernel) rfl rfl ?_
      exact XA.ret (some (.int (-2))) rfl (show ckRt mX10_copy 18 .ireturn = true by decide +kernel) trivial (Nat.le_of_ble_eq_true rfl) (Nat.le_of_ble_eq_true rfl) ⟨_, _, rfl, rfl, H⟩
set_option maxRecDepth 20000 in
theorem W_X10_copy_56 {scr : ScA}   {y0 : Int32}  {σ : Nat → Nat → Int32} {P : Int32 → (Nat → Nat → Int32) → Prop} (H : P y0 σ) : K_X10_copy_56 scr y0 σ P := by
  show XA scr 1 mX10_copy 172 4705 56 [none, none, none, none, none, none, none, none] [.int y0] (hs σ) (pI P)
  exact XA.ret (some (.int y0)) rfl (show ckRt mX10_copy 56 .ireturn = true by decide +kernel) trivial (Nat.le_of_ble_eq_true rfl) (Nat.le_of_ble_eq_true rfl) ⟨_, _, rfl, rfl, H⟩
set_option maxRecDepth 20000 in
theorem W_X10_copy_75 {scr : ScA}   {y0 : Int32}  {σ : Nat → Nat → Int32} {P : Int32 → (Nat → Nat → Int32) → Prop} (H : P y0 σ) : K_X10_copy_75 scr y0 σ P := by
  show XA scr 1 mX10_copy 172 4705 75 [none, none, none, none, none, none, none, none] [.int y0] (hs σ) (pI P)
  exact XA.ret (some (.int y0)) rfl (show ckRt mX10_copy 75 .ireturn = true by decide +kernel) trivial (Nat.le_of_ble_eq_true rfl) (Nat.le_of_ble_eq_true rfl) ⟨_, _, rfl, rfl, H⟩
set_option maxRecDepth 20000 in
theorem W_X10_copy_104 {scr : ScA}   {y0 : Int32}  {σ : Nat → Nat → Int32} {P : Int32 → (Nat → Nat → Int32) → Prop} (H : P y0 σ) : K_X10_copy_104 scr y0 σ P := by
  show XA scr 1 mX10_copy 172 4705 104 [none, none, none, none, none, none, none, none] [.int y0] (hs σ) (pI P)
  exact XA.ret (some (.int y0)) rfl (show ckRt mX10_copy 104 .ireturn = true by decide +kernel) trivial (Nat.le_of_ble_eq_true rfl) (Nat.le_of_ble_eq_true rfl) ⟨_, _, rfl, rfl, H⟩
theorem E_X10_copy {scr : ScA}  {x1 : Int32} {x2 : Int32} {x3 : Int32} {x4 : Int32} {x5 : Int32} {σ : Nat → Nat → Int32} {P : Int32 → (Nat → Nat → Int32) → Prop} (h : K_X10_copy_0 scr x1 x2 x3 x4 x5 σ P) : CiA scr 1 mX10_copy [.ref 0, .int x1, .int x2, .int x3, .int x4, .int x5] σ P := CtA.of (by decide) (Nat.le_of_ble_eq_true rfl) (XA.drop (by simp [leL, enL]) h)
def K_X10_write_0 (scr : ScA)  (x1 : Int32) (x2 : Int32) (σ : Nat → Nat → Int32) (P : Int32 → (Nat → Nat → Int32) → Prop) : Prop := XA scr 6 mX10_write 172 4705 0 [some (.ref 0), some (.int x1), some (.int x2), none, none, none] [] (hs σ) (pI P)
def K_X10_write_39 (scr : ScA)  (y0 : Int32) (σ : Nat → Nat → Int32) (P : Int32 → (Nat → Nat → Int32) → Prop) : Prop := XA scr 6 mX10_write 172 4705 39 [none, none, none, none, none, none] [.int y0] (hs σ) (pI P)
def K_X10_write_54 (scr : ScA)  (x1 : Int32) (u3 : Nat) (x4 : Int32) (x5 : Int32) (σ : Nat → Nat → Int32) (P : Int32 → (Nat → Nat → Int32) → Prop) : Prop := XA scr 6 mX10_write 172 4705 54 [some (.ref 0), some (.int x1), none, some (.ref u3), some (.int x4), some (.int x5)] [] (hs σ) (pI P)
def K_X10_write_71 (scr : ScA)  (x1 : Int32) (u3 : Nat) (x4 : Int32) (x5 : Int32) (w0 : Nat) (y1 : Int32) (y2 : Int32) (σ : Nat → Nat → Int32) (P : Int32 → (Nat → Nat → Int32) → Prop) : Prop := XA scr 6 mX10_write 172 4705 71 [some (.ref 0), some (.int x1), none, some (.ref u3), some (.int x4), some (.int x5)] [.int y2, .int y1, .ref w0] (hs σ) (pI P)
def K_X10_write_74 (scr : ScA)  (x1 : Int32) (u3 : Nat) (x4 : Int32) (x5 : Int32) (σ : Nat → Nat → Int32) (P : Int32 → (Nat → Nat → Int32) → Prop) : Prop := XA scr 6 mX10_write 172 4705 74 [some (.ref 0), some (.int x1), none, some (.ref u3), some (.int x4), some (.int x5)] [] (hs σ) (pI P)
set_option maxRecDepth 20000 in
theorem W_X10_write_0 {scr : ScA}   {x1 : Int32} {x2 : Int32}  {σ : Nat → Nat → Int32} {P : Int32 → (Nat → Nat → Int32) → Prop} (H : ((isW x1 24) = 0 → P (-2) σ) ∧ (¬ (isW x1 24) = 0 → (¬ (isW x2 4) = 0 → (inB x2 4 = true) ∧ (((σ (127 + 1 + 2 * Int32.toNatClampNeg x2) 3) = 0 → K_X10_write_54 scr x1 (127 + 1 + 2 * Int32.toNatClampNeg x2) (if σ (127 + 1 + 2 * Int32.toNatClampNeg x2) 2 < 10 then σ (127 + 1 + 2 * Int32.toNatClampNeg x2) 2 else 10 : Int32) 0 σ P) ∧ (¬ (σ (127 + 1 + 2 * Int32.toNatClampNeg x2) 3) = 0 → CiA scr 0 mX10_finding [.ref 0, .int 1] σ (fun r9 σ' => K_X10_write_39 scr r9 σ' P)))) ∧ ((isW x2 4) = 0 → P (-2) σ))) : K_X10_write_0 scr x1 x2 σ P := by
  show XA scr 6 mX10_write 172 4705 0 [some (.ref 0), some (.int x1), some (.int x2), none, none, none] [] (hs σ) (pI P)
  refine XA.blk (e9 := 3) (ok := true) (ls' := [some (.ref 0), some (.int x1), some (.int x2), none, none, none]) (st' := [.int 24, .int x1]) (h' := hs σ) [(.iload_n 1, 1, 1, 0, 0, 0, 0, 0), (.bipush 24, 2, 0, 0, 0, 0, 24, 0)] (by decide +kernel) rfl rfl ?_
  refine XA.callS (as := [.int x1, .int 24]) (rest := []) (mc' := 0) (ms' := 0) (idx := 84) (t := 445) cs_X10_isWithin (by decide +kernel) rfl rfl (Nat.le_of_ble_eq_true rfl) (Nat.le_of_ble_eq_true rfl) (Nat.le_of_ble_eq_true rfl) (Nat.le_of_ble_eq_true rfl) (pu_X10_isWithin scr σ x1 24) (fun rv h' hp => ?_)
  obtain ⟨rfl, rfl⟩ := hp
  refine ⟨rfl, rfl, ?_⟩
  show XA scr 6 mX10_write 172 4705 6 [some (.ref 0), some (.int x1), some (.int x2), none, none, none] [.int (isW x1 24)] (hs σ) (pI P)
  refine XA.if_eq (11) 17 (by decide +kernel) (fun c1 => ?_) (fun c1 => ?_)
  · have H := H.1 c1
    refine XA.blk (e9 := 19) (ok := true) (ls' := [some (.ref 0), some (.int x1), some (.int x2), none, none, none]) (st' := [.int (-2)]) (h' := hs σ) [(.bipush (-2), 2, 0, 0, 0, 0, (-2), 0)] (by decide +kernel) rfl rfl ?_
    exact XA.ret (some (.int (-2))) rfl (show ckRt mX10_write 19 .ireturn = true by decide +kernel) trivial (Nat.le_of_ble_eq_true rfl) (Nat.le_of_ble_eq_true rfl) ⟨_, _, rfl, rfl, H⟩
  · have H := H.2 c1
    refine XA.blk (e9 := 11) (ok := true) (ls' := [some (.ref 0), some (.int x1), some (.int x2), none, none, none]) (st' := [.int 4, .int x2]) (h' := hs σ) [(.iload_n 2, 1, 2, 0, 0, 0, 0, 0), (.iconst 4, 1, 0, 0, 0, 0, 4, 0)] (by decide +kernel) rfl rfl ?_
    refine XA.callS (as := [.int x2, .int 4]) (rest := []) (mc' := 0) (ms' := 0) (idx := 84) (t := 445) cs_X10_isWithin (by decide +kernel) rfl rfl (Nat.le_of_ble_eq_true rfl) (Nat.le_of_ble_eq_true rfl) (Nat.le_of_ble_eq_true rfl) (Nat.le_of_ble_eq_true rfl) (pu_X10_isWithin scr σ x2 4) (fun rv h' hp => ?_)
    obtain ⟨rfl, rfl⟩ := hp
    refine ⟨rfl, rfl, ?_⟩
    show XA scr 6 mX10_write 172 4705 14 [some (.ref 0), some (.int x1), some (.int x2), none, none, none] [.int (isW x2 4)] (hs σ) (pI P)
    refine XA.if_ne (6) 20 (by decide +kernel) (fun c2 => ?_) (fun c2 => ?_)
    · have H := H.1 c2
      obtain ⟨o1, H⟩ := H
      refine XA.blk (e9 := 31) (ok := (inB x2 4 && (true && kR R0 127 (Int32.toNatClampNeg x2) (127 + 1 + 2 * Int32.toNatClampNeg x2))) && (kO 172 S0 (127 + 1 + 2 * Int32.toNatClampNeg x2) 4 && (true))) (ls' := [some (.ref 0), some (.int x1), some (.int x2), some (.ref (127 + 1 + 2 * Int32.toNatClampNeg x2)), none, none]) (st' := [.int (σ (127 + 1 + 2 * Int32.toNatClampNeg x2) 3)]) (h' := hs σ) [(.aload_n 0, 1, 0, 0, 0, 0, 0, 0), (.getfield 75, 3, 10, 10, 128, 408, 0, 0), (.iload_n 2, 1, 2, 0, 0, 0, 0, 0), (.aaload, 1, 1, 2, 1, 0, 0, 0), (.astore_n 3, 1, 3, 0, 0, 0, 0, 0), (.aload_n 3, 1, 3, 0, 0, 0, 0, 0), (.getfield 125, 3, 4, 3, 0, 388, 0, 0)] (by decide +kernel) rfl (by simp only [seK o1, seO (seH o1), o1, Bool.and_true, Bool.true_and]) ?_
      refine XA.if_eq (9) 40 (by decide +kernel) (fun c3 => ?_) (fun c3 => ?_)
      · have H := H.1 c3
        refine XA.blk (e9 := 54) (ok := kO 172 S0 (127 + 1 + 2 * Int32.toNatClampNeg x2) 4 && (true)) (ls' := [some (.ref 0), some (.int x1), some (.int x2), some (.ref (127 + 1 + 2 * Int32.toNatClampNeg x2)), some (.int (if σ (127 + 1 + 2 * Int32.toNatClampNeg x2) 2 < 10 then σ (127 + 1 + 2 * Int32.toNatClampNeg x2) 2 else 10 : Int32)), some (.int 0)]) (st' := []) (h' := hs σ) [(.bipush 10, 2, 0, 0, 0, 0, 10, 0), (.aload_n 3, 1, 3, 0, 0, 0, 0, 0), (.getfield 133, 3, 4, 2, 0, 386, 0, 0), (.invokestatic 273, 3, 1, 0, 0, 847, 0, 0), (.istore 4, 2, 4, 0, 0, 0, 0, 0), (.iconst 0, 1, 0, 0, 0, 0, 0, 0), (.istore 5, 2, 5, 0, 0, 0, 0, 0)] (by decide +kernel) rfl (by simp only [seO (seH o1), Bool.and_true, Bool.true_and]) ?_
        exact XA.drop (by simp [leL]) H
      · have H := H.2 c3
        refine XA.blk (e9 := 36) (ok := true) (ls' := [some (.ref 0), some (.int x1), some (.int x2), some (.ref (127 + 1 + 2 * Int32.toNatClampNeg x2)), none, none]) (st' := [.int 1, .ref 0]) (h' := hs σ) [(.aload_n 0, 1, 0, 0, 0, 0, 0, 0), (.iconst 1, 1, 0, 0, 0, 0, 1, 0)] (by decide +kernel) rfl rfl ?_
        refine XA.callV (as := [.int 1]) (rest := []) (mc' := 0) (ms' := 0) (idx := 129) (t := 524) cv_X10_finding (by decide +kernel) rfl rfl rfl (Nat.le_of_ble_eq_true rfl) (Nat.le_of_ble_eq_true rfl) (Nat.le_of_ble_eq_true rfl) (Nat.le_of_ble_eq_true rfl) (H) (fun rv h' hp => ?_)
        obtain ⟨r9, s9, rfl, rfl, hK⟩ := hp
        exact ⟨rfl, rfl, XA.drop (by simp [leL]) hK⟩
    · have H := H.2 c2
      refine XA.blk (e9 := 19) (ok := true) (ls' := [some (.ref 0), some (.int x1), some (.int x2), none, none, none]) (st' := [.int (-2)]) (h' := hs σ) [(.bipush (-2), 2, 0, 0, 0, 0, (-2), 0)] (by decide +kernel) rfl rfl ?_
      exact XA.ret (some (.int (-2))) rfl (show ckRt mX10_write 19 .ireturn = true by decide +kernel) trivial (Nat.le_of_ble_eq_true rfl) (Nat.le_of_ble_eq_true rfl) ⟨_, _, rfl, rfl, H⟩
set_option maxRecDepth 20000 in
theorem W_X10_write_39 {scr : ScA}   {y0 : Int32}  {σ : Nat → Nat → Int32} {P : Int32 → (Nat → Nat → Int32) → Prop} (H : P y0 σ) : K_X10_write_39 scr y0 σ P := by
  show XA scr 6 mX10_write 172 4705 39 [none, none, none, none, none, none] [.int y0] (hs σ) (pI P)
  exact XA.ret (some (.int y0)) rfl (show ckRt mX10_write 39 .ireturn = true by decide +kernel) trivial (Nat.le_of_ble_eq_true rfl) (Nat.le_of_ble_eq_true rfl) ⟨_, _, rfl, rfl, H⟩
set_option maxRecDepth 20000 in
theorem W_X10_write_54 {scr : ScA}   {x1 : Int32} {u3 : Nat} {x4 : Int32} {x5 : Int32} (hu3 : isSe u3) {σ : Nat → Nat → Int32} {P : Int32 → (Nat → Nat → Int32) → Prop} (H : (x4 ≤ x5 → P x4 σ) ∧ (¬ x4 ≤ x5 → CiA scr 5 mX10_stands [.ref 0, .int x1, .int x5] σ (fun r9 σ' => K_X10_write_71 scr x1 u3 x4 x5 u3 x5 r9 σ' P))) : K_X10_write_54 scr x1 u3 x4 x5 σ P := by
  show XA scr 6 mX10_write 172 4705 54 [some (.ref 0), some (.int x1), none, some (.ref u3), some (.int x4), some (.int x5)] [] (hs σ) (pI P)
  refine XA.blk (e9 := 58) (ok := true) (ls' := [some (.ref 0), some (.int x1), none, some (.ref u3), some (.int x4), some (.int x5)]) (st' := [.int x4, .int x5]) (h' := hs σ) [(.iload 5, 2, 5, 0, 0, 0, 0, 0), (.iload 4, 2, 4, 0, 0, 0, 0, 0)] (by decide +kernel) rfl rfl ?_
  refine XA.icmp_ge (22) 80 (by decide +kernel) (fun c1 => ?_) (fun c1 => ?_)
  · have H := H.1 c1
    refine XA.blk (e9 := 82) (ok := true) (ls' := [some (.ref 0), some (.int x1), none, some (.ref u3), some (.int x4), some (.int x5)]) (st' := [.int x4]) (h' := hs σ) [(.iload 4, 2, 4, 0, 0, 0, 0, 0)] (by decide +kernel) rfl rfl ?_
    exact XA.ret (some (.int x4)) rfl (show ckRt mX10_write 82 .ireturn = true by decide +kernel) trivial (Nat.le_of_ble_eq_true rfl) (Nat.le_of_ble_eq_true rfl) ⟨_, _, rfl, rfl, H⟩
  · have H := H.2 c1
    refine XA.blk (e9 := 68) (ok := true) (ls' := [some (.ref 0), some (.int x1), none, some (.ref u3), some (.int x4), some (.int x5)]) (st' := [.int x5, .int x1, .ref 0, .int x5, .ref u3]) (h' := hs σ) [(.aload_n 3, 1, 3, 0, 0, 0, 0, 0), (.iload 5, 2, 5, 0, 0, 0, 0, 0), (.aload_n 0, 1, 0, 0, 0, 0, 0, 0), (.iload_n 1, 1, 1, 0, 0, 0, 0, 0), (.iload 5, 2, 5, 0, 0, 0, 0, 0)] (by decide +kernel) rfl rfl ?_
    refine XA.callV (as := [.int x1, .int x5]) (rest := [.int x5, .ref u3]) (mc' := 0) (ms' := 0) (idx := 278) (t := 848) cv_X10_stands (by decide +kernel) rfl rfl rfl (Nat.le_of_ble_eq_true rfl) (Nat.le_of_ble_eq_true rfl) (Nat.le_of_ble_eq_true rfl) (Nat.le_of_ble_eq_true rfl) (H) (fun rv h' hp => ?_)
    obtain ⟨r9, s9, rfl, rfl, hK⟩ := hp
    exact ⟨rfl, rfl, hK⟩
set_option maxRecDepth 20000 in
theorem W_X10_write_71 {scr : ScA}   {x1 : Int32} {u3 : Nat} {x4 : Int32} {x5 : Int32} {w0 : Nat} {y1 : Int32} {y2 : Int32} (hu3 : isSe u3) (hw0 : isSe w0) {σ : Nat → Nat → Int32} {P : Int32 → (Nat → Nat → Int32) → Prop} (H : CvA scr 1 mX4_setItem [.ref w0, .int y1, .int y2] σ (fun σ' => K_X10_write_74 scr x1 u3 x4 x5 σ' P)) : K_X10_write_71 scr x1 u3 x4 x5 w0 y1 y2 σ P := by
  show XA scr 6 mX10_write 172 4705 71 [some (.ref 0), some (.int x1), none, some (.ref u3), some (.int x4), some (.int x5)] [.int y2, .int y1, .ref w0] (hs σ) (pI P)
  refine XA.callV (as := [.int y1, .int y2]) (rest := []) (mc' := 0) (ms' := 0) (idx := 251) (t := 825) cv_X4_setItem (by decide +kernel) (seO hw0) rfl rfl (Nat.le_of_ble_eq_true rfl) (Nat.le_of_ble_eq_true rfl) (Nat.le_of_ble_eq_true rfl) (Nat.le_of_ble_eq_true rfl) (H) (fun rv h' hp => ?_)
  obtain ⟨s9, rfl, rfl, hK⟩ := hp
  exact ⟨rfl, rfl, hK⟩
set_option maxRecDepth 20000 in
theorem W_X10_write_74 {scr : ScA}   {x1 : Int32} {u3 : Nat} {x4 : Int32} {x5 : Int32} (hu3 : isSe u3) {σ : Nat → Nat → Int32} {P : Int32 → (Nat → Nat → Int32) → Prop} (H : K_X10_write_54 scr x1 u3 x4 (x5 + 1) σ P) : K_X10_write_74 scr x1 u3 x4 x5 σ P := by
  show XA scr 6 mX10_write 172 4705 74 [some (.ref 0), some (.int x1), none, some (.ref u3), some (.int x4), some (.int x5)] [] (hs σ) (pI P)
  refine XA.blk (e9 := 54) (ok := true) (ls' := [some (.ref 0), some (.int x1), none, some (.ref u3), some (.int x4), some (.int (x5 + 1))]) (st' := []) (h' := hs σ) [(.iinc 5 1, 3, 5, 0, 0, 0, 1, 0), (.goto (-23), 3, 54, 0, 0, 0, 0, 0)] (by decide +kernel) rfl rfl ?_
  exact H
theorem E_X10_write {scr : ScA}  {x1 : Int32} {x2 : Int32} {σ : Nat → Nat → Int32} {P : Int32 → (Nat → Nat → Int32) → Prop} (h : K_X10_write_0 scr x1 x2 σ P) : CiA scr 6 mX10_write [.ref 0, .int x1, .int x2] σ P := CtA.of (by decide) (Nat.le_of_ble_eq_true rfl) (XA.drop (by simp [leL, enL]) h)
def K_X10_count_0 (scr : ScA)  (x1 : Int32) (σ : Nat → Nat → Int32) (P : Int32 → (Nat → Nat → Int32) → Prop) : Prop := XA scr 6 mX10_count 172 4705 0 [some (.ref 0), some (.int x1)] [] (hs σ) (pI P)
def K_X10_count_81 (scr : ScA)  (y0 : Int32) (σ : Nat → Nat → Int32) (P : Int32 → (Nat → Nat → Int32) → Prop) : Prop := XA scr 6 mX10_count 172 4705 81 [none, none] [.int y0] (hs σ) (pI P)
def K_X10_count_87 (scr : ScA)  (y0 : Int32) (σ : Nat → Nat → Int32) (P : Int32 → (Nat → Nat → Int32) → Prop) : Prop := XA scr 6 mX10_count 172 4705 87 [none, none] [.int y0] (hs σ) (pI P)
def K_X10_count_95 (scr : ScA)  (y0 : Int32) (σ : Nat → Nat → Int32) (P : Int32 → (Nat → Nat → Int32) → Prop) : Prop := XA scr 6 mX10_count 172 4705 95 [none, none] [.int y0] (hs σ) (pI P)
def K_X10_count_103 (scr : ScA)  (y0 : Int32) (σ : Nat → Nat → Int32) (P : Int32 → (Nat → Nat → Int32) → Prop) : Prop := XA scr 6 mX10_count 172 4705 103 [none, none] [.int y0] (hs σ) (pI P)
set_option maxRecDepth 20000 in
theorem W_X10_count_0 {scr : ScA}   {x1 : Int32}  {σ : Nat → Nat → Int32} {P : Int32 → (Nat → Nat → Int32) → Prop} (H : (x1 = 0 → P (σ 3 6) σ) ∧ (x1 = 1 → P (σ 1 1) σ) ∧ (x1 = 2 → P (σ 10 3) σ) ∧ (x1 = 3 → CiA scr 5 mX10_sum [.ref 0, .int 0] σ (fun r9 σ' => K_X10_count_81 scr r9 σ' P)) ∧ (x1 = 4 → CiA scr 5 mX10_sum [.ref 0, .int 1] σ (fun r9 σ' => K_X10_count_87 scr r9 σ' P)) ∧ (x1 = 5 → CiA scr 5 mX10_tower [.ref 0, .int 23, .int 0] σ (fun r9 σ' => K_X10_count_95 scr r9 σ' P)) ∧ (x1 = 6 → CiA scr 5 mX10_tower [.ref 0, .int 23, .int 1] σ (fun r9 σ' => K_X10_count_103 scr r9 σ' P)) ∧ (x1 = 7 → P (σ 14 3) σ) ∧ (x1 = 8 → P (σ 0 13) σ) ∧ (¬ x1 = 0 → ¬ x1 = 1 → ¬ x1 = 2 → ¬ x1 = 3 → ¬ x1 = 4 → ¬ x1 = 5 → ¬ x1 = 6 → ¬ x1 = 7 → ¬ x1 = 8 → P (-2) σ)) : K_X10_count_0 scr x1 σ P := by
  show XA scr 6 mX10_count 172 4705 0 [some (.ref 0), some (.int x1)] [] (hs σ) (pI P)
  refine XA.blk (e9 := 1) (ok := true) (ls' := [some (.ref 0), some (.int x1)]) (st' := [.int x1]) (h' := hs σ) [(.iload_n 1, 1, 1, 0, 0, 0, 0, 0)] (by decide +kernel) rfl rfl ?_
  refine XA.tsw (116) (0) (8) [51, 59, 67, 75, 81, 87, 95, 103, 111] 51 [(0, 52), (1, 60), (2, 68), (3, 76), (4, 82), (5, 88), (6, 96), (7, 104), (8, 112)] 117 (by decide +kernel) (fun q9 hq9 e9 => ?_) (fun e9 => ?_)
  · simp only [List.mem_cons, List.not_mem_nil, or_false] at hq9
    rcases hq9 with rfl | rfl | rfl | rfl | rfl | rfl | rfl | rfl | rfl
    · have H := H.1 e9
      refine XA.blk (e9 := 59) (ok := true) (ls' := [some (.ref 0), some (.int x1)]) (st' := [.int (σ 3 6)]) (h' := hs σ) [(.aload_n 0, 1, 0, 0, 0, 0, 0, 0), (.getfield 19, 3, 10, 1, 4, 399, 0, 0), (.getfield 98, 3, 8, 6, 0, 143, 0, 0)] (by decide +kernel) rfl rfl ?_
      exact XA.ret (some (.int (σ 3 6))) rfl (show ckRt mX10_count 59 .ireturn = true by decide +kernel) trivial (Nat.le_of_ble_eq_true rfl) (Nat.le_of_ble_eq_true rfl) ⟨_, _, rfl, rfl, H⟩
    · have H := H.2.1 e9
      refine XA.blk (e9 := 67) (ok := true) (ls' := [some (.ref 0), some (.int x1)]) (st' := [.int (σ 1 1)]) (h' := hs σ) [(.aload_n 0, 1, 0, 0, 0, 0, 0, 0), (.getfield 10, 3, 10, 0, 2, 398, 0, 0), (.getfield 88, 3, 7, 1, 0, 97, 0, 0)] (by decide +kernel) rfl rfl ?_
      exact XA.ret (some (.int (σ 1 1))) rfl (show ckRt mX10_count 67 .ireturn = true by decide +kernel) trivial (Nat.le_of_ble_eq_true rfl) (Nat.le_of_ble_eq_true rfl) ⟨_, _, rfl, rfl, H⟩
    · have H := H.2.2.1 e9
      refine XA.blk (e9 := 75) (ok := true) (ls' := [some (.ref 0), some (.int x1)]) (st' := [.int (σ 10 3)]) (h' := hs σ) [(.aload_n 0, 1, 0, 0, 0, 0, 0, 0), (.getfield 26, 3, 10, 2, 11, 400, 0, 0), (.getfield 117, 3, 1, 3, 0, 175, 0, 0)] (by decide +kernel) rfl rfl ?_
      exact XA.ret (some (.int (σ 10 3))) rfl (show ckRt mX10_count 75 .ireturn = true by decide +kernel) trivial (Nat.le_of_ble_eq_true rfl) (Nat.le_of_ble_eq_true rfl) ⟨_, _, rfl, rfl, H⟩
    · have H := H.2.2.2.1 e9
      refine XA.blk (e9 := 78) (ok := true) (ls' := [some (.ref 0), some (.int x1)]) (st' := [.int 0, .ref 0]) (h' := hs σ) [(.aload_n 0, 1, 0, 0, 0, 0, 0, 0), (.iconst 0, 1, 0, 0, 0, 0, 0, 0)] (by decide +kernel) rfl rfl ?_
      refine XA.callV (as := [.int 0]) (rest := []) (mc' := 0) (ms' := 0) (idx := 281) (t := 853) cv_X10_sum (by decide +kernel) rfl rfl rfl (Nat.le_of_ble_eq_true rfl) (Nat.le_of_ble_eq_true rfl) (Nat.le_of_ble_eq_true rfl) (Nat.le_of_ble_eq_true rfl) (H) (fun rv h' hp => ?_)
      obtain ⟨r9, s9, rfl, rfl, hK⟩ := hp
      exact ⟨rfl, rfl, XA.drop (by simp [leL]) hK⟩
    · have H := H.2.2.2.2.1 e9
      refine XA.blk (e9 := 84) (ok := true) (ls' := [some (.ref 0), some (.int x1)]) (st' := [.int 1, .ref 0]) (h' := hs σ) [(.aload_n 0, 1, 0, 0, 0, 0, 0, 0), (.iconst 1, 1, 0, 0, 0, 0, 1, 0)] (by decide +kernel) rfl rfl ?_
      refine XA.callV (as := [.int 1]) (rest := []) (mc' := 0) (ms' := 0) (idx := 281) (t := 853) cv_X10_sum (by decide +kernel) rfl rfl rfl (Nat.le_of_ble_eq_true rfl) (Nat.le_of_ble_eq_true rfl) (Nat.le_of_ble_eq_true rfl) (Nat.le_of_ble_eq_true rfl) (H) (fun rv h' hp => ?_)
      obtain ⟨r9, s9, rfl, rfl, hK⟩ := hp
      exact ⟨rfl, rfl, XA.drop (by simp [leL]) hK⟩
    · have H := H.2.2.2.2.2.1 e9
      refine XA.blk (e9 := 92) (ok := true) (ls' := [some (.ref 0), some (.int x1)]) (st' := [.int 0, .int 23, .ref 0]) (h' := hs σ) [(.aload_n 0, 1, 0, 0, 0, 0, 0, 0), (.bipush 23, 2, 0, 0, 0, 0, 23, 0), (.iconst 0, 1, 0, 0, 0, 0, 0, 0)] (by decide +kernel) rfl rfl ?_
      refine XA.callV (as := [.int 23, .int 0]) (rest := []) (mc' := 0) (ms' := 0) (idx := 284) (t := 854) cv_X10_tower (by decide +kernel) rfl rfl rfl (Nat.le_of_ble_eq_true rfl) (Nat.le_of_ble_eq_true rfl) (Nat.le_of_ble_eq_true rfl) (Nat.le_of_ble_eq_true rfl) (H) (fun rv h' hp => ?_)
      obtain ⟨r9, s9, rfl, rfl, hK⟩ := hp
      exact ⟨rfl, rfl, XA.drop (by simp [leL]) hK⟩
    · have H := H.2.2.2.2.2.2.1 e9
      refine XA.blk (e9 := 100) (ok := true) (ls' := [some (.ref 0), some (.int x1)]) (st' := [.int 1, .int 23, .ref 0]) (h' := hs σ) [(.aload_n 0, 1, 0, 0, 0, 0, 0, 0), (.bipush 23, 2, 0, 0, 0, 0, 23, 0), (.iconst 1, 1, 0, 0, 0, 0, 1, 0)] (by decide +kernel) rfl rfl ?_
      refine XA.callV (as := [.int 23, .int 1]) (rest := []) (mc' := 0) (ms' := 0) (idx := 284) (t := 854) cv_X10_tower (by decide +kernel) rfl rfl rfl (Nat.le_of_ble_eq_true rfl) (Nat.le_of_ble_eq_true rfl) (Nat.le_of_ble_eq_true rfl) (Nat.le_of_ble_eq_true rfl) (H) (fun rv h' hp => ?_)
      obtain ⟨r9, s9, rfl, rfl, hK⟩ := hp
      exact ⟨rfl, rfl, XA.drop (by simp [leL]) hK⟩
    · have H := H.2.2.2.2.2.2.2.1 e9
      refine XA.blk (e9 := 111) (ok := true) (ls' := [some (.ref 0), some (.int x1)]) (st' := [.int (σ 14 3)]) (h' := hs σ) [(.aload_n 0, 1, 0, 0, 0, 0, 0, 0), (.getfield 33, 3, 10, 3, 15, 401, 0, 0), (.getfield 201, 3, 6, 3, 0, 195, 0, 0)] (by decide +kernel) rfl rfl ?_
      exact XA.ret (some (.int (σ 14 3))) rfl (show ckRt mX10_count 111 .ireturn = true by decide +kernel) trivial (Nat.le_of_ble_eq_true rfl) (Nat.le_of_ble_eq_true rfl) ⟨_, _, rfl, rfl, H⟩
    · have H := H.2.2.2.2.2.2.2.2.1 e9
      refine XA.blk (e9 := 116) (ok := true) (ls' := [some (.ref 0), some (.int x1)]) (st' := [.int (σ 0 13)]) (h' := hs σ) [(.aload_n 0, 1, 0, 0, 0, 0, 0, 0), (.getfield 255, 3, 10, 13, 0, 411, 0, 0)] (by decide +kernel) rfl rfl ?_
      exact XA.ret (some (.int (σ 0 13))) rfl (show ckRt mX10_count 116 .ireturn = true by decide +kernel) trivial (Nat.le_of_ble_eq_true rfl) (Nat.le_of_ble_eq_true rfl) ⟨_, _, rfl, rfl, H⟩
  · have H := H.2.2.2.2.2.2.2.2.2 (e9 (0, 52) (by simp)) (e9 (1, 60) (by simp)) (e9 (2, 68) (by simp)) (e9 (3, 76) (by simp)) (e9 (4, 82) (by simp)) (e9 (5, 88) (by simp)) (e9 (6, 96) (by simp)) (e9 (7, 104) (by simp)) (e9 (8, 112) (by simp))
    refine XA.blk (e9 := 119) (ok := true) (ls' := [some (.ref 0), some (.int x1)]) (st' := [.int (-2)]) (h' := hs σ) [(.bipush (-2), 2, 0, 0, 0, 0, (-2), 0)] (by decide +kernel) rfl rfl ?_
    exact XA.ret (some (.int (-2))) rfl (show ckRt mX10_count 119 .ireturn = true by decide +kernel) trivial (Nat.le_of_ble_eq_true rfl) (Nat.le_of_ble_eq_true rfl) ⟨_, _, rfl, rfl, H⟩
set_option maxRecDepth 20000 in
theorem W_X10_count_81 {scr : ScA}   {y0 : Int32}  {σ : Nat → Nat → Int32} {P : Int32 → (Nat → Nat → Int32) → Prop} (H : P y0 σ) : K_X10_count_81 scr y0 σ P := by
  show XA scr 6 mX10_count 172 4705 81 [none, none] [.int y0] (hs σ) (pI P)
  exact XA.ret (some (.int y0)) rfl (show ckRt mX10_count 81 .ireturn = true by decide +kernel) trivial (Nat.le_of_ble_eq_true rfl) (Nat.le_of_ble_eq_true rfl) ⟨_, _, rfl, rfl, H⟩
set_option maxRecDepth 20000 in
theorem W_X10_count_87 {scr : ScA}   {y0 : Int32}  {σ : Nat → Nat → Int32} {P : Int32 → (Nat → Nat → Int32) → Prop} (H : P y0 σ) : K_X10_count_87 scr y0 σ P := by
  show XA scr 6 mX10_count 172 4705 87 [none, none] [.int y0] (hs σ) (pI P)
  exact XA.ret (some (.int y0)) rfl (show ckRt mX10_count 87 .ireturn = true by decide +kernel) trivial (Nat.le_of_ble_eq_true rfl) (Nat.le_of_ble_eq_true rfl) ⟨_, _, rfl, rfl, H⟩
set_option maxRecDepth 20000 in
theorem W_X10_count_95 {scr : ScA}   {y0 : Int32}  {σ : Nat → Nat → Int32} {P : Int32 → (Nat → Nat → Int32) → Prop} (H : P y0 σ) : K_X10_count_95 scr y0 σ P := by
  show XA scr 6 mX10_count 172 4705 95 [none, none] [.int y0] (hs σ) (pI P)
  exact XA.ret (some (.int y0)) rfl (show ckRt mX10_count 95 .ireturn = true by decide +kernel) trivial (Nat.le_of_ble_eq_true rfl) (Nat.le_of_ble_eq_true rfl) ⟨_, _, rfl, rfl, H⟩
set_option maxRecDepth 20000 in
theorem W_X10_count_103 {scr : ScA}   {y0 : Int32}  {σ : Nat → Nat → Int32} {P : Int32 → (Nat → Nat → Int32) → Prop} (H : P y0 σ) : K_X10_count_103 scr y0 σ P := by
  show XA scr 6 mX10_count 172 4705 103 [none, none] [.int y0] (hs σ) (pI P)
  exact XA.ret (some (.int y0)) rfl (show ckRt mX10_count 103 .ireturn = true by decide +kernel) trivial (Nat.le_of_ble_eq_true rfl) (Nat.le_of_ble_eq_true rfl) ⟨_, _, rfl, rfl, H⟩
theorem E_X10_count {scr : ScA}  {x1 : Int32} {σ : Nat → Nat → Int32} {P : Int32 → (Nat → Nat → Int32) → Prop} (h : K_X10_count_0 scr x1 σ P) : CiA scr 6 mX10_count [.ref 0, .int x1] σ P := CtA.of (by decide) (Nat.le_of_ble_eq_true rfl) (XA.drop (by simp [leL, enL]) h)
def K_X10_digest_0 (scr : ScA)   (σ : Nat → Nat → Int32) (P : Int64 → (Nat → Nat → Int32) → Prop) : Prop := XA scr 7 mX10_digest 172 4705 0 [some (.ref 0), none, none, none] [] (hs σ) (pJ P)
def K_X10_digest_6 (scr : ScA)  (x1 : Int64) (x3 : Int32) (σ : Nat → Nat → Int32) (P : Int64 → (Nat → Nat → Int32) → Prop) : Prop := XA scr 7 mX10_digest 172 4705 6 [some (.ref 0), some (.long x1), none, some (.int x3)] [] (hs σ) (pJ P)
def K_X10_digest_18 (scr : ScA)  (x3 : Int32) (y0 : Int64) (y1 : Int32) (σ : Nat → Nat → Int32) (P : Int64 → (Nat → Nat → Int32) → Prop) : Prop := XA scr 7 mX10_digest 172 4705 18 [some (.ref 0), none, none, some (.int x3)] [.int y1, .long y0] (hs σ) (pJ P)
def K_X10_digest_34 (scr : ScA)  (y0 : Int64) (y1 : Int32) (σ : Nat → Nat → Int32) (P : Int64 → (Nat → Nat → Int32) → Prop) : Prop := XA scr 7 mX10_digest 172 4705 34 [some (.ref 0), none, none, none] [.int y1, .long y0] (hs σ) (pJ P)
def K_X10_digest_41 (scr : ScA)  (x1 : Int64) (x3 : Int32) (σ : Nat → Nat → Int32) (P : Int64 → (Nat → Nat → Int32) → Prop) : Prop := XA scr 7 mX10_digest 172 4705 41 [some (.ref 0), some (.long x1), none, some (.int x3)] [] (hs σ) (pJ P)
def K_X10_digest_54 (scr : ScA)  (x3 : Int32) (y0 : Int64) (y1 : Int32) (σ : Nat → Nat → Int32) (P : Int64 → (Nat → Nat → Int32) → Prop) : Prop := XA scr 7 mX10_digest 172 4705 54 [some (.ref 0), none, none, some (.int x3)] [.int y1, .long y0] (hs σ) (pJ P)
def K_X10_digest_66 (scr : ScA)  (x3 : Int32) (y0 : Int64) (y1 : Int32) (σ : Nat → Nat → Int32) (P : Int64 → (Nat → Nat → Int32) → Prop) : Prop := XA scr 7 mX10_digest 172 4705 66 [some (.ref 0), none, none, some (.int x3)] [.int y1, .long y0] (hs σ) (pJ P)
def K_X10_digest_78 (scr : ScA)  (x3 : Int32) (y0 : Int64) (y1 : Int32) (σ : Nat → Nat → Int32) (P : Int64 → (Nat → Nat → Int32) → Prop) : Prop := XA scr 7 mX10_digest 172 4705 78 [some (.ref 0), none, none, some (.int x3)] [.int y1, .long y0] (hs σ) (pJ P)
def K_X10_digest_90 (scr : ScA)  (x3 : Int32) (y0 : Int64) (y1 : Int32) (σ : Nat → Nat → Int32) (P : Int64 → (Nat → Nat → Int32) → Prop) : Prop := XA scr 7 mX10_digest 172 4705 90 [some (.ref 0), none, none, some (.int x3)] [.int y1, .long y0] (hs σ) (pJ P)
def K_X10_digest_103 (scr : ScA)  (x1 : Int64) (x3 : Int32) (σ : Nat → Nat → Int32) (P : Int64 → (Nat → Nat → Int32) → Prop) : Prop := XA scr 7 mX10_digest 172 4705 103 [some (.ref 0), some (.long x1), none, some (.int x3)] [] (hs σ) (pJ P)
def K_X10_digest_120 (scr : ScA)  (x3 : Int32) (y0 : Int64) (σ : Nat → Nat → Int32) (P : Int64 → (Nat → Nat → Int32) → Prop) : Prop := XA scr 7 mX10_digest 172 4705 120 [some (.ref 0), none, none, some (.int x3)] [.long y0] (hs σ) (pJ P)
def K_X10_digest_129 (scr : ScA)  (x1 : Int64) (x3 : Int32) (σ : Nat → Nat → Int32) (P : Int64 → (Nat → Nat → Int32) → Prop) : Prop := XA scr 7 mX10_digest 172 4705 129 [some (.ref 0), some (.long x1), none, some (.int x3)] [] (hs σ) (pJ P)
def K_X10_digest_143 (scr : ScA)  (x3 : Int32) (y0 : Int64) (y1 : Int64) (σ : Nat → Nat → Int32) (P : Int64 → (Nat → Nat → Int32) → Prop) : Prop := XA scr 7 mX10_digest 172 4705 143 [some (.ref 0), none, none, some (.int x3)] [.long y1, .long y0] (hs σ) (pJ P)
def K_X10_digest_155 (scr : ScA)  (x3 : Int32) (y0 : Int64) (y1 : Int64) (σ : Nat → Nat → Int32) (P : Int64 → (Nat → Nat → Int32) → Prop) : Prop := XA scr 7 mX10_digest 172 4705 155 [some (.ref 0), none, none, some (.int x3)] [.long y1, .long y0] (hs σ) (pJ P)
def K_X10_digest_171 (scr : ScA)  (y0 : Int64) (y1 : Int32) (σ : Nat → Nat → Int32) (P : Int64 → (Nat → Nat → Int32) → Prop) : Prop := XA scr 7 mX10_digest 172 4705 171 [some (.ref 0), none, none, none] [.int y1, .long y0] (hs σ) (pJ P)
def K_X10_digest_182 (scr : ScA)  (y0 : Int64) (y1 : Int32) (σ : Nat → Nat → Int32) (P : Int64 → (Nat → Nat → Int32) → Prop) : Prop := XA scr 7 mX10_digest 172 4705 182 [some (.ref 0), none, none, none] [.int y1, .long y0] (hs σ) (pJ P)
def K_X10_digest_193 (scr : ScA)  (y0 : Int64) (y1 : Int32) (σ : Nat → Nat → Int32) (P : Int64 → (Nat → Nat → Int32) → Prop) : Prop := XA scr 7 mX10_digest 172 4705 193 [some (.ref 0), none, none, none] [.int y1, .long y0] (hs σ) (pJ P)
def K_X10_digest_204 (scr : ScA)  (y0 : Int64) (y1 : Int32) (σ : Nat → Nat → Int32) (P : Int64 → (Nat → Nat → Int32) → Prop) : Prop := XA scr 7 mX10_digest 172 4705 204 [some (.ref 0), none, none, none] [.int y1, .long y0] (hs σ) (pJ P)
def K_X10_digest_214 (scr : ScA)  (y0 : Int64) (y1 : Int32) (σ : Nat → Nat → Int32) (P : Int64 → (Nat → Nat → Int32) → Prop) : Prop := XA scr 7 mX10_digest 172 4705 214 [some (.ref 0), none, none, none] [.int y1, .long y0] (hs σ) (pJ P)
def K_X10_digest_224 (scr : ScA)  (y0 : Int64) (y1 : Int32) (σ : Nat → Nat → Int32) (P : Int64 → (Nat → Nat → Int32) → Prop) : Prop := XA scr 7 mX10_digest 172 4705 224 [some (.ref 0), none, none, none] [.int y1, .long y0] (hs σ) (pJ P)
def K_X10_digest_231 (scr : ScA)  (x1 : Int64) (x3 : Int32) (σ : Nat → Nat → Int32) (P : Int64 → (Nat → Nat → Int32) → Prop) : Prop := XA scr 7 mX10_digest 172 4705 231 [some (.ref 0), some (.long x1), none, some (.int x3)] [] (hs σ) (pJ P)
def K_X10_digest_242 (scr : ScA)  (x3 : Int32) (y0 : Int64) (y1 : Int32) (σ : Nat → Nat → Int32) (P : Int64 → (Nat → Nat → Int32) → Prop) : Prop := XA scr 7 mX10_digest 172 4705 242 [some (.ref 0), none, none, some (.int x3)] [.int y1, .long y0] (hs σ) (pJ P)
def K_X10_digest_259 (scr : ScA)  (y0 : Int64) (y1 : Int32) (σ : Nat → Nat → Int32) (P : Int64 → (Nat → Nat → Int32) → Prop) : Prop := XA scr 7 mX10_digest 172 4705 259 [some (.ref 0), none, none, none] [.int y1, .long y0] (hs σ) (pJ P)
def K_X10_digest_270 (scr : ScA)  (y0 : Int64) (y1 : Int32) (σ : Nat → Nat → Int32) (P : Int64 → (Nat → Nat → Int32) → Prop) : Prop := XA scr 7 mX10_digest 172 4705 270 [some (.ref 0), none, none, none] [.int y1, .long y0] (hs σ) (pJ P)
def K_X10_digest_281 (scr : ScA)  (y0 : Int64) (y1 : Int32) (σ : Nat → Nat → Int32) (P : Int64 → (Nat → Nat → Int32) → Prop) : Prop := XA scr 7 mX10_digest 172 4705 281 [some (.ref 0), none, none, none] [.int y1, .long y0] (hs σ) (pJ P)
def K_X10_digest_292 (scr : ScA)  (y0 : Int64) (y1 : Int32) (σ : Nat → Nat → Int32) (P : Int64 → (Nat → Nat → Int32) → Prop) : Prop := XA scr 7 mX10_digest 172 4705 292 [some (.ref 0), none, none, none] [.int y1, .long y0] (hs σ) (pJ P)
def K_X10_digest_302 (scr : ScA)  (y0 : Int64) (y1 : Int32) (σ : Nat → Nat → Int32) (P : Int64 → (Nat → Nat → Int32) → Prop) : Prop := XA scr 7 mX10_digest 172 4705 302 [some (.ref 0), none, none, none] [.int y1, .long y0] (hs σ) (pJ P)
def K_X10_digest_317 (scr : ScA)  (y0 : Int64) (y1 : Int32) (σ : Nat → Nat → Int32) (P : Int64 → (Nat → Nat → Int32) → Prop) : Prop := XA scr 7 mX10_digest 172 4705 317 [some (.ref 0), none, none, none] [.int y1, .long y0] (hs σ) (pJ P)
def K_X10_digest_332 (scr : ScA)  (y0 : Int64) (y1 : Int32) (σ : Nat → Nat → Int32) (P : Int64 → (Nat → Nat → Int32) → Prop) : Prop := XA scr 7 mX10_digest 172 4705 332 [none, none, none, none] [.int y1, .long y0] (hs σ) (pJ P)
set_option maxRecDepth 20000 in
theorem W_X10_digest_0 {scr : ScA}     {σ : Nat → Nat → Int32} {P : Int64 → (Nat → Nat → Int32) → Prop} (H : K_X10_digest_6 scr 17 0 σ P) : K_X10_digest_0 scr σ P := by
  show XA scr 7 mX10_digest 172 4705 0 [some (.ref 0), none, none, none] [] (hs σ) (pJ P)
  refine XA.blk (e9 := 6) (ok := true) (ls' := [some (.ref 0), some (.long 17), none, some (.int 0)]) (st' := []) (h' := hs σ) [(.ldc2_w 287, 3, 0, 0, 0, 859, 0, 17), (.lstore_n 1, 1, 1, 0, 0, 0, 0, 0), (.iconst 0, 1, 0, 0, 0, 0, 0, 0), (.istore_n 3, 1, 3, 0, 0, 0, 0, 0)] (by decide +kernel) rfl rfl ?_
  exact H
set_option maxRecDepth 20000 in
theorem W_X10_digest_6 {scr : ScA}   {x1 : Int64} {x3 : Int32}  {σ : Nat → Nat → Int32} {P : Int64 → (Nat → Nat → Int32) → Prop} (H : (8 ≤ x3 → CiA scr 0 mX10_fault [.ref 0] σ (fun r9 σ' => K_X10_digest_34 scr x1 r9 σ' P)) ∧ (¬ 8 ≤ x3 → CiA scr 6 mX10_count [.ref 0, .int x3] σ (fun r9 σ' => K_X10_digest_18 scr x3 x1 r9 σ' P))) : K_X10_digest_6 scr x1 x3 σ P := by
  show XA scr 7 mX10_digest 172 4705 6 [some (.ref 0), some (.long x1), none, some (.int x3)] [] (hs σ) (pJ P)
  refine XA.blk (e9 := 9) (ok := true) (ls' := [some (.ref 0), some (.long x1), none, some (.int x3)]) (st' := [.int 8, .int x3]) (h' := hs σ) [(.iload_n 3, 1, 3, 0, 0, 0, 0, 0), (.bipush 8, 2, 0, 0, 0, 0, 8, 0)] (by decide +kernel) rfl rfl ?_
  refine XA.icmp_ge (20) 29 (by decide +kernel) (fun c1 => ?_) (fun c1 => ?_)
  · have H := H.1 c1
    refine XA.blk (e9 := 31) (ok := true) (ls' := [some (.ref 0), some (.long x1), none, some (.int x3)]) (st' := [.ref 0, .long x1]) (h' := hs σ) [(.lload_n 1, 1, 1, 0, 0, 0, 0, 0), (.aload_n 0, 1, 0, 0, 0, 0, 0, 0)] (by decide +kernel) rfl rfl ?_
    refine XA.callV (as := []) (rest := [.long x1]) (mc' := 0) (ms' := 0) (idx := 296) (t := 865) cv_X10_fault (by decide +kernel) rfl rfl rfl (Nat.le_of_ble_eq_true rfl) (Nat.le_of_ble_eq_true rfl) (Nat.le_of_ble_eq_true rfl) (Nat.le_of_ble_eq_true rfl) (H) (fun rv h' hp => ?_)
    obtain ⟨r9, s9, rfl, rfl, hK⟩ := hp
    exact ⟨rfl, rfl, XA.drop (by simp [leL]) hK⟩
  · have H := H.2 c1
    refine XA.blk (e9 := 15) (ok := true) (ls' := [some (.ref 0), some (.long x1), none, some (.int x3)]) (st' := [.int x3, .ref 0, .long x1]) (h' := hs σ) [(.lload_n 1, 1, 1, 0, 0, 0, 0, 0), (.aload_n 0, 1, 0, 0, 0, 0, 0, 0), (.iload_n 3, 1, 3, 0, 0, 0, 0, 0)] (by decide +kernel) rfl rfl ?_
    refine XA.callV (as := [.int x3]) (rest := [.long x1]) (mc' := 0) (ms' := 0) (idx := 289) (t := 860) cv_X10_count (by decide +kernel) rfl rfl rfl (Nat.le_of_ble_eq_true rfl) (Nat.le_of_ble_eq_true rfl) (Nat.le_of_ble_eq_true rfl) (Nat.le_of_ble_eq_true rfl) (H) (fun rv h' hp => ?_)
    obtain ⟨r9, s9, rfl, rfl, hK⟩ := hp
    exact ⟨rfl, rfl, XA.drop (by simp [leL]) hK⟩
set_option maxRecDepth 20000 in
theorem W_X10_digest_18 {scr : ScA}   {x3 : Int32} {y0 : Int64} {y1 : Int32}  {σ : Nat → Nat → Int32} {P : Int64 → (Nat → Nat → Int32) → Prop} (H : K_X10_digest_6 scr ((31 * y0) + (Int32.toInt64 y1)) (x3 + 1) σ P) : K_X10_digest_18 scr x3 y0 y1 σ P := by
  show XA scr 7 mX10_digest 172 4705 18 [some (.ref 0), none, none, some (.int x3)] [.int y1, .long y0] (hs σ) (pJ P)
  refine XA.blk (e9 := 19) (ok := true) (ls' := [some (.ref 0), none, none, some (.int x3)]) (st' := [.long (Int32.toInt64 y1), .long y0]) (h' := hs σ) [(.i2l, 1, 0, 0, 0, 0, 0, 0)] (by decide +kernel) rfl rfl ?_
  refine XA.callS (as := [.long y0, .long (Int32.toInt64 y1)]) (rest := []) (mc' := 0) (ms' := 0) (idx := 292) (t := 861) cs_X10_mixed (by decide +kernel) rfl rfl (Nat.le_of_ble_eq_true rfl) (Nat.le_of_ble_eq_true rfl) (Nat.le_of_ble_eq_true rfl) (Nat.le_of_ble_eq_true rfl) (pu_X10_mixed scr σ y0 (Int32.toInt64 y1)) (fun rv h' hp => ?_)
  obtain ⟨rfl, rfl⟩ := hp
  refine ⟨rfl, rfl, ?_⟩
  show XA scr 7 mX10_digest 172 4705 22 [some (.ref 0), none, none, some (.int x3)] [.long ((31 * y0) + (Int32.toInt64 y1))] (hs σ) (pJ P)
  refine XA.blk (e9 := 6) (ok := true) (ls' := [some (.ref 0), some (.long ((31 * y0) + (Int32.toInt64 y1))), none, some (.int (x3 + 1))]) (st' := []) (h' := hs σ) [(.lstore_n 1, 1, 1, 0, 0, 0, 0, 0), (.iinc 3 1, 3, 3, 0, 0, 0, 1, 0), (.goto (-20), 3, 6, 0, 0, 0, 0, 0)] (by decide +kernel) rfl rfl ?_
  exact H
set_option maxRecDepth 20000 in
theorem W_X10_digest_34 {scr : ScA}   {y0 : Int64} {y1 : Int32}  {σ : Nat → Nat → Int32} {P : Int64 → (Nat → Nat → Int32) → Prop} (H : K_X10_digest_41 scr ((31 * y0) + (Int32.toInt64 y1)) 0 σ P) : K_X10_digest_34 scr y0 y1 σ P := by
  show XA scr 7 mX10_digest 172 4705 34 [some (.ref 0), none, none, none] [.int y1, .long y0] (hs σ) (pJ P)
  refine XA.blk (e9 := 35) (ok := true) (ls' := [some (.ref 0), none, none, none]) (st' := [.long (Int32.toInt64 y1), .long y0]) (h' := hs σ) [(.i2l, 1, 0, 0, 0, 0, 0, 0)] (by decide +kernel) rfl rfl ?_
  refine XA.callS (as := [.long y0, .long (Int32.toInt64 y1)]) (rest := []) (mc' := 0) (ms' := 0) (idx := 292) (t := 861) cs_X10_mixed (by decide +kernel) rfl rfl (Nat.le_of_ble_eq_true rfl) (Nat.le_of_ble_eq_true rfl) (Nat.le_of_ble_eq_true rfl) (Nat.le_of_ble_eq_true rfl) (pu_X10_mixed scr σ y0 (Int32.toInt64 y1)) (fun rv h' hp => ?_)
  obtain ⟨rfl, rfl⟩ := hp
  refine ⟨rfl, rfl, ?_⟩
  show XA scr 7 mX10_digest 172 4705 38 [some (.ref 0), none, none, none] [.long ((31 * y0) + (Int32.toInt64 y1))] (hs σ) (pJ P)
  refine XA.blk (e9 := 41) (ok := true) (ls' := [some (.ref 0), some (.long ((31 * y0) + (Int32.toInt64 y1))), none, some (.int 0)]) (st' := []) (h' := hs σ) [(.lstore_n 1, 1, 1, 0, 0, 0, 0, 0), (.iconst 0, 1, 0, 0, 0, 0, 0, 0), (.istore_n 3, 1, 3, 0, 0, 0, 0, 0)] (by decide +kernel) rfl rfl ?_
  exact H
set_option maxRecDepth 20000 in
theorem W_X10_digest_41 {scr : ScA}   {x1 : Int64} {x3 : Int32}  {σ : Nat → Nat → Int32} {P : Int64 → (Nat → Nat → Int32) → Prop} (H : (24 ≤ x3 → K_X10_digest_103 scr x1 0 σ P) ∧ (¬ 24 ≤ x3 → CiA scr 5 mX10_tower [.ref 0, .int x3, .int 0] σ (fun r9 σ' => K_X10_digest_54 scr x3 x1 r9 σ' P))) : K_X10_digest_41 scr x1 x3 σ P := by
  show XA scr 7 mX10_digest 172 4705 41 [some (.ref 0), some (.long x1), none, some (.int x3)] [] (hs σ) (pJ P)
  refine XA.blk (e9 := 44) (ok := true) (ls' := [some (.ref 0), some (.long x1), none, some (.int x3)]) (st' := [.int 24, .int x3]) (h' := hs σ) [(.iload_n 3, 1, 3, 0, 0, 0, 0, 0), (.bipush 24, 2, 0, 0, 0, 0, 24, 0)] (by decide +kernel) rfl rfl ?_
  refine XA.icmp_ge (57) 101 (by decide +kernel) (fun c1 => ?_) (fun c1 => ?_)
  · have H := H.1 c1
    refine XA.blk (e9 := 103) (ok := true) (ls' := [some (.ref 0), some (.long x1), none, some (.int 0)]) (st' := []) (h' := hs σ) [(.iconst 0, 1, 0, 0, 0, 0, 0, 0), (.istore_n 3, 1, 3, 0, 0, 0, 0, 0)] (by decide +kernel) rfl rfl ?_
    exact H
  · have H := H.2 c1
    refine XA.blk (e9 := 51) (ok := true) (ls' := [some (.ref 0), some (.long x1), none, some (.int x3)]) (st' := [.int 0, .int x3, .ref 0, .long x1]) (h' := hs σ) [(.lload_n 1, 1, 1, 0, 0, 0, 0, 0), (.aload_n 0, 1, 0, 0, 0, 0, 0, 0), (.iload_n 3, 1, 3, 0, 0, 0, 0, 0), (.iconst 0, 1, 0, 0, 0, 0, 0, 0)] (by decide +kernel) rfl rfl ?_
    refine XA.callV (as := [.int x3, .int 0]) (rest := [.long x1]) (mc' := 0) (ms' := 0) (idx := 284) (t := 854) cv_X10_tower (by decide +kernel) rfl rfl rfl (Nat.le_of_ble_eq_true rfl) (Nat.le_of_ble_eq_true rfl) (Nat.le_of_ble_eq_true rfl) (Nat.le_of_ble_eq_true rfl) (H) (fun rv h' hp => ?_)
    obtain ⟨r9, s9, rfl, rfl, hK⟩ := hp
    exact ⟨rfl, rfl, XA.drop (by simp [leL]) hK⟩
set_option maxRecDepth 20000 in
theorem W_X10_digest_54 {scr : ScA}   {x3 : Int32} {y0 : Int64} {y1 : Int32}  {σ : Nat → Nat → Int32} {P : Int64 → (Nat → Nat → Int32) → Prop} (H : CiA scr 5 mX10_tower [.ref 0, .int x3, .int 1] σ (fun r9 σ' => K_X10_digest_66 scr x3 ((31 * y0) + (Int32.toInt64 y1)) r9 σ' P)) : K_X10_digest_54 scr x3 y0 y1 σ P := by
  show XA scr 7 mX10_digest 172 4705 54 [some (.ref 0), none, none, some (.int x3)] [.int y1, .long y0] (hs σ) (pJ P)
  refine XA.blk (e9 := 55) (ok := true) (ls' := [some (.ref 0), none, none, some (.int x3)]) (st' := [.long (Int32.toInt64 y1), .long y0]) (h' := hs σ) [(.i2l, 1, 0, 0, 0, 0, 0, 0)] (by decide +kernel) rfl rfl ?_
  refine XA.callS (as := [.long y0, .long (Int32.toInt64 y1)]) (rest := []) (mc' := 0) (ms' := 0) (idx := 292) (t := 861) cs_X10_mixed (by decide +kernel) rfl rfl (Nat.le_of_ble_eq_true rfl) (Nat.le_of_ble_eq_true rfl) (Nat.le_of_ble_eq_true rfl) (Nat.le_of_ble_eq_true rfl) (pu_X10_mixed scr σ y0 (Int32.toInt64 y1)) (fun rv h' hp => ?_)
  obtain ⟨rfl, rfl⟩ := hp
  refine ⟨rfl, rfl, ?_⟩
  show XA scr 7 mX10_digest 172 4705 58 [some (.ref 0), none, none, some (.int x3)] [.long ((31 * y0) + (Int32.toInt64 y1))] (hs σ) (pJ P)
  refine XA.blk (e9 := 63) (ok := true) (ls' := [some (.ref 0), some (.long ((31 * y0) + (Int32.toInt64 y1))), none, some (.int x3)]) (st' := [.int 1, .int x3, .ref 0, .long ((31 * y0) + (Int32.toInt64 y1))]) (h' := hs σ) [(.lstore_n 1, 1, 1, 0, 0, 0, 0, 0), (.lload_n 1, 1, 1, 0, 0, 0, 0, 0), (.aload_n 0, 1, 0, 0, 0, 0, 0, 0), (.iload_n 3, 1, 3, 0, 0, 0, 0, 0), (.iconst 1, 1, 0, 0, 0, 0, 1, 0)] (by decide +kernel) rfl rfl ?_
  refine XA.callV (as := [.int x3, .int 1]) (rest := [.long ((31 * y0) + (Int32.toInt64 y1))]) (mc' := 0) (ms' := 0) (idx := 284) (t := 854) cv_X10_tower (by decide +kernel) rfl rfl rfl (Nat.le_of_ble_eq_true rfl) (Nat.le_of_ble_eq_true rfl) (Nat.le_of_ble_eq_true rfl) (Nat.le_of_ble_eq_true rfl) (H) (fun rv h' hp => ?_)
  obtain ⟨r9, s9, rfl, rfl, hK⟩ := hp
  exact ⟨rfl, rfl, XA.drop (by simp [leL]) hK⟩
set_option maxRecDepth 20000 in
theorem W_X10_digest_66 {scr : ScA}   {x3 : Int32} {y0 : Int64} {y1 : Int32}  {σ : Nat → Nat → Int32} {P : Int64 → (Nat → Nat → Int32) → Prop} (H : CiA scr 5 mX10_stands [.ref 0, .int x3, .int 0] σ (fun r9 σ' => K_X10_digest_78 scr x3 ((31 * y0) + (Int32.toInt64 y1)) r9 σ' P)) : K_X10_digest_66 scr x3 y0 y1 σ P := by
  show XA scr 7 mX10_digest 172 4705 66 [some (.ref 0), none, none, some (.int x3)] [.int y1, .long y0] (hs σ) (pJ P)
  refine XA.blk (e9 := 67) (ok := true) (ls' := [some (.ref 0), none, none, some (.int x3)]) (st' := [.long (Int32.toInt64 y1), .long y0]) (h' := hs σ) [(.i2l, 1, 0, 0, 0, 0, 0, 0)] (by decide +kernel) rfl rfl ?_
  refine XA.callS (as := [.long y0, .long (Int32.toInt64 y1)]) (rest := []) (mc' := 0) (ms' := 0) (idx := 292) (t := 861) cs_X10_mixed (by decide +kernel) rfl rfl (Nat.le_of_ble_eq_true rfl) (Nat.le_of_ble_eq_true rfl) (Nat.le_of_ble_eq_true rfl) (Nat.le_of_ble_eq_true rfl) (pu_X10_mixed scr σ y0 (Int32.toInt64 y1)) (fun rv h' hp => ?_)
  obtain ⟨rfl, rfl⟩ := hp
  refine ⟨rfl, rfl, ?_⟩
  show XA scr 7 mX10_digest 172 4705 70 [some (.ref 0), none, none, some (.int x3)] [.long ((31 * y0) + (Int32.toInt64 y1))] (hs σ) (pJ P)
  refine XA.blk (e9 := 75) (ok := true) (ls' := [some (.ref 0), some (.long ((31 * y0) + (Int32.toInt64 y1))), none, some (.int x3)]) (st' := [.int 0, .int x3, .ref 0, .long ((31 * y0) + (Int32.toInt64 y1))]) (h' := hs σ) [(.lstore_n 1, 1, 1, 0, 0, 0, 0, 0), (.lload_n 1, 1, 1, 0, 0, 0, 0, 0), (.aload_n 0, 1, 0, 0, 0, 0, 0, 0), (.iload_n 3, 1, 3, 0, 0, 0, 0, 0), (.iconst 0, 1, 0, 0, 0, 0, 0, 0)] (by decide +kernel) rfl rfl ?_
  refine XA.callV (as := [.int x3, .int 0]) (rest := [.long ((31 * y0) + (Int32.toInt64 y1))]) (mc' := 0) (ms' := 0) (idx := 278) (t := 848) cv_X10_stands (by decide +kernel) rfl rfl rfl (Nat.le_of_ble_eq_true rfl) (Nat.le_of_ble_eq_true rfl) (Nat.le_of_ble_eq_true rfl) (Nat.le_of_ble_eq_true rfl) (H) (fun rv h' hp => ?_)
  obtain ⟨r9, s9, rfl, rfl, hK⟩ := hp
  exact ⟨rfl, rfl, XA.drop (by simp [leL]) hK⟩
set_option maxRecDepth 20000 in
theorem W_X10_digest_78 {scr : ScA}   {x3 : Int32} {y0 : Int64} {y1 : Int32}  {σ : Nat → Nat → Int32} {P : Int64 → (Nat → Nat → Int32) → Prop} (H : CiA scr 5 mX10_stands [.ref 0, .int x3, .int 5] σ (fun r9 σ' => K_X10_digest_90 scr x3 ((31 * y0) + (Int32.toInt64 y1)) r9 σ' P)) : K_X10_digest_78 scr x3 y0 y1 σ P := by
  show XA scr 7 mX10_digest 172 4705 78 [some (.ref 0), none, none, some (.int x3)] [.int y1, .long y0] (hs σ) (pJ P)
  refine XA.blk (e9 := 79) (ok := true) (ls' := [some (.ref 0), none, none, some (.int x3)]) (st' := [.long (Int32.toInt64 y1), .long y0]) (h' := hs σ) [(.i2l, 1, 0, 0, 0, 0, 0, 0)] (by decide +kernel) rfl rfl ?_
  refine XA.callS (as := [.long y0, .long (Int32.toInt64 y1)]) (rest := []) (mc' := 0) (ms' := 0) (idx := 292) (t := 861) cs_X10_mixed (by decide +kernel) rfl rfl (Nat.le_of_ble_eq_true rfl) (Nat.le_of_ble_eq_true rfl) (Nat.le_of_ble_eq_true rfl) (Nat.le_of_ble_eq_true rfl) (pu_X10_mixed scr σ y0 (Int32.toInt64 y1)) (fun rv h' hp => ?_)
  obtain ⟨rfl, rfl⟩ := hp
  refine ⟨rfl, rfl, ?_⟩
  show XA scr 7 mX10_digest 172 4705 82 [some (.ref 0), none, none, some (.int x3)] [.long ((31 * y0) + (Int32.toInt64 y1))] (hs σ) (pJ P)
  refine XA.blk (e9 := 87) (ok := true) (ls' := [some (.ref 0), some (.long ((31 * y0) + (Int32.toInt64 y1))), none, some (.int x3)]) (st' := [.int 5, .int x3, .ref 0, .long ((31 * y0) + (Int32.toInt64 y1))]) (h' := hs σ) [(.lstore_n 1, 1, 1, 0, 0, 0, 0, 0), (.lload_n 1, 1, 1, 0, 0, 0, 0, 0), (.aload_n 0, 1, 0, 0, 0, 0, 0, 0), (.iload_n 3, 1, 3, 0, 0, 0, 0, 0), (.iconst 5, 1, 0, 0, 0, 0, 5, 0)] (by decide +kernel) rfl rfl ?_
  refine XA.callV (as := [.int x3, .int 5]) (rest := [.long ((31 * y0) + (Int32.toInt64 y1))]) (mc' := 0) (ms' := 0) (idx := 278) (t := 848) cv_X10_stands (by decide +kernel) rfl rfl rfl (Nat.le_of_ble_eq_true rfl) (Nat.le_of_ble_eq_true rfl) (Nat.le_of_ble_eq_true rfl) (Nat.le_of_ble_eq_true rfl) (H) (fun rv h' hp => ?_)
  obtain ⟨r9, s9, rfl, rfl, hK⟩ := hp
  exact ⟨rfl, rfl, XA.drop (by simp [leL]) hK⟩
set_option maxRecDepth 20000 in
theorem W_X10_digest_90 {scr : ScA}   {x3 : Int32} {y0 : Int64} {y1 : Int32}  {σ : Nat → Nat → Int32} {P : Int64 → (Nat → Nat → Int32) → Prop} (H : K_X10_digest_41 scr ((31 * y0) + (Int32.toInt64 y1)) (x3 + 1) σ P) : K_X10_digest_90 scr x3 y0 y1 σ P := by
  show XA scr 7 mX10_digest 172 4705 90 [some (.ref 0), none, none, some (.int x3)] [.int y1, .long y0] (hs σ) (pJ P)
  refine XA.blk (e9 := 91) (ok := true) (ls' := [some (.ref 0), none, none, some (.int x3)]) (st' := [.long (Int32.toInt64 y1), .long y0]) (h' := hs σ) [(.i2l, 1, 0, 0, 0, 0, 0, 0)] (by decide +kernel) rfl rfl ?_
  refine XA.callS (as := [.long y0, .long (Int32.toInt64 y1)]) (rest := []) (mc' := 0) (ms' := 0) (idx := 292) (t := 861) cs_X10_mixed (by decide +kernel) rfl rfl (Nat.le_of_ble_eq_true rfl) (Nat.le_of_ble_eq_true rfl) (Nat.le_of_ble_eq_true rfl) (Nat.le_of_ble_eq_true rfl) (pu_X10_mixed scr σ y0 (Int32.toInt64 y1)) (fun rv h' hp => ?_)
  obtain ⟨rfl, rfl⟩ := hp
  refine ⟨rfl, rfl, ?_⟩
  show XA scr 7 mX10_digest 172 4705 94 [some (.ref 0), none, none, some (.int x3)] [.long ((31 * y0) + (Int32.toInt64 y1))] (hs σ) (pJ P)
  refine XA.blk (e9 := 41) (ok := true) (ls' := [some (.ref 0), some (.long ((31 * y0) + (Int32.toInt64 y1))), none, some (.int (x3 + 1))]) (st' := []) (h' := hs σ) [(.lstore_n 1, 1, 1, 0, 0, 0, 0, 0), (.iinc 3 1, 3, 3, 0, 0, 0, 1, 0), (.goto (-57), 3, 41, 0, 0, 0, 0, 0)] (by decide +kernel) rfl rfl ?_
  exact H
set_option maxRecDepth 20000 in
theorem W_X10_digest_103 {scr : ScA}   {x1 : Int64} {x3 : Int32}  {σ : Nat → Nat → Int32} {P : Int64 → (Nat → Nat → Int32) → Prop} (H : ((σ 3 6) ≤ x3 → K_X10_digest_129 scr x1 5 σ P) ∧ (¬ (σ 3 6) ≤ x3 → ClA scr 6 mX10_mixedWithAcrobat [.ref 0, .long x1, .int x3] σ (fun r9 σ' => K_X10_digest_120 scr x3 r9 σ' P))) : K_X10_digest_103 scr x1 x3 σ P := by
  show XA scr 7 mX10_digest 172 4705 103 [some (.ref 0), some (.long x1), none, some (.int x3)] [] (hs σ) (pJ P)
  refine XA.blk (e9 := 111) (ok := true) (ls' := [some (.ref 0), some (.long x1), none, some (.int x3)]) (st' := [.int (σ 3 6), .int x3]) (h' := hs σ) [(.iload_n 3, 1, 3, 0, 0, 0, 0, 0), (.aload_n 0, 1, 0, 0, 0, 0, 0, 0), (.getfield 19, 3, 10, 1, 4, 399, 0, 0), (.getfield 98, 3, 8, 6, 0, 143, 0, 0)] (by decide +kernel) rfl rfl ?_
  refine XA.icmp_ge (16) 127 (by decide +kernel) (fun c1 => ?_) (fun c1 => ?_)
  · have H := H.1 c1
    refine XA.blk (e9 := 129) (ok := true) (ls' := [some (.ref 0), some (.long x1), none, some (.int 5)]) (st' := []) (h' := hs σ) [(.iconst 5, 1, 0, 0, 0, 0, 5, 0), (.istore_n 3, 1, 3, 0, 0, 0, 0, 0)] (by decide +kernel) rfl rfl ?_
    exact H
  · have H := H.2 c1
    refine XA.blk (e9 := 117) (ok := true) (ls' := [some (.ref 0), some (.long x1), none, some (.int x3)]) (st' := [.int x3, .long x1, .ref 0]) (h' := hs σ) [(.aload_n 0, 1, 0, 0, 0, 0, 0, 0), (.lload_n 1, 1, 1, 0, 0, 0, 0, 0), (.iload_n 3, 1, 3, 0, 0, 0, 0, 0)] (by decide +kernel) rfl rfl ?_
    refine XA.callV (as := [.long x1, .int x3]) (rest := []) (mc' := 0) (ms' := 0) (idx := 299) (t := 866) cv_X10_mixedWithAcrobat (by decide +kernel) rfl rfl rfl (Nat.le_of_ble_eq_true rfl) (Nat.le_of_ble_eq_true rfl) (Nat.le_of_ble_eq_true rfl) (Nat.le_of_ble_eq_true rfl) (H) (fun rv h' hp => ?_)
    obtain ⟨r9, s9, rfl, rfl, hK⟩ := hp
    exact ⟨rfl, rfl, XA.drop (by simp [leL]) hK⟩
set_option maxRecDepth 20000 in
theorem W_X10_digest_120 {scr : ScA}   {x3 : Int32} {y0 : Int64}  {σ : Nat → Nat → Int32} {P : Int64 → (Nat → Nat → Int32) → Prop} (H : K_X10_digest_103 scr y0 (x3 + 1) σ P) : K_X10_digest_120 scr x3 y0 σ P := by
  show XA scr 7 mX10_digest 172 4705 120 [some (.ref 0), none, none, some (.int x3)] [.long y0] (hs σ) (pJ P)
  refine XA.blk (e9 := 103) (ok := true) (ls' := [some (.ref 0), some (.long y0), none, some (.int (x3 + 1))]) (st' := []) (h' := hs σ) [(.lstore_n 1, 1, 1, 0, 0, 0, 0, 0), (.iinc 3 1, 3, 3, 0, 0, 0, 1, 0), (.goto (-21), 3, 103, 0, 0, 0, 0, 0)] (by decide +kernel) rfl rfl ?_
  exact H
set_option maxRecDepth 20000 in
theorem W_X10_digest_129 {scr : ScA}   {x1 : Int64} {x3 : Int32}  {σ : Nat → Nat → Int32} {P : Int64 → (Nat → Nat → Int32) → Prop} (H : (15 < x3 → CiA scr 5 mX10_top [.ref 0, .int 0] σ (fun r9 σ' => K_X10_digest_171 scr x1 r9 σ' P)) ∧ (¬ 15 < x3 → ClA scr 6 mX10_chance [.ref 0, .int 5, .int x3, .int 0] σ (fun r9 σ' => K_X10_digest_143 scr x3 x1 r9 σ' P))) : K_X10_digest_129 scr x1 x3 σ P := by
  show XA scr 7 mX10_digest 172 4705 129 [some (.ref 0), some (.long x1), none, some (.int x3)] [] (hs σ) (pJ P)
  refine XA.blk (e9 := 132) (ok := true) (ls' := [some (.ref 0), some (.long x1), none, some (.int x3)]) (st' := [.int 15, .int x3]) (h' := hs σ) [(.iload_n 3, 1, 3, 0, 0, 0, 0, 0), (.bipush 15, 2, 0, 0, 0, 0, 15, 0)] (by decide +kernel) rfl rfl ?_
  refine XA.icmp_gt (33) 165 (by decide +kernel) (fun c1 => ?_) (fun c1 => ?_)
  · have H := H.1 c1
    refine XA.blk (e9 := 168) (ok := true) (ls' := [some (.ref 0), some (.long x1), none, some (.int x3)]) (st' := [.int 0, .ref 0, .long x1]) (h' := hs σ) [(.lload_n 1, 1, 1, 0, 0, 0, 0, 0), (.aload_n 0, 1, 0, 0, 0, 0, 0, 0), (.iconst 0, 1, 0, 0, 0, 0, 0, 0)] (by decide +kernel) rfl rfl ?_
    refine XA.callV (as := [.int 0]) (rest := [.long x1]) (mc' := 0) (ms' := 0) (idx := 307) (t := 878) cv_X10_top (by decide +kernel) rfl rfl rfl (Nat.le_of_ble_eq_true rfl) (Nat.le_of_ble_eq_true rfl) (Nat.le_of_ble_eq_true rfl) (Nat.le_of_ble_eq_true rfl) (H) (fun rv h' hp => ?_)
    obtain ⟨r9, s9, rfl, rfl, hK⟩ := hp
    exact ⟨rfl, rfl, XA.drop (by simp [leL]) hK⟩
  · have H := H.2 c1
    refine XA.blk (e9 := 140) (ok := true) (ls' := [some (.ref 0), some (.long x1), none, some (.int x3)]) (st' := [.int 0, .int x3, .int 5, .ref 0, .long x1]) (h' := hs σ) [(.lload_n 1, 1, 1, 0, 0, 0, 0, 0), (.aload_n 0, 1, 0, 0, 0, 0, 0, 0), (.iconst 5, 1, 0, 0, 0, 0, 5, 0), (.iload_n 3, 1, 3, 0, 0, 0, 0, 0), (.iconst 0, 1, 0, 0, 0, 0, 0, 0)] (by decide +kernel) rfl rfl ?_
    refine XA.callV (as := [.int 5, .int x3, .int 0]) (rest := [.long x1]) (mc' := 0) (ms' := 0) (idx := 303) (t := 877) cv_X10_chance (by decide +kernel) rfl rfl rfl (Nat.le_of_ble_eq_true rfl) (Nat.le_of_ble_eq_true rfl) (Nat.le_of_ble_eq_true rfl) (Nat.le_of_ble_eq_true rfl) (H) (fun rv h' hp => ?_)
    obtain ⟨r9, s9, rfl, rfl, hK⟩ := hp
    exact ⟨rfl, rfl, XA.drop (by simp [leL]) hK⟩
set_option maxRecDepth 20000 in
theorem W_X10_digest_143 {scr : ScA}   {x3 : Int32} {y0 : Int64} {y1 : Int64}  {σ : Nat → Nat → Int32} {P : Int64 → (Nat → Nat → Int32) → Prop} (H : ClA scr 6 mX10_chance [.ref 0, .int 5, .int x3, .int 1] σ (fun r9 σ' => K_X10_digest_155 scr x3 ((31 * y0) + y1) r9 σ' P)) : K_X10_digest_143 scr x3 y0 y1 σ P := by
  show XA scr 7 mX10_digest 172 4705 143 [some (.ref 0), none, none, some (.int x3)] [.long y1, .long y0] (hs σ) (pJ P)
  refine XA.callS (as := [.long y0, .long y1]) (rest := []) (mc' := 0) (ms' := 0) (idx := 292) (t := 861) cs_X10_mixed (by decide +kernel) rfl rfl (Nat.le_of_ble_eq_true rfl) (Nat.le_of_ble_eq_true rfl) (Nat.le_of_ble_eq_true rfl) (Nat.le_of_ble_eq_true rfl) (pu_X10_mixed scr σ y0 y1) (fun rv h' hp => ?_)
  obtain ⟨rfl, rfl⟩ := hp
  refine ⟨rfl, rfl, ?_⟩
  show XA scr 7 mX10_digest 172 4705 146 [some (.ref 0), none, none, some (.int x3)] [.long ((31 * y0) + y1)] (hs σ) (pJ P)
  refine XA.blk (e9 := 152) (ok := true) (ls' := [some (.ref 0), some (.long ((31 * y0) + y1)), none, some (.int x3)]) (st' := [.int 1, .int x3, .int 5, .ref 0, .long ((31 * y0) + y1)]) (h' := hs σ) [(.lstore_n 1, 1, 1, 0, 0, 0, 0, 0), (.lload_n 1, 1, 1, 0, 0, 0, 0, 0), (.aload_n 0, 1, 0, 0, 0, 0, 0, 0), (.iconst 5, 1, 0, 0, 0, 0, 5, 0), (.iload_n 3, 1, 3, 0, 0, 0, 0, 0), (.iconst 1, 1, 0, 0, 0, 0, 1, 0)] (by decide +kernel) rfl rfl ?_
  refine XA.callV (as := [.int 5, .int x3, .int 1]) (rest := [.long ((31 * y0) + y1)]) (mc' := 0) (ms' := 0) (idx := 303) (t := 877) cv_X10_chance (by decide +kernel) rfl rfl rfl (Nat.le_of_ble_eq_true rfl) (Nat.le_of_ble_eq_true rfl) (Nat.le_of_ble_eq_true rfl) (Nat.le_of_ble_eq_true rfl) (H) (fun rv h' hp => ?_)
  obtain ⟨r9, s9, rfl, rfl, hK⟩ := hp
  exact ⟨rfl, rfl, XA.drop (by simp [leL]) hK⟩
set_option maxRecDepth 20000 in
theorem W_X10_digest_155 {scr : ScA}   {x3 : Int32} {y0 : Int64} {y1 : Int64}  {σ : Nat → Nat → Int32} {P : Int64 → (Nat → Nat → Int32) → Prop} (H : K_X10_digest_129 scr ((31 * y0) + y1) (x3 + 10) σ P) : K_X10_digest_155 scr x3 y0 y1 σ P := by
  show XA scr 7 mX10_digest 172 4705 155 [some (.ref 0), none, none, some (.int x3)] [.long y1, .long y0] (hs σ) (pJ P)
  refine XA.callS (as := [.long y0, .long y1]) (rest := []) (mc' := 0) (ms' := 0) (idx := 292) (t := 861) cs_X10_mixed (by decide +kernel) rfl rfl (Nat.le_of_ble_eq_true rfl) (Nat.le_of_ble_eq_true rfl) (Nat.le_of_ble_eq_true rfl) (Nat.le_of_ble_eq_true rfl) (pu_X10_mixed scr σ y0 y1) (fun rv h' hp => ?_)
  obtain ⟨rfl, rfl⟩ := hp
  refine ⟨rfl, rfl, ?_⟩
  show XA scr 7 mX10_digest 172 4705 158 [some (.ref 0), none, none, some (.int x3)] [.long ((31 * y0) + y1)] (hs σ) (pJ P)
  refine XA.blk (e9 := 129) (ok := true) (ls' := [some (.ref 0), some (.long ((31 * y0) + y1)), none, some (.int (x3 + 10))]) (st' := []) (h' := hs σ) [(.lstore_n 1, 1, 1, 0, 0, 0, 0, 0), (.iinc 3 10, 3, 3, 0, 0, 0, 10, 0), (.goto (-33), 3, 129, 0, 0, 0, 0, 0)] (by decide +kernel) rfl rfl ?_
  exact H
set_option maxRecDepth 20000 in
theorem W_X10_digest_171 {scr : ScA}   {y0 : Int64} {y1 : Int32}  {σ : Nat → Nat → Int32} {P : Int64 → (Nat → Nat → Int32) → Prop} (H : CiA scr 5 mX10_top [.ref 0, .int 1] σ (fun r9 σ' => K_X10_digest_182 scr ((31 * y0) + (Int32.toInt64 y1)) r9 σ' P)) : K_X10_digest_171 scr y0 y1 σ P := by
  show XA scr 7 mX10_digest 172 4705 171 [some (.ref 0), none, none, none] [.int y1, .long y0] (hs σ) (pJ P)
  refine XA.blk (e9 := 172) (ok := true) (ls' := [some (.ref 0), none, none, none]) (st' := [.long (Int32.toInt64 y1), .long y0]) (h' := hs σ) [(.i2l, 1, 0, 0, 0, 0, 0, 0)] (by decide +kernel) rfl rfl ?_
  refine XA.callS (as := [.long y0, .long (Int32.toInt64 y1)]) (rest := []) (mc' := 0) (ms' := 0) (idx := 292) (t := 861) cs_X10_mixed (by decide +kernel) rfl rfl (Nat.le_of_ble_eq_true rfl) (Nat.le_of_ble_eq_true rfl) (Nat.le_of_ble_eq_true rfl) (Nat.le_of_ble_eq_true rfl) (pu_X10_mixed scr σ y0 (Int32.toInt64 y1)) (fun rv h' hp => ?_)
  obtain ⟨rfl, rfl⟩ := hp
  refine ⟨rfl, rfl, ?_⟩
  show XA scr 7 mX10_digest 172 4705 175 [some (.ref 0), none, none, none] [.long ((31 * y0) + (Int32.toInt64 y1))] (hs σ) (pJ P)
  refine XA.blk (e9 := 179) (ok := true) (ls' := [some (.ref 0), some (.long ((31 * y0) + (Int32.toInt64 y1))), none, none]) (st' := [.int 1, .ref 0, .long ((31 * y0) + (Int32.toInt64 y1))]) (h' := hs σ) [(.lstore_n 1, 1, 1, 0, 0, 0, 0, 0), (.lload_n 1, 1, 1, 0, 0, 0, 0, 0), (.aload_n 0, 1, 0, 0, 0, 0, 0, 0), (.iconst 1, 1, 0, 0, 0, 0, 1, 0)] (by decide +kernel) rfl rfl ?_
  refine XA.callV (as := [.int 1]) (rest := [.long ((31 * y0) + (Int32.toInt64 y1))]) (mc' := 0) (ms' := 0) (idx := 307) (t := 878) cv_X10_top (by decide +kernel) rfl rfl rfl (Nat.le_of_ble_eq_true rfl) (Nat.le_of_ble_eq_true rfl) (Nat.le_of_ble_eq_true rfl) (Nat.le_of_ble_eq_true rfl) (H) (fun rv h' hp => ?_)
  obtain ⟨r9, s9, rfl, rfl, hK⟩ := hp
  exact ⟨rfl, rfl, XA.drop (by simp [leL]) hK⟩
set_option maxRecDepth 20000 in
theorem W_X10_digest_182 {scr : ScA}   {y0 : Int64} {y1 : Int32}  {σ : Nat → Nat → Int32} {P : Int64 → (Nat → Nat → Int32) → Prop} (H : CiA scr 5 mX10_most [.ref 0, .int 0] σ (fun r9 σ' => K_X10_digest_193 scr ((31 * y0) + (Int32.toInt64 y1)) r9 σ' P)) : K_X10_digest_182 scr y0 y1 σ P := by
  show XA scr 7 mX10_digest 172 4705 182 [some (.ref 0), none, none, none] [.int y1, .long y0] (hs σ) (pJ P)
  refine XA.blk (e9 := 183) (ok := true) (ls' := [some (.ref 0), none, none, none]) (st' := [.long (Int32.toInt64 y1), .long y0]) (h' := hs σ) [(.i2l, 1, 0, 0, 0, 0, 0, 0)] (by decide +kernel) rfl rfl ?_
  refine XA.callS (as := [.long y0, .long (Int32.toInt64 y1)]) (rest := []) (mc' := 0) (ms' := 0) (idx := 292) (t := 861) cs_X10_mixed (by decide +kernel) rfl rfl (Nat.le_of_ble_eq_true rfl) (Nat.le_of_ble_eq_true rfl) (Nat.le_of_ble_eq_true rfl) (Nat.le_of_ble_eq_true rfl) (pu_X10_mixed scr σ y0 (Int32.toInt64 y1)) (fun rv h' hp => ?_)
  obtain ⟨rfl, rfl⟩ := hp
  refine ⟨rfl, rfl, ?_⟩
  show XA scr 7 mX10_digest 172 4705 186 [some (.ref 0), none, none, none] [.long ((31 * y0) + (Int32.toInt64 y1))] (hs σ) (pJ P)
  refine XA.blk (e9 := 190) (ok := true) (ls' := [some (.ref 0), some (.long ((31 * y0) + (Int32.toInt64 y1))), none, none]) (st' := [.int 0, .ref 0, .long ((31 * y0) + (Int32.toInt64 y1))]) (h' := hs σ) [(.lstore_n 1, 1, 1, 0, 0, 0, 0, 0), (.lload_n 1, 1, 1, 0, 0, 0, 0, 0), (.aload_n 0, 1, 0, 0, 0, 0, 0, 0), (.iconst 0, 1, 0, 0, 0, 0, 0, 0)] (by decide +kernel) rfl rfl ?_
  refine XA.callV (as := [.int 0]) (rest := [.long ((31 * y0) + (Int32.toInt64 y1))]) (mc' := 0) (ms' := 0) (idx := 310) (t := 879) cv_X10_most (by decide +kernel) rfl rfl rfl (Nat.le_of_ble_eq_true rfl) (Nat.le_of_ble_eq_true rfl) (Nat.le_of_ble_eq_true rfl) (Nat.le_of_ble_eq_true rfl) (H) (fun rv h' hp => ?_)
  obtain ⟨r9, s9, rfl, rfl, hK⟩ := hp
  exact ⟨rfl, rfl, XA.drop (by simp [leL]) hK⟩
set_option maxRecDepth 20000 in
theorem W_X10_digest_193 {scr : ScA}   {y0 : Int64} {y1 : Int32}  {σ : Nat → Nat → Int32} {P : Int64 → (Nat → Nat → Int32) → Prop} (H : CiA scr 5 mX10_most [.ref 0, .int 1] σ (fun r9 σ' => K_X10_digest_204 scr ((31 * y0) + (Int32.toInt64 y1)) r9 σ' P)) : K_X10_digest_193 scr y0 y1 σ P := by
  show XA scr 7 mX10_digest 172 4705 193 [some (.ref 0), none, none, none] [.int y1, .long y0] (hs σ) (pJ P)
  refine XA.blk (e9 := 194) (ok := true) (ls' := [some (.ref 0), none, none, none]) (st' := [.long (Int32.toInt64 y1), .long y0]) (h' := hs σ) [(.i2l, 1, 0, 0, 0, 0, 0, 0)] (by decide +kernel) rfl rfl ?_
  refine XA.callS (as := [.long y0, .long (Int32.toInt64 y1)]) (rest := []) (mc' := 0) (ms' := 0) (idx := 292) (t := 861) cs_X10_mixed (by decide +kernel) rfl rfl (Nat.le_of_ble_eq_true rfl) (Nat.le_of_ble_eq_true rfl) (Nat.le_of_ble_eq_true rfl) (Nat.le_of_ble_eq_true rfl) (pu_X10_mixed scr σ y0 (Int32.toInt64 y1)) (fun rv h' hp => ?_)
  obtain ⟨rfl, rfl⟩ := hp
  refine ⟨rfl, rfl, ?_⟩
  show XA scr 7 mX10_digest 172 4705 197 [some (.ref 0), none, none, none] [.long ((31 * y0) + (Int32.toInt64 y1))] (hs σ) (pJ P)
  refine XA.blk (e9 := 201) (ok := true) (ls' := [some (.ref 0), some (.long ((31 * y0) + (Int32.toInt64 y1))), none, none]) (st' := [.int 1, .ref 0, .long ((31 * y0) + (Int32.toInt64 y1))]) (h' := hs σ) [(.lstore_n 1, 1, 1, 0, 0, 0, 0, 0), (.lload_n 1, 1, 1, 0, 0, 0, 0, 0), (.aload_n 0, 1, 0, 0, 0, 0, 0, 0), (.iconst 1, 1, 0, 0, 0, 0, 1, 0)] (by decide +kernel) rfl rfl ?_
  refine XA.callV (as := [.int 1]) (rest := [.long ((31 * y0) + (Int32.toInt64 y1))]) (mc' := 0) (ms' := 0) (idx := 310) (t := 879) cv_X10_most (by decide +kernel) rfl rfl rfl (Nat.le_of_ble_eq_true rfl) (Nat.le_of_ble_eq_true rfl) (Nat.le_of_ble_eq_true rfl) (Nat.le_of_ble_eq_true rfl) (H) (fun rv h' hp => ?_)
  obtain ⟨r9, s9, rfl, rfl, hK⟩ := hp
  exact ⟨rfl, rfl, XA.drop (by simp [leL]) hK⟩
set_option maxRecDepth 20000 in
theorem W_X10_digest_204 {scr : ScA}   {y0 : Int64} {y1 : Int32}  {σ : Nat → Nat → Int32} {P : Int64 → (Nat → Nat → Int32) → Prop} (H : CiA scr 5 mX10_clumsy [.ref 0] σ (fun r9 σ' => K_X10_digest_214 scr ((31 * y0) + (Int32.toInt64 y1)) r9 σ' P)) : K_X10_digest_204 scr y0 y1 σ P := by
  show XA scr 7 mX10_digest 172 4705 204 [some (.ref 0), none, none, none] [.int y1, .long y0] (hs σ) (pJ P)
  refine XA.blk (e9 := 205) (ok := true) (ls' := [some (.ref 0), none, none, none]) (st' := [.long (Int32.toInt64 y1), .long y0]) (h' := hs σ) [(.i2l, 1, 0, 0, 0, 0, 0, 0)] (by decide +kernel) rfl rfl ?_
  refine XA.callS (as := [.long y0, .long (Int32.toInt64 y1)]) (rest := []) (mc' := 0) (ms' := 0) (idx := 292) (t := 861) cs_X10_mixed (by decide +kernel) rfl rfl (Nat.le_of_ble_eq_true rfl) (Nat.le_of_ble_eq_true rfl) (Nat.le_of_ble_eq_true rfl) (Nat.le_of_ble_eq_true rfl) (pu_X10_mixed scr σ y0 (Int32.toInt64 y1)) (fun rv h' hp => ?_)
  obtain ⟨rfl, rfl⟩ := hp
  refine ⟨rfl, rfl, ?_⟩
  show XA scr 7 mX10_digest 172 4705 208 [some (.ref 0), none, none, none] [.long ((31 * y0) + (Int32.toInt64 y1))] (hs σ) (pJ P)
  refine XA.blk (e9 := 211) (ok := true) (ls' := [some (.ref 0), some (.long ((31 * y0) + (Int32.toInt64 y1))), none, none]) (st' := [.ref 0, .long ((31 * y0) + (Int32.toInt64 y1))]) (h' := hs σ) [(.lstore_n 1, 1, 1, 0, 0, 0, 0, 0), (.lload_n 1, 1, 1, 0, 0, 0, 0, 0), (.aload_n 0, 1, 0, 0, 0, 0, 0, 0)] (by decide +kernel) rfl rfl ?_
  refine XA.callV (as := []) (rest := [.long ((31 * y0) + (Int32.toInt64 y1))]) (mc' := 0) (ms' := 0) (idx := 313) (t := 880) cv_X10_clumsy (by decide +kernel) rfl rfl rfl (Nat.le_of_ble_eq_true rfl) (Nat.le_of_ble_eq_true rfl) (Nat.le_of_ble_eq_true rfl) (Nat.le_of_ble_eq_true rfl) (H) (fun rv h' hp => ?_)
  obtain ⟨r9, s9, rfl, rfl, hK⟩ := hp
  exact ⟨rfl, rfl, XA.drop (by simp [leL]) hK⟩
set_option maxRecDepth 20000 in
theorem W_X10_digest_214 {scr : ScA}   {y0 : Int64} {y1 : Int32}  {σ : Nat → Nat → Int32} {P : Int64 → (Nat → Nat → Int32) → Prop} (H : CiA scr 5 mX10_down [.ref 0] σ (fun r9 σ' => K_X10_digest_224 scr ((31 * y0) + (Int32.toInt64 y1)) r9 σ' P)) : K_X10_digest_214 scr y0 y1 σ P := by
  show XA scr 7 mX10_digest 172 4705 214 [some (.ref 0), none, none, none] [.int y1, .long y0] (hs σ) (pJ P)
  refine XA.blk (e9 := 215) (ok := true) (ls' := [some (.ref 0), none, none, none]) (st' := [.long (Int32.toInt64 y1), .long y0]) (h' := hs σ) [(.i2l, 1, 0, 0, 0, 0, 0, 0)] (by decide +kernel) rfl rfl ?_
  refine XA.callS (as := [.long y0, .long (Int32.toInt64 y1)]) (rest := []) (mc' := 0) (ms' := 0) (idx := 292) (t := 861) cs_X10_mixed (by decide +kernel) rfl rfl (Nat.le_of_ble_eq_true rfl) (Nat.le_of_ble_eq_true rfl) (Nat.le_of_ble_eq_true rfl) (Nat.le_of_ble_eq_true rfl) (pu_X10_mixed scr σ y0 (Int32.toInt64 y1)) (fun rv h' hp => ?_)
  obtain ⟨rfl, rfl⟩ := hp
  refine ⟨rfl, rfl, ?_⟩
  show XA scr 7 mX10_digest 172 4705 218 [some (.ref 0), none, none, none] [.long ((31 * y0) + (Int32.toInt64 y1))] (hs σ) (pJ P)
  refine XA.blk (e9 := 221) (ok := true) (ls' := [some (.ref 0), some (.long ((31 * y0) + (Int32.toInt64 y1))), none, none]) (st' := [.ref 0, .long ((31 * y0) + (Int32.toInt64 y1))]) (h' := hs σ) [(.lstore_n 1, 1, 1, 0, 0, 0, 0, 0), (.lload_n 1, 1, 1, 0, 0, 0, 0, 0), (.aload_n 0, 1, 0, 0, 0, 0, 0, 0)] (by decide +kernel) rfl rfl ?_
  refine XA.callV (as := []) (rest := [.long ((31 * y0) + (Int32.toInt64 y1))]) (mc' := 0) (ms' := 0) (idx := 316) (t := 881) cv_X10_down (by decide +kernel) rfl rfl rfl (Nat.le_of_ble_eq_true rfl) (Nat.le_of_ble_eq_true rfl) (Nat.le_of_ble_eq_true rfl) (Nat.le_of_ble_eq_true rfl) (H) (fun rv h' hp => ?_)
  obtain ⟨r9, s9, rfl, rfl, hK⟩ := hp
  exact ⟨rfl, rfl, XA.drop (by simp [leL]) hK⟩
set_option maxRecDepth 20000 in
theorem W_X10_digest_224 {scr : ScA}   {y0 : Int64} {y1 : Int32}  {σ : Nat → Nat → Int32} {P : Int64 → (Nat → Nat → Int32) → Prop} (H : K_X10_digest_231 scr ((31 * y0) + (Int32.toInt64 y1)) 0 σ P) : K_X10_digest_224 scr y0 y1 σ P := by
  show XA scr 7 mX10_digest 172 4705 224 [some (.ref 0), none, none, none] [.int y1, .long y0] (hs σ) (pJ P)
  refine XA.blk (e9 := 225) (ok := true) (ls' := [some (.ref 0), none, none, none]) (st' := [.long (Int32.toInt64 y1), .long y0]) (h' := hs σ) [(.i2l, 1, 0, 0, 0, 0, 0, 0)] (by decide +kernel) rfl rfl ?_
  refine XA.callS (as := [.long y0, .long (Int32.toInt64 y1)]) (rest := []) (mc' := 0) (ms' := 0) (idx := 292) (t := 861) cs_X10_mixed (by decide +kernel) rfl rfl (Nat.le_of_ble_eq_true rfl) (Nat.le_of_ble_eq_true rfl) (Nat.le_of_ble_eq_true rfl) (Nat.le_of_ble_eq_true rfl) (pu_X10_mixed scr σ y0 (Int32.toInt64 y1)) (fun rv h' hp => ?_)
  obtain ⟨rfl, rfl⟩ := hp
  refine ⟨rfl, rfl, ?_⟩
  show XA scr 7 mX10_digest 172 4705 228 [some (.ref 0), none, none, none] [.long ((31 * y0) + (Int32.toInt64 y1))] (hs σ) (pJ P)
  refine XA.blk (e9 := 231) (ok := true) (ls' := [some (.ref 0), some (.long ((31 * y0) + (Int32.toInt64 y1))), none, some (.int 0)]) (st' := []) (h' := hs σ) [(.lstore_n 1, 1, 1, 0, 0, 0, 0, 0), (.iconst 0, 1, 0, 0, 0, 0, 0, 0), (.istore_n 3, 1, 3, 0, 0, 0, 0, 0)] (by decide +kernel) rfl rfl ?_
  exact H
set_option maxRecDepth 20000 in
theorem W_X10_digest_231 {scr : ScA}   {x1 : Int64} {x3 : Int32}  {σ : Nat → Nat → Int32} {P : Int64 → (Nat → Nat → Int32) → Prop} (H : (3 ≤ x3 → CiA scr 5 mX10_train [.ref 0, .int 0] σ (fun r9 σ' => K_X10_digest_259 scr x1 r9 σ' P)) ∧ (¬ 3 ≤ x3 → CiA scr 5 mX10_swap [.ref 0, .int x3] σ (fun r9 σ' => K_X10_digest_242 scr x3 x1 r9 σ' P))) : K_X10_digest_231 scr x1 x3 σ P := by
  show XA scr 7 mX10_digest 172 4705 231 [some (.ref 0), some (.long x1), none, some (.int x3)] [] (hs σ) (pJ P)
  refine XA.blk (e9 := 233) (ok := true) (ls' := [some (.ref 0), some (.long x1), none, some (.int x3)]) (st' := [.int 3, .int x3]) (h' := hs σ) [(.iload_n 3, 1, 3, 0, 0, 0, 0, 0), (.iconst 3, 1, 0, 0, 0, 0, 3, 0)] (by decide +kernel) rfl rfl ?_
  refine XA.icmp_ge (20) 253 (by decide +kernel) (fun c1 => ?_) (fun c1 => ?_)
  · have H := H.1 c1
    refine XA.blk (e9 := 256) (ok := true) (ls' := [some (.ref 0), some (.long x1), none, some (.int x3)]) (st' := [.int 0, .ref 0, .long x1]) (h' := hs σ) [(.lload_n 1, 1, 1, 0, 0, 0, 0, 0), (.aload_n 0, 1, 0, 0, 0, 0, 0, 0), (.iconst 0, 1, 0, 0, 0, 0, 0, 0)] (by decide +kernel) rfl rfl ?_
    refine XA.callV (as := [.int 0]) (rest := [.long x1]) (mc' := 0) (ms' := 0) (idx := 322) (t := 883) cv_X10_train (by decide +kernel) rfl rfl rfl (Nat.le_of_ble_eq_true rfl) (Nat.le_of_ble_eq_true rfl) (Nat.le_of_ble_eq_true rfl) (Nat.le_of_ble_eq_true rfl) (H) (fun rv h' hp => ?_)
    obtain ⟨r9, s9, rfl, rfl, hK⟩ := hp
    exact ⟨rfl, rfl, XA.drop (by simp [leL]) hK⟩
  · have H := H.2 c1
    refine XA.blk (e9 := 239) (ok := true) (ls' := [some (.ref 0), some (.long x1), none, some (.int x3)]) (st' := [.int x3, .ref 0, .long x1]) (h' := hs σ) [(.lload_n 1, 1, 1, 0, 0, 0, 0, 0), (.aload_n 0, 1, 0, 0, 0, 0, 0, 0), (.iload_n 3, 1, 3, 0, 0, 0, 0, 0)] (by decide +kernel) rfl rfl ?_
    refine XA.callV (as := [.int x3]) (rest := [.long x1]) (mc' := 0) (ms' := 0) (idx := 319) (t := 882) cv_X10_swap (by decide +kernel) rfl rfl rfl (Nat.le_of_ble_eq_true rfl) (Nat.le_of_ble_eq_true rfl) (Nat.le_of_ble_eq_true rfl) (Nat.le_of_ble_eq_true rfl) (H) (fun rv h' hp => ?_)
    obtain ⟨r9, s9, rfl, rfl, hK⟩ := hp
    exact ⟨rfl, rfl, XA.drop (by simp [leL]) hK⟩
set_option maxRecDepth 20000 in
theorem W_X10_digest_242 {scr : ScA}   {x3 : Int32} {y0 : Int64} {y1 : Int32}  {σ : Nat → Nat → Int32} {P : Int64 → (Nat → Nat → Int32) → Prop} (H : K_X10_digest_231 scr ((31 * y0) + (Int32.toInt64 y1)) (x3 + 1) σ P) : K_X10_digest_242 scr x3 y0 y1 σ P := by
  show XA scr 7 mX10_digest 172 4705 242 [some (.ref 0), none, none, some (.int x3)] [.int y1, .long y0] (hs σ) (pJ P)
  refine XA.blk (e9 := 243) (ok := true) (ls' := [some (.ref 0), none, none, some (.int x3)]) (st' := [.long (Int32.toInt64 y1), .long y0]) (h' := hs σ) [(.i2l, 1, 0, 0, 0, 0, 0, 0)] (by decide +kernel) rfl rfl ?_
  refine XA.callS (as := [.long y0, .long (Int32.toInt64 y1)]) (rest := []) (mc' := 0) (ms' := 0) (idx := 292) (t := 861) cs_X10_mixed (by decide +kernel) rfl rfl (Nat.le_of_ble_eq_true rfl) (Nat.le_of_ble_eq_true rfl) (Nat.le_of_ble_eq_true rfl) (Nat.le_of_ble_eq_true rfl) (pu_X10_mixed scr σ y0 (Int32.toInt64 y1)) (fun rv h' hp => ?_)
  obtain ⟨rfl, rfl⟩ := hp
  refine ⟨rfl, rfl, ?_⟩
  show XA scr 7 mX10_digest 172 4705 246 [some (.ref 0), none, none, some (.int x3)] [.long ((31 * y0) + (Int32.toInt64 y1))] (hs σ) (pJ P)
  refine XA.blk (e9 := 231) (ok := true) (ls' := [some (.ref 0), some (.long ((31 * y0) + (Int32.toInt64 y1))), none, some (.int (x3 + 1))]) (st' := []) (h' := hs σ) [(.lstore_n 1, 1, 1, 0, 0, 0, 0, 0), (.iinc 3 1, 3, 3, 0, 0, 0, 1, 0), (.goto (-19), 3, 231, 0, 0, 0, 0, 0)] (by decide +kernel) rfl rfl ?_
  exact H
set_option maxRecDepth 20000 in
theorem W_X10_digest_259 {scr : ScA}   {y0 : Int64} {y1 : Int32}  {σ : Nat → Nat → Int32} {P : Int64 → (Nat → Nat → Int32) → Prop} (H : CiA scr 5 mX10_train [.ref 0, .int 1] σ (fun r9 σ' => K_X10_digest_270 scr ((31 * y0) + (Int32.toInt64 y1)) r9 σ' P)) : K_X10_digest_259 scr y0 y1 σ P := by
  show XA scr 7 mX10_digest 172 4705 259 [some (.ref 0), none, none, none] [.int y1, .long y0] (hs σ) (pJ P)
  refine XA.blk (e9 := 260) (ok := true) (ls' := [some (.ref 0), none, none, none]) (st' := [.long (Int32.toInt64 y1), .long y0]) (h' := hs σ) [(.i2l, 1, 0, 0, 0, 0, 0, 0)] (by decide +kernel) rfl rfl ?_
  refine XA.callS (as := [.long y0, .long (Int32.toInt64 y1)]) (rest := []) (mc' := 0) (ms' := 0) (idx := 292) (t := 861) cs_X10_mixed (by decide +kernel) rfl rfl (Nat.le_of_ble_eq_true rfl) (Nat.le_of_ble_eq_true rfl) (Nat.le_of_ble_eq_true rfl) (Nat.le_of_ble_eq_true rfl) (pu_X10_mixed scr σ y0 (Int32.toInt64 y1)) (fun rv h' hp => ?_)
  obtain ⟨rfl, rfl⟩ := hp
  refine ⟨rfl, rfl, ?_⟩
  show XA scr 7 mX10_digest 172 4705 263 [some (.ref 0), none, none, none] [.long ((31 * y0) + (Int32.toInt64 y1))] (hs σ) (pJ P)
  refine XA.blk (e9 := 267) (ok := true) (ls' := [some (.ref 0), some (.long ((31 * y0) + (Int32.toInt64 y1))), none, none]) (st' := [.int 1, .ref 0, .long ((31 * y0) + (Int32.toInt64 y1))]) (h' := hs σ) [(.lstore_n 1, 1, 1, 0, 0, 0, 0, 0), (.lload_n 1, 1, 1, 0, 0, 0, 0, 0), (.aload_n 0, 1, 0, 0, 0, 0, 0, 0), (.iconst 1, 1, 0, 0, 0, 0, 1, 0)] (by decide +kernel) rfl rfl ?_
  refine XA.callV (as := [.int 1]) (rest := [.long ((31 * y0) + (Int32.toInt64 y1))]) (mc' := 0) (ms' := 0) (idx := 322) (t := 883) cv_X10_train (by decide +kernel) rfl rfl rfl (Nat.le_of_ble_eq_true rfl) (Nat.le_of_ble_eq_true rfl) (Nat.le_of_ble_eq_true rfl) (Nat.le_of_ble_eq_true rfl) (H) (fun rv h' hp => ?_)
  obtain ⟨r9, s9, rfl, rfl, hK⟩ := hp
  exact ⟨rfl, rfl, XA.drop (by simp [leL]) hK⟩
set_option maxRecDepth 20000 in
theorem W_X10_digest_270 {scr : ScA}   {y0 : Int64} {y1 : Int32}  {σ : Nat → Nat → Int32} {P : Int64 → (Nat → Nat → Int32) → Prop} (H : CiA scr 6 mX10_spare [.ref 0, .int (-1)] σ (fun r9 σ' => K_X10_digest_281 scr ((31 * y0) + (Int32.toInt64 y1)) r9 σ' P)) : K_X10_digest_270 scr y0 y1 σ P := by
  show XA scr 7 mX10_digest 172 4705 270 [some (.ref 0), none, none, none] [.int y1, .long y0] (hs σ) (pJ P)
  refine XA.blk (e9 := 271) (ok := true) (ls' := [some (.ref 0), none, none, none]) (st' := [.long (Int32.toInt64 y1), .long y0]) (h' := hs σ) [(.i2l, 1, 0, 0, 0, 0, 0, 0)] (by decide +kernel) rfl rfl ?_
  refine XA.callS (as := [.long y0, .long (Int32.toInt64 y1)]) (rest := []) (mc' := 0) (ms' := 0) (idx := 292) (t := 861) cs_X10_mixed (by decide +kernel) rfl rfl (Nat.le_of_ble_eq_true rfl) (Nat.le_of_ble_eq_true rfl) (Nat.le_of_ble_eq_true rfl) (Nat.le_of_ble_eq_true rfl) (pu_X10_mixed scr σ y0 (Int32.toInt64 y1)) (fun rv h' hp => ?_)
  obtain ⟨rfl, rfl⟩ := hp
  refine ⟨rfl, rfl, ?_⟩
  show XA scr 7 mX10_digest 172 4705 274 [some (.ref 0), none, none, none] [.long ((31 * y0) + (Int32.toInt64 y1))] (hs σ) (pJ P)
  refine XA.blk (e9 := 278) (ok := true) (ls' := [some (.ref 0), some (.long ((31 * y0) + (Int32.toInt64 y1))), none, none]) (st' := [.int (-1), .ref 0, .long ((31 * y0) + (Int32.toInt64 y1))]) (h' := hs σ) [(.lstore_n 1, 1, 1, 0, 0, 0, 0, 0), (.lload_n 1, 1, 1, 0, 0, 0, 0, 0), (.aload_n 0, 1, 0, 0, 0, 0, 0, 0), (.iconst (-1), 1, 0, 0, 0, 0, (-1), 0)] (by decide +kernel) rfl rfl ?_
  refine XA.callV (as := [.int (-1)]) (rest := [.long ((31 * y0) + (Int32.toInt64 y1))]) (mc' := 0) (ms' := 0) (idx := 325) (t := 884) cv_X10_spare (by decide +kernel) rfl rfl rfl (Nat.le_of_ble_eq_true rfl) (Nat.le_of_ble_eq_true rfl) (Nat.le_of_ble_eq_true rfl) (Nat.le_of_ble_eq_true rfl) (H) (fun rv h' hp => ?_)
  obtain ⟨r9, s9, rfl, rfl, hK⟩ := hp
  exact ⟨rfl, rfl, XA.drop (by simp [leL]) hK⟩
set_option maxRecDepth 20000 in
theorem W_X10_digest_281 {scr : ScA}   {y0 : Int64} {y1 : Int32}  {σ : Nat → Nat → Int32} {P : Int64 → (Nat → Nat → Int32) → Prop} (H : CiA scr 6 mX10_spare [.ref 0, .int 0] σ (fun r9 σ' => K_X10_digest_292 scr ((31 * y0) + (Int32.toInt64 y1)) r9 σ' P)) : K_X10_digest_281 scr y0 y1 σ P := by
  show XA scr 7 mX10_digest 172 4705 281 [some (.ref 0), none, none, none] [.int y1, .long y0] (hs σ) (pJ P)
  refine XA.blk (e9 := 282) (ok := true) (ls' := [some (.ref 0), none, none, none]) (st' := [.long (Int32.toInt64 y1), .long y0]) (h' := hs σ) [(.i2l, 1, 0, 0, 0, 0, 0, 0)] (by decide +kernel) rfl rfl ?_
  refine XA.callS (as := [.long y0, .long (Int32.toInt64 y1)]) (rest := []) (mc' := 0) (ms' := 0) (idx := 292) (t := 861) cs_X10_mixed (by decide +kernel) rfl rfl (Nat.le_of_ble_eq_true rfl) (Nat.le_of_ble_eq_true rfl) (Nat.le_of_ble_eq_true rfl) (Nat.le_of_ble_eq_true rfl) (pu_X10_mixed scr σ y0 (Int32.toInt64 y1)) (fun rv h' hp => ?_)
  obtain ⟨rfl, rfl⟩ := hp
  refine ⟨rfl, rfl, ?_⟩
  show XA scr 7 mX10_digest 172 4705 285 [some (.ref 0), none, none, none] [.long ((31 * y0) + (Int32.toInt64 y1))] (hs σ) (pJ P)
  refine XA.blk (e9 := 289) (ok := true) (ls' := [some (.ref 0), some (.long ((31 * y0) + (Int32.toInt64 y1))), none, none]) (st' := [.int 0, .ref 0, .long ((31 * y0) + (Int32.toInt64 y1))]) (h' := hs σ) [(.lstore_n 1, 1, 1, 0, 0, 0, 0, 0), (.lload_n 1, 1, 1, 0, 0, 0, 0, 0), (.aload_n 0, 1, 0, 0, 0, 0, 0, 0), (.iconst 0, 1, 0, 0, 0, 0, 0, 0)] (by decide +kernel) rfl rfl ?_
  refine XA.callV (as := [.int 0]) (rest := [.long ((31 * y0) + (Int32.toInt64 y1))]) (mc' := 0) (ms' := 0) (idx := 325) (t := 884) cv_X10_spare (by decide +kernel) rfl rfl rfl (Nat.le_of_ble_eq_true rfl) (Nat.le_of_ble_eq_true rfl) (Nat.le_of_ble_eq_true rfl) (Nat.le_of_ble_eq_true rfl) (H) (fun rv h' hp => ?_)
  obtain ⟨r9, s9, rfl, rfl, hK⟩ := hp
  exact ⟨rfl, rfl, XA.drop (by simp [leL]) hK⟩
set_option maxRecDepth 20000 in
theorem W_X10_digest_292 {scr : ScA}   {y0 : Int64} {y1 : Int32}  {σ : Nat → Nat → Int32} {P : Int64 → (Nat → Nat → Int32) → Prop} (H : CiA scr 5 mX10_never [.ref 0] σ (fun r9 σ' => K_X10_digest_302 scr ((31 * y0) + (Int32.toInt64 y1)) r9 σ' P)) : K_X10_digest_292 scr y0 y1 σ P := by
  show XA scr 7 mX10_digest 172 4705 292 [some (.ref 0), none, none, none] [.int y1, .long y0] (hs σ) (pJ P)
  refine XA.blk (e9 := 293) (ok := true) (ls' := [some (.ref 0), none, none, none]) (st' := [.long (Int32.toInt64 y1), .long y0]) (h' := hs σ) [(.i2l, 1, 0, 0, 0, 0, 0, 0)] (by decide +kernel) rfl rfl ?_
  refine XA.callS (as := [.long y0, .long (Int32.toInt64 y1)]) (rest := []) (mc' := 0) (ms' := 0) (idx := 292) (t := 861) cs_X10_mixed (by decide +kernel) rfl rfl (Nat.le_of_ble_eq_true rfl) (Nat.le_of_ble_eq_true rfl) (Nat.le_of_ble_eq_true rfl) (Nat.le_of_ble_eq_true rfl) (pu_X10_mixed scr σ y0 (Int32.toInt64 y1)) (fun rv h' hp => ?_)
  obtain ⟨rfl, rfl⟩ := hp
  refine ⟨rfl, rfl, ?_⟩
  show XA scr 7 mX10_digest 172 4705 296 [some (.ref 0), none, none, none] [.long ((31 * y0) + (Int32.toInt64 y1))] (hs σ) (pJ P)
  refine XA.blk (e9 := 299) (ok := true) (ls' := [some (.ref 0), some (.long ((31 * y0) + (Int32.toInt64 y1))), none, none]) (st' := [.ref 0, .long ((31 * y0) + (Int32.toInt64 y1))]) (h' := hs σ) [(.lstore_n 1, 1, 1, 0, 0, 0, 0, 0), (.lload_n 1, 1, 1, 0, 0, 0, 0, 0), (.aload_n 0, 1, 0, 0, 0, 0, 0, 0)] (by decide +kernel) rfl rfl ?_
  refine XA.callV (as := []) (rest := [.long ((31 * y0) + (Int32.toInt64 y1))]) (mc' := 0) (ms' := 0) (idx := 328) (t := 885) cv_X10_never (by decide +kernel) rfl rfl rfl (Nat.le_of_ble_eq_true rfl) (Nat.le_of_ble_eq_true rfl) (Nat.le_of_ble_eq_true rfl) (Nat.le_of_ble_eq_true rfl) (H) (fun rv h' hp => ?_)
  obtain ⟨r9, s9, rfl, rfl, hK⟩ := hp
  exact ⟨rfl, rfl, XA.drop (by simp [leL]) hK⟩
set_option maxRecDepth 20000 in
theorem W_X10_digest_302 {scr : ScA}   {y0 : Int64} {y1 : Int32}  {σ : Nat → Nat → Int32} {P : Int64 → (Nat → Nat → Int32) → Prop} (H : CiA scr 4 mX10_years [.ref 0, .int 7, .int 6, .int 0] σ (fun r9 σ' => K_X10_digest_317 scr ((31 * y0) + (Int32.toInt64 y1)) r9 σ' P)) : K_X10_digest_302 scr y0 y1 σ P := by
  show XA scr 7 mX10_digest 172 4705 302 [some (.ref 0), none, none, none] [.int y1, .long y0] (hs σ) (pJ P)
  refine XA.blk (e9 := 303) (ok := true) (ls' := [some (.ref 0), none, none, none]) (st' := [.long (Int32.toInt64 y1), .long y0]) (h' := hs σ) [(.i2l, 1, 0, 0, 0, 0, 0, 0)] (by decide +kernel) rfl rfl ?_
  refine XA.callS (as := [.long y0, .long (Int32.toInt64 y1)]) (rest := []) (mc' := 0) (ms' := 0) (idx := 292) (t := 861) cs_X10_mixed (by decide +kernel) rfl rfl (Nat.le_of_ble_eq_true rfl) (Nat.le_of_ble_eq_true rfl) (Nat.le_of_ble_eq_true rfl) (Nat.le_of_ble_eq_true rfl) (pu_X10_mixed scr σ y0 (Int32.toInt64 y1)) (fun rv h' hp => ?_)
  obtain ⟨rfl, rfl⟩ := hp
  refine ⟨rfl, rfl, ?_⟩
  show XA scr 7 mX10_digest 172 4705 306 [some (.ref 0), none, none, none] [.long ((31 * y0) + (Int32.toInt64 y1))] (hs σ) (pJ P)
  refine XA.blk (e9 := 314) (ok := true) (ls' := [some (.ref 0), some (.long ((31 * y0) + (Int32.toInt64 y1))), none, none]) (st' := [.int 0, .int 6, .int 7, .ref 0, .long ((31 * y0) + (Int32.toInt64 y1))]) (h' := hs σ) [(.lstore_n 1, 1, 1, 0, 0, 0, 0, 0), (.lload_n 1, 1, 1, 0, 0, 0, 0, 0), (.aload_n 0, 1, 0, 0, 0, 0, 0, 0), (.bipush 7, 2, 0, 0, 0, 0, 7, 0), (.bipush 6, 2, 0, 0, 0, 0, 6, 0), (.iconst 0, 1, 0, 0, 0, 0, 0, 0)] (by decide +kernel) rfl rfl ?_
  refine XA.callV (as := [.int 7, .int 6, .int 0]) (rest := [.long ((31 * y0) + (Int32.toInt64 y1))]) (mc' := 0) (ms' := 0) (idx := 331) (t := 886) cv_X10_years (by decide +kernel) rfl rfl rfl (Nat.le_of_ble_eq_true rfl) (Nat.le_of_ble_eq_true rfl) (Nat.le_of_ble_eq_true rfl) (Nat.le_of_ble_eq_true rfl) (H) (fun rv h' hp => ?_)
  obtain ⟨r9, s9, rfl, rfl, hK⟩ := hp
  exact ⟨rfl, rfl, XA.drop (by simp [leL]) hK⟩
set_option maxRecDepth 20000 in
theorem W_X10_digest_317 {scr : ScA}   {y0 : Int64} {y1 : Int32}  {σ : Nat → Nat → Int32} {P : Int64 → (Nat → Nat → Int32) → Prop} (H : CiA scr 4 mX10_years [.ref 0, .int 7, .int 6, .int 1] σ (fun r9 σ' => K_X10_digest_332 scr ((31 * y0) + (Int32.toInt64 y1)) r9 σ' P)) : K_X10_digest_317 scr y0 y1 σ P := by
  show XA scr 7 mX10_digest 172 4705 317 [some (.ref 0), none, none, none] [.int y1, .long y0] (hs σ) (pJ P)
  refine XA.blk (e9 := 318) (ok := true) (ls' := [some (.ref 0), none, none, none]) (st' := [.long (Int32.toInt64 y1), .long y0]) (h' := hs σ) [(.i2l, 1, 0, 0, 0, 0, 0, 0)] (by decide +kernel) rfl rfl ?_
  refine XA.callS (as := [.long y0, .long (Int32.toInt64 y1)]) (rest := []) (mc' := 0) (ms' := 0) (idx := 292) (t := 861) cs_X10_mixed (by decide +kernel) rfl rfl (Nat.le_of_ble_eq_true rfl) (Nat.le_of_ble_eq_true rfl) (Nat.le_of_ble_eq_true rfl) (Nat.le_of_ble_eq_true rfl) (pu_X10_mixed scr σ y0 (Int32.toInt64 y1)) (fun rv h' hp => ?_)
  obtain ⟨rfl, rfl⟩ := hp
  refine ⟨rfl, rfl, ?_⟩
  show XA scr 7 mX10_digest 172 4705 321 [some (.ref 0), none, none, none] [.long ((31 * y0) + (Int32.toInt64 y1))] (hs σ) (pJ P)
  refine XA.blk (e9 := 329) (ok := true) (ls' := [some (.ref 0), some (.long ((31 * y0) + (Int32.toInt64 y1))), none, none]) (st' := [.int 1, .int 6, .int 7, .ref 0, .long ((31 * y0) + (Int32.toInt64 y1))]) (h' := hs σ) [(.lstore_n 1, 1, 1, 0, 0, 0, 0, 0), (.lload_n 1, 1, 1, 0, 0, 0, 0, 0), (.aload_n 0, 1, 0, 0, 0, 0, 0, 0), (.bipush 7, 2, 0, 0, 0, 0, 7, 0), (.bipush 6, 2, 0, 0, 0, 0, 6, 0), (.iconst 1, 1, 0, 0, 0, 0, 1, 0)] (by decide +kernel) rfl rfl ?_
  refine XA.callV (as := [.int 7, .int 6, .int 1]) (rest := [.long ((31 * y0) + (Int32.toInt64 y1))]) (mc' := 0) (ms' := 0) (idx := 331) (t := 886) cv_X10_years (by decide +kernel) rfl rfl rfl (Nat.le_of_ble_eq_true rfl) (Nat.le_of_ble_eq_true rfl) (Nat.le_of_ble_eq_true rfl) (Nat.le_of_ble_eq_true rfl) (H) (fun rv h' hp => ?_)
  obtain ⟨r9, s9, rfl, rfl, hK⟩ := hp
  exact ⟨rfl, rfl, XA.drop (by simp [leL]) hK⟩
set_option maxRecDepth 20000 in
theorem W_X10_digest_332 {scr : ScA}   {y0 : Int64} {y1 : Int32}  {σ : Nat → Nat → Int32} {P : Int64 → (Nat → Nat → Int32) → Prop} (H : P ((31 * y0) + (Int32.toInt64 y1)) σ) : K_X10_digest_332 scr y0 y1 σ P := by
  show XA scr 7 mX10_digest 172 4705 332 [none, none, none, none] [.int y1, .long y0] (hs σ) (pJ P)
  refine XA.blk (e9 := 333) (ok := true) (ls' := [none, none, none, none]) (st' := [.long (Int32.toInt64 y1), .long y0]) (h' := hs σ) [(.i2l, 1, 0, 0, 0, 0, 0, 0)] (by decide +kernel) rfl rfl ?_
  refine XA.callS (as := [.long y0, .long (Int32.toInt64 y1)]) (rest := []) (mc' := 0) (ms' := 0) (idx := 292) (t := 861) cs_X10_mixed (by decide +kernel) rfl rfl (Nat.le_of_ble_eq_true rfl) (Nat.le_of_ble_eq_true rfl) (Nat.le_of_ble_eq_true rfl) (Nat.le_of_ble_eq_true rfl) (pu_X10_mixed scr σ y0 (Int32.toInt64 y1)) (fun rv h' hp => ?_)
  obtain ⟨rfl, rfl⟩ := hp
  refine ⟨rfl, rfl, ?_⟩
  show XA scr 7 mX10_digest 172 4705 336 [none, none, none, none] [.long ((31 * y0) + (Int32.toInt64 y1))] (hs σ) (pJ P)
  exact XA.ret (some (.long ((31 * y0) + (Int32.toInt64 y1)))) rfl (show ckRt mX10_digest 336 .lreturn = true by decide +kernel) trivial (Nat.le_of_ble_eq_true rfl) (Nat.le_of_ble_eq_true rfl) ⟨_, _, rfl, rfl, H⟩
theorem E_X10_digest {scr : ScA}   {σ : Nat → Nat → Int32} {P : Int64 → (Nat → Nat → Int32) → Prop} (h : K_X10_digest_0 scr σ P) : ClA scr 7 mX10_digest [.ref 0] σ P := CtA.of (by decide) (Nat.le_of_ble_eq_true rfl) (XA.drop (by simp [leL, enL]) h)
def K_X10_mixedWithAcrobat_0 (scr : ScA)  (x1 : Int64) (x3 : Int32) (σ : Nat → Nat → Int32) (P : Int64 → (Nat → Nat → Int32) → Prop) : Prop := XA scr 6 mX10_mixedWithAcrobat 172 4705 0 [some (.ref 0), some (.long x1), none, some (.int x3), none, none, none, none, none, none, none] [] (hs σ) (pJ P)
def K_X10_mixedWithAcrobat_6 (scr : ScA)  (x3 : Int32) (x4 : Int64) (x6 : Int32) (σ : Nat → Nat → Int32) (P : Int64 → (Nat → Nat → Int32) → Prop) : Prop := XA scr 6 mX10_mixedWithAcrobat 172 4705 6 [some (.ref 0), none, none, some (.int x3), some (.long x4), none, some (.int x6), none, none, none, none] [] (hs σ) (pJ P)
def K_X10_mixedWithAcrobat_21 (scr : ScA)  (x3 : Int32) (x6 : Int32) (y0 : Int64) (y1 : Int32) (σ : Nat → Nat → Int32) (P : Int64 → (Nat → Nat → Int32) → Prop) : Prop := XA scr 6 mX10_mixedWithAcrobat 172 4705 21 [some (.ref 0), none, none, some (.int x3), none, none, some (.int x6), none, none, none, none] [.int y1, .long y0] (hs σ) (pJ P)
def K_X10_mixedWithAcrobat_46 (scr : ScA)  (x3 : Int32) (x4 : Int64) (x7 : Int32) (x8 : Int32) (σ : Nat → Nat → Int32) (P : Int64 → (Nat → Nat → Int32) → Prop) : Prop := XA scr 6 mX10_mixedWithAcrobat 172 4705 46 [some (.ref 0), none, none, some (.int x3), some (.long x4), none, some (.retAddr 3), some (.int x7), some (.int x8), none, none] [] (hs σ) (pJ P)
def K_X10_mixedWithAcrobat_63 (scr : ScA)  (x3 : Int32) (x4 : Int64) (x7 : Int32) (x8 : Int32) (x9 : Int32) (x10 : Int32) (σ : Nat → Nat → Int32) (P : Int64 → (Nat → Nat → Int32) → Prop) : Prop := XA scr 6 mX10_mixedWithAcrobat 172 4705 63 [some (.ref 0), none, none, some (.int x3), some (.long x4), none, some (.retAddr 3), some (.int x7), some (.int x8), some (.int x9), some (.int x10)] [] (hs σ) (pJ P)
def K_X10_mixedWithAcrobat_80 (scr : ScA)  (x3 : Int32) (x7 : Int32) (x8 : Int32) (x9 : Int32) (x10 : Int32) (y0 : Int64) (y1 : Int32) (σ : Nat → Nat → Int32) (P : Int64 → (Nat → Nat → Int32) → Prop) : Prop := XA scr 6 mX10_mixedWithAcrobat 172 4705 80 [some (.ref 0), none, none, some (.int x3), none, none, some (.retAddr 3), some (.int x7), some (.int x8), some (.int x9), some (.int x10)] [.int y1, .long y0] (hs σ) (pJ P)
def K_X10_mixedWithAcrobat_106 (scr : ScA)  (x3 : Int32) (y0 : Int64) (y1 : Int32) (σ : Nat → Nat → Int32) (P : Int64 → (Nat → Nat → Int32) → Prop) : Prop := XA scr 6 mX10_mixedWithAcrobat 172 4705 106 [some (.ref 0), none, none, some (.int x3), none, none, none, none, none, none, none] [.int y1, .long y0] (hs σ) (pJ P)
def K_X10_mixedWithAcrobat_120 (scr : ScA)  (x3 : Int32) (y0 : Int64) (y1 : Int32) (σ : Nat → Nat → Int32) (P : Int64 → (Nat → Nat → Int32) → Prop) : Prop := XA scr 6 mX10_mixedWithAcrobat 172 4705 120 [some (.ref 0), none, none, some (.int x3), none, none, none, none, none, none, none] [.int y1, .long y0] (hs σ) (pJ P)
def K_X10_mixedWithAcrobat_134 (scr : ScA)  (x3 : Int32) (y0 : Int64) (y1 : Int32) (σ : Nat → Nat → Int32) (P : Int64 → (Nat → Nat → Int32) → Prop) : Prop := XA scr 6 mX10_mixedWithAcrobat 172 4705 134 [some (.ref 0), none, none, some (.int x3), none, none, none, none, none, none, none] [.int y1, .long y0] (hs σ) (pJ P)
def K_X10_mixedWithAcrobat_148 (scr : ScA)  (x3 : Int32) (y0 : Int64) (y1 : Int32) (σ : Nat → Nat → Int32) (P : Int64 → (Nat → Nat → Int32) → Prop) : Prop := XA scr 6 mX10_mixedWithAcrobat 172 4705 148 [some (.ref 0), none, none, some (.int x3), none, none, none, none, none, none, none] [.int y1, .long y0] (hs σ) (pJ P)
def K_X10_mixedWithAcrobat_161 (scr : ScA)  (y0 : Int64) (y1 : Int32) (σ : Nat → Nat → Int32) (P : Int64 → (Nat → Nat → Int32) → Prop) : Prop := XA scr 6 mX10_mixedWithAcrobat 172 4705 161 [none, none, none, none, none, none, none, none, none, none, none] [.int y1, .long y0] (hs σ) (pJ P)
set_option maxRecDepth 20000 in
theorem W_X10_mixedWithAcrobat_0 {scr : ScA}   {x1 : Int64} {x3 : Int32}  {σ : Nat → Nat → Int32} {P : Int64 → (Nat → Nat → Int32) → Prop} (H : K_X10_mixedWithAcrobat_6 scr x3 x1 0 σ P) : K_X10_mixedWithAcrobat_0 scr x1 x3 σ P := by
  show XA scr 6 mX10_mixedWithAcrobat 172 4705 0 [some (.ref 0), some (.long x1), none, some (.int x3), none, none, none, none, none, none, none] [] (hs σ) (pJ P)
  refine XA.blk (e9 := 6) (ok := true) (ls' := [some (.ref 0), some (.long x1), none, some (.int x3), some (.long x1), none, some (.int 0), none, none, none, none]) (st' := []) (h' := hs σ) [(.lload_n 1, 1, 1, 0, 0, 0, 0, 0), (.lstore 4, 2, 4, 0, 0, 0, 0, 0), (.iconst 0, 1, 0, 0, 0, 0, 0, 0), (.istore 6, 2, 6, 0, 0, 0, 0, 0)] (by decide +kernel) rfl rfl ?_
  exact XA.drop (by simp [leL]) H
set_option maxRecDepth 20000 in
theorem W_X10_mixedWithAcrobat_6 {scr : ScA}   {x3 : Int32} {x4 : Int64} {x6 : Int32}  {σ : Nat → Nat → Int32} {P : Int64 → (Nat → Nat → Int32) → Prop} (H : (5 ≤ x6 → K_X10_mixedWithAcrobat_46 scr x3 x4 5 0 σ P) ∧ (¬ 5 ≤ x6 → CiA scr 1 mX10_acrobat [.ref 0, .int x3, .int x6] σ (fun r9 σ' => K_X10_mixedWithAcrobat_21 scr x3 x6 x4 r9 σ' P))) : K_X10_mixedWithAcrobat_6 scr x3 x4 x6 σ P := by
  show XA scr 6 mX10_mixedWithAcrobat 172 4705 6 [some (.ref 0), none, none, some (.int x3), some (.long x4), none, some (.int x6), none, none, none, none] [] (hs σ) (pJ P)
  refine XA.blk (e9 := 9) (ok := true) (ls' := [some (.ref 0), none, none, some (.int x3), some (.long x4), none, some (.int x6), none, none, none, none]) (st' := [.int 5, .int x6]) (h' := hs σ) [(.iload 6, 2, 6, 0, 0, 0, 0, 0), (.iconst 5, 1, 0, 0, 0, 0, 5, 0)] (by decide +kernel) rfl rfl ?_
  refine XA.icmp_ge (24) 33 (by decide +kernel) (fun c1 => ?_) (fun c1 => ?_)
  · have H := H.1 c1
    refine XA.blk (e9 := 46) (ok := true) (ls' := [some (.ref 0), none, none, some (.int x3), some (.long x4), none, some (.retAddr 3), some (.int 5), some (.int 0), none, none]) (st' := []) (h' := hs σ) [(.getstatic 337, 3, 3, 0, 0, 871, 0, 0), (.astore 6, 2, 6, 0, 0, 0, 0, 0), (.aload 6, 2, 6, 0, 0, 0, 0, 0), (.arraylength, 1, 0, 0, 0, 0, 0, 0), (.istore 7, 2, 7, 0, 0, 0, 0, 0), (.iconst 0, 1, 0, 0, 0, 0, 0, 0), (.istore 8, 2, 8, 0, 0, 0, 0, 0)] (by decide +kernel) rfl rfl ?_
    exact H
  · have H := H.2 c1
    refine XA.blk (e9 := 18) (ok := true) (ls' := [some (.ref 0), none, none, some (.int x3), some (.long x4), none, some (.int x6), none, none, none, none]) (st' := [.int x6, .int x3, .ref 0, .long x4]) (h' := hs σ) [(.lload 4, 2, 4, 0, 0, 0, 0, 0), (.aload_n 0, 1, 0, 0, 0, 0, 0, 0), (.iload_n 3, 1, 3, 0, 0, 0, 0, 0), (.iload 6, 2, 6, 0, 0, 0, 0, 0)] (by decide +kernel) rfl rfl ?_
    refine XA.callV (as := [.int x3, .int x6]) (rest := [.long x4]) (mc' := 0) (ms' := 0) (idx := 334) (t := 870) cv_X10_acrobat (by decide +kernel) rfl rfl rfl (Nat.le_of_ble_eq_true rfl) (Nat.le_of_ble_eq_true rfl) (Nat.le_of_ble_eq_true rfl) (Nat.le_of_ble_eq_true rfl) (H) (fun rv h' hp => ?_)
    obtain ⟨r9, s9, rfl, rfl, hK⟩ := hp
    exact ⟨rfl, rfl, XA.drop (by simp [leL]) hK⟩
set_option maxRecDepth 20000 in
theorem W_X10_mixedWithAcrobat_21 {scr : ScA}   {x3 : Int32} {x6 : Int32} {y0 : Int64} {y1 : Int32}  {σ : Nat → Nat → Int32} {P : Int64 → (Nat → Nat → Int32) → Prop} (H : K_X10_mixedWithAcrobat_6 scr x3 ((31 * y0) + (Int32.toInt64 y1)) (x6 + 1) σ P) : K_X10_mixedWithAcrobat_21 scr x3 x6 y0 y1 σ P := by
  show XA scr 6 mX10_mixedWithAcrobat 172 4705 21 [some (.ref 0), none, none, some (.int x3), none, none, some (.int x6), none, none, none, none] [.int y1, .long y0] (hs σ) (pJ P)
  refine XA.blk (e9 := 22) (ok := true) (ls' := [some (.ref 0), none, none, some (.int x3), none, none, some (.int x6), none, none, none, none]) (st' := [.long (Int32.toInt64 y1), .long y0]) (h' := hs σ) [(.i2l, 1, 0, 0, 0, 0, 0, 0)] (by decide +kernel) rfl rfl ?_
  refine XA.callS (as := [.long y0, .long (Int32.toInt64 y1)]) (rest := []) (mc' := 0) (ms' := 0) (idx := 292) (t := 861) cs_X10_mixed (by decide +kernel) rfl rfl (Nat.le_of_ble_eq_true rfl) (Nat.le_of_ble_eq_true rfl) (Nat.le_of_ble_eq_true rfl) (Nat.le_of_ble_eq_true rfl) (pu_X10_mixed scr σ y0 (Int32.toInt64 y1)) (fun rv h' hp => ?_)
  obtain ⟨rfl, rfl⟩ := hp
  refine ⟨rfl, rfl, ?_⟩
  show XA scr 6 mX10_mixedWithAcrobat 172 4705 25 [some (.ref 0), none, none, some (.int x3), none, none, some (.int x6), none, none, none, none] [.long ((31 * y0) + (Int32.toInt64 y1))] (hs σ) (pJ P)
  refine XA.blk (e9 := 6) (ok := true) (ls' := [some (.ref 0), none, none, some (.int x3), some (.long ((31 * y0) + (Int32.toInt64 y1))), none, some (.int (x6 + 1)), none, none, none, none]) (st' := []) (h' := hs σ) [(.lstore 4, 2, 4, 0, 0, 0, 0, 0), (.iinc 6 1, 3, 6, 0, 0, 0, 1, 0), (.goto (-24), 3, 6, 0, 0, 0, 0, 0)] (by decide +kernel) rfl rfl ?_
  exact H
set_option maxRecDepth 20000 in
theorem W_X10_mixedWithAcrobat_46 {scr : ScA}   {x3 : Int32} {x4 : Int64} {x7 : Int32} {x8 : Int32}  {σ : Nat → Nat → Int32} {P : Int64 → (Nat → Nat → Int32) → Prop} (H : (x7 ≤ x8 → CiA scr 5 mX10_come [.ref 0, .int x3, .int 0] σ (fun r9 σ' => K_X10_mixedWithAcrobat_106 scr x3 x4 r9 σ' P)) ∧ (¬ x7 ≤ x8 → (inB x8 5 = true) ∧ (K_X10_mixedWithAcrobat_63 scr x3 x4 x7 x8 (tbV scr 3 (Int32.toNatClampNeg x8)) 0 σ P))) : K_X10_mixedWithAcrobat_46 scr x3 x4 x7 x8 σ P := by
  show XA scr 6 mX10_mixedWithAcrobat 172 4705 46 [some (.ref 0), none, none, some (.int x3), some (.long x4), none, some (.retAddr 3), some (.int x7), some (.int x8), none, none] [] (hs σ) (pJ P)
  refine XA.blk (e9 := 50) (ok := true) (ls' := [some (.ref 0), none, none, some (.int x3), some (.long x4), none, some (.retAddr 3), some (.int x7), some (.int x8), none, none]) (st' := [.int x7, .int x8]) (h' := hs σ) [(.iload 8, 2, 8, 0, 0, 0, 0, 0), (.iload 7, 2, 7, 0, 0, 0, 0, 0)] (by decide +kernel) rfl rfl ?_
  refine XA.icmp_ge (48) 98 (by decide +kernel) (fun c1 => ?_) (fun c1 => ?_)
  · have H := H.1 c1
    refine XA.blk (e9 := 103) (ok := true) (ls' := [some (.ref 0), none, none, some (.int x3), some (.long x4), none, some (.retAddr 3), some (.int x7), some (.int x8), none, none]) (st' := [.int 0, .int x3, .ref 0, .long x4]) (h' := hs σ) [(.lload 4, 2, 4, 0, 0, 0, 0, 0), (.aload_n 0, 1, 0, 0, 0, 0, 0, 0), (.iload_n 3, 1, 3, 0, 0, 0, 0, 0), (.iconst 0, 1, 0, 0, 0, 0, 0, 0)] (by decide +kernel) rfl rfl ?_
    refine XA.callV (as := [.int x3, .int 0]) (rest := [.long x4]) (mc' := 0) (ms' := 0) (idx := 343) (t := 874) cv_X10_come (by decide +kernel) rfl rfl rfl (Nat.le_of_ble_eq_true rfl) (Nat.le_of_ble_eq_true rfl) (Nat.le_of_ble_eq_true rfl) (Nat.le_of_ble_eq_true rfl) (H) (fun rv h' hp => ?_)
    obtain ⟨r9, s9, rfl, rfl, hK⟩ := hp
    exact ⟨rfl, rfl, XA.drop (by simp [leL]) hK⟩
  · have H := H.2 c1
    obtain ⟨o1, H⟩ := H
    refine XA.blk (e9 := 63) (ok := inB x8 5 && (true)) (ls' := [some (.ref 0), none, none, some (.int x3), some (.long x4), none, some (.retAddr 3), some (.int x7), some (.int x8), some (.int (tbV scr 3 (Int32.toNatClampNeg x8))), some (.int 0)]) (st' := []) (h' := hs σ) [(.aload 6, 2, 6, 0, 0, 0, 0, 0), (.iload 8, 2, 8, 0, 0, 0, 0, 0), (.iaload, 1, 0, 0, 0, 0, 0, 0), (.istore 9, 2, 9, 0, 0, 0, 0, 0), (.iconst 0, 1, 0, 0, 0, 0, 0, 0), (.istore 10, 2, 10, 0, 0, 0, 0, 0)] (by decide +kernel) rfl (by simp only [o1, Bool.and_true, Bool.true_and]) ?_
    exact H
set_option maxRecDepth 20000 in
theorem W_X10_mixedWithAcrobat_63 {scr : ScA}   {x3 : Int32} {x4 : Int64} {x7 : Int32} {x8 : Int32} {x9 : Int32} {x10 : Int32}  {σ : Nat → Nat → Int32} {P : Int64 → (Nat → Nat → Int32) → Prop} (H : (4 ≤ x10 → K_X10_mixedWithAcrobat_46 scr x3 x4 x7 (x8 + 1) σ P) ∧ (¬ 4 ≤ x10 → CiA scr 5 mX10_at [.ref 0, .int x9, .int x3, .int x10] σ (fun r9 σ' => K_X10_mixedWithAcrobat_80 scr x3 x7 x8 x9 x10 x4 r9 σ' P))) : K_X10_mixedWithAcrobat_63 scr x3 x4 x7 x8 x9 x10 σ P := by
  show XA scr 6 mX10_mixedWithAcrobat 172 4705 63 [some (.ref 0), none, none, some (.int x3), some (.long x4), none, some (.retAddr 3), some (.int x7), some (.int x8), some (.int x9), some (.int x10)] [] (hs σ) (pJ P)
  refine XA.blk (e9 := 66) (ok := true) (ls' := [some (.ref 0), none, none, some (.int x3), some (.long x4), none, some (.retAddr 3), some (.int x7), some (.int x8), some (.int x9), some (.int x10)]) (st' := [.int 4, .int x10]) (h' := hs σ) [(.iload 10, 2, 10, 0, 0, 0, 0, 0), (.iconst 4, 1, 0, 0, 0, 0, 4, 0)] (by decide +kernel) rfl rfl ?_
  refine XA.icmp_ge (26) 92 (by decide +kernel) (fun c1 => ?_) (fun c1 => ?_)
  · have H := H.1 c1
    refine XA.blk (e9 := 46) (ok := true) (ls' := [some (.ref 0), none, none, some (.int x3), some (.long x4), none, some (.retAddr 3), some (.int x7), some (.int (x8 + 1)), some (.int x9), some (.int x10)]) (st' := []) (h' := hs σ) [(.iinc 8 1, 3, 8, 0, 0, 0, 1, 0), (.goto (-49), 3, 46, 0, 0, 0, 0, 0)] (by decide +kernel) rfl rfl ?_
    exact XA.drop (by simp [leL]) H
  · have H := H.2 c1
    refine XA.blk (e9 := 77) (ok := true) (ls' := [some (.ref 0), none, none, some (.int x3), some (.long x4), none, some (.retAddr 3), some (.int x7), some (.int x8), some (.int x9), some (.int x10)]) (st' := [.int x10, .int x3, .int x9, .ref 0, .long x4]) (h' := hs σ) [(.lload 4, 2, 4, 0, 0, 0, 0, 0), (.aload_n 0, 1, 0, 0, 0, 0, 0, 0), (.iload 9, 2, 9, 0, 0, 0, 0, 0), (.iload_n 3, 1, 3, 0, 0, 0, 0, 0), (.iload 10, 2, 10, 0, 0, 0, 0, 0)] (by decide +kernel) rfl rfl ?_
    refine XA.callV (as := [.int x9, .int x3, .int x10]) (rest := [.long x4]) (mc' := 0) (ms' := 0) (idx := 340) (t := 873) cv_X10_at (by decide +kernel) rfl rfl rfl (Nat.le_of_ble_eq_true rfl) (Nat.le_of_ble_eq_true rfl) (Nat.le_of_ble_eq_true rfl) (Nat.le_of_ble_eq_true rfl) (H) (fun rv h' hp => ?_)
    obtain ⟨r9, s9, rfl, rfl, hK⟩ := hp
    exact ⟨rfl, rfl, XA.drop (by simp [leL]) hK⟩
set_option maxRecDepth 20000 in
theorem W_X10_mixedWithAcrobat_80 {scr : ScA}   {x3 : Int32} {x7 : Int32} {x8 : Int32} {x9 : Int32} {x10 : Int32} {y0 : Int64} {y1 : Int32}  {σ : Nat → Nat → Int32} {P : Int64 → (Nat → Nat → Int32) → Prop} (H : K_X10_mixedWithAcrobat_63 scr x3 ((31 * y0) + (Int32.toInt64 y1)) x7 x8 x9 (x10 + 1) σ P) : K_X10_mixedWithAcrobat_80 scr x3 x7 x8 x9 x10 y0 y1 σ P := by
  show XA scr 6 mX10_mixedWithAcrobat 172 4705 80 [some (.ref 0), none, none, some (.int x3), none, none, some (.retAddr 3), some (.int x7), some (.int x8), some (.int x9), some (.int x10)] [.int y1, .long y0] (hs σ) (pJ P)
  refine XA.blk (e9 := 81) (ok := true) (ls' := [some (.ref 0), none, none, some (.int x3), none, none, some (.retAddr 3), some (.int x7), some (.int x8), some (.int x9), some (.int x10)]) (st' := [.long (Int32.toInt64 y1), .long y0]) (h' := hs σ) [(.i2l, 1, 0, 0, 0, 0, 0, 0)] (by decide +kernel) rfl rfl ?_
  refine XA.callS (as := [.long y0, .long (Int32.toInt64 y1)]) (rest := []) (mc' := 0) (ms' := 0) (idx := 292) (t := 861) cs_X10_mixed (by decide +kernel) rfl rfl (Nat.le_of_ble_eq_true rfl) (Nat.le_of_ble_eq_true rfl) (Nat.le_of_ble_eq_true rfl) (Nat.le_of_ble_eq_true rfl) (pu_X10_mixed scr σ y0 (Int32.toInt64 y1)) (fun rv h' hp => ?_)
  obtain ⟨rfl, rfl⟩ := hp
  refine ⟨rfl, rfl, ?_⟩
  show XA scr 6 mX10_mixedWithAcrobat 172 4705 84 [some (.ref 0), none, none, some (.int x3), none, none, some (.retAddr 3), some (.int x7), some (.int x8), some (.int x9), some (.int x10)] [.long ((31 * y0) + (Int32.toInt64 y1))] (hs σ) (pJ P)
  refine XA.blk (e9 := 63) (ok := true) (ls' := [some (.ref 0), none, none, some (.int x3), some (.long ((31 * y0) + (Int32.toInt64 y1))), none, some (.retAddr 3), some (.int x7), some (.int x8), some (.int x9), some (.int (x10 + 1))]) (st' := []) (h' := hs σ) [(.lstore 4, 2, 4, 0, 0, 0, 0, 0), (.iinc 10 1, 3, 10, 0, 0, 0, 1, 0), (.goto (-26), 3, 63, 0, 0, 0, 0, 0)] (by decide +kernel) rfl rfl ?_
  exact H
set_option maxRecDepth 20000 in
theorem W_X10_mixedWithAcrobat_106 {scr : ScA}   {x3 : Int32} {y0 : Int64} {y1 : Int32}  {σ : Nat → Nat → Int32} {P : Int64 → (Nat → Nat → Int32) → Prop} (H : CiA scr 5 mX10_come [.ref 0, .int x3, .int 1] σ (fun r9 σ' => K_X10_mixedWithAcrobat_120 scr x3 ((31 * y0) + (Int32.toInt64 y1)) r9 σ' P)) : K_X10_mixedWithAcrobat_106 scr x3 y0 y1 σ P := by
  show XA scr 6 mX10_mixedWithAcrobat 172 4705 106 [some (.ref 0), none, none, some (.int x3), none, none, none, none, none, none, none] [.int y1, .long y0] (hs σ) (pJ P)
  refine XA.blk (e9 := 107) (ok := true) (ls' := [some (.ref 0), none, none, some (.int x3), none, none, none, none, none, none, none]) (st' := [.long (Int32.toInt64 y1), .long y0]) (h' := hs σ) [(.i2l, 1, 0, 0, 0, 0, 0, 0)] (by decide +kernel) rfl rfl ?_
  refine XA.callS (as := [.long y0, .long (Int32.toInt64 y1)]) (rest := []) (mc' := 0) (ms' := 0) (idx := 292) (t := 861) cs_X10_mixed (by decide +kernel) rfl rfl (Nat.le_of_ble_eq_true rfl) (Nat.le_of_ble_eq_true rfl) (Nat.le_of_ble_eq_true rfl) (Nat.le_of_ble_eq_true rfl) (pu_X10_mixed scr σ y0 (Int32.toInt64 y1)) (fun rv h' hp => ?_)
  obtain ⟨rfl, rfl⟩ := hp
  refine ⟨rfl, rfl, ?_⟩
  show XA scr 6 mX10_mixedWithAcrobat 172 4705 110 [some (.ref 0), none, none, some (.int x3), none, none, none, none, none, none, none] [.long ((31 * y0) + (Int32.toInt64 y1))] (hs σ) (pJ P)
  refine XA.blk (e9 := 117) (ok := true) (ls' := [some (.ref 0), none, none, some (.int x3), some (.long ((31 * y0) + (Int32.toInt64 y1))), none, none, none, none, none, none]) (st' := [.int 1, .int x3, .ref 0, .long ((31 * y0) + (Int32.toInt64 y1))]) (h' := hs σ) [(.lstore 4, 2, 4, 0, 0, 0, 0, 0), (.lload 4, 2, 4, 0, 0, 0, 0, 0), (.aload_n 0, 1, 0, 0, 0, 0, 0, 0), (.iload_n 3, 1, 3, 0, 0, 0, 0, 0), (.iconst 1, 1, 0, 0, 0, 0, 1, 0)] (by decide +kernel) rfl rfl ?_
  refine XA.callV (as := [.int x3, .int 1]) (rest := [.long ((31 * y0) + (Int32.toInt64 y1))]) (mc' := 0) (ms' := 0) (idx := 343) (t := 874) cv_X10_come (by decide +kernel) rfl rfl rfl (Nat.le_of_ble_eq_true rfl) (Nat.le_of_ble_eq_true rfl) (Nat.le_of_ble_eq_true rfl) (Nat.le_of_ble_eq_true rfl) (H) (fun rv h' hp => ?_)
  obtain ⟨r9, s9, rfl, rfl, hK⟩ := hp
  exact ⟨rfl, rfl, XA.drop (by simp [leL]) hK⟩
set_option maxRecDepth 20000 in
theorem W_X10_mixedWithAcrobat_120 {scr : ScA}   {x3 : Int32} {y0 : Int64} {y1 : Int32}  {σ : Nat → Nat → Int32} {P : Int64 → (Nat → Nat → Int32) → Prop} (H : CiA scr 5 mX10_was [.ref 0, .int x3, .int 0] σ (fun r9 σ' => K_X10_mixedWithAcrobat_134 scr x3 ((31 * y0) + (Int32.toInt64 y1)) r9 σ' P)) : K_X10_mixedWithAcrobat_120 scr x3 y0 y1 σ P := by
  show XA scr 6 mX10_mixedWithAcrobat 172 4705 120 [some (.ref 0), none, none, some (.int x3), none, none, none, none, none, none, none] [.int y1, .long y0] (hs σ) (pJ P)
  refine XA.blk (e9 := 121) (ok := true) (ls' := [some (.ref 0), none, none, some (.int x3), none, none, none, none, none, none, none]) (st' := [.long (Int32.toInt64 y1), .long y0]) (h' := hs σ) [(.i2l, 1, 0, 0, 0, 0, 0, 0)] (by decide +kernel) rfl rfl ?_
  refine XA.callS (as := [.long y0, .long (Int32.toInt64 y1)]) (rest := []) (mc' := 0) (ms' := 0) (idx := 292) (t := 861) cs_X10_mixed (by decide +kernel) rfl rfl (Nat.le_of_ble_eq_true rfl) (Nat.le_of_ble_eq_true rfl) (Nat.le_of_ble_eq_true rfl) (Nat.le_of_ble_eq_true rfl) (pu_X10_mixed scr σ y0 (Int32.toInt64 y1)) (fun rv h' hp => ?_)
  obtain ⟨rfl, rfl⟩ := hp
  refine ⟨rfl, rfl, ?_⟩
  show XA scr 6 mX10_mixedWithAcrobat 172 4705 124 [some (.ref 0), none, none, some (.int x3), none, none, none, none, none, none, none] [.long ((31 * y0) + (Int32.toInt64 y1))] (hs σ) (pJ P)
  refine XA.blk (e9 := 131) (ok := true) (ls' := [some (.ref 0), none, none, some (.int x3), some (.long ((31 * y0) + (Int32.toInt64 y1))), none, none, none, none, none, none]) (st' := [.int 0, .int x3, .ref 0, .long ((31 * y0) + (Int32.toInt64 y1))]) (h' := hs σ) [(.lstore 4, 2, 4, 0, 0, 0, 0, 0), (.lload 4, 2, 4, 0, 0, 0, 0, 0), (.aload_n 0, 1, 0, 0, 0, 0, 0, 0), (.iload_n 3, 1, 3, 0, 0, 0, 0, 0), (.iconst 0, 1, 0, 0, 0, 0, 0, 0)] (by decide +kernel) rfl rfl ?_
  refine XA.callV (as := [.int x3, .int 0]) (rest := [.long ((31 * y0) + (Int32.toInt64 y1))]) (mc' := 0) (ms' := 0) (idx := 346) (t := 875) cv_X10_was (by decide +kernel) rfl rfl rfl (Nat.le_of_ble_eq_true rfl) (Nat.le_of_ble_eq_true rfl) (Nat.le_of_ble_eq_true rfl) (Nat.le_of_ble_eq_true rfl) (H) (fun rv h' hp => ?_)
  obtain ⟨r9, s9, rfl, rfl, hK⟩ := hp
  exact ⟨rfl, rfl, XA.drop (by simp [leL]) hK⟩
set_option maxRecDepth 20000 in
theorem W_X10_mixedWithAcrobat_134 {scr : ScA}   {x3 : Int32} {y0 : Int64} {y1 : Int32}  {σ : Nat → Nat → Int32} {P : Int64 → (Nat → Nat → Int32) → Prop} (H : CiA scr 5 mX10_was [.ref 0, .int x3, .int 1] σ (fun r9 σ' => K_X10_mixedWithAcrobat_148 scr x3 ((31 * y0) + (Int32.toInt64 y1)) r9 σ' P)) : K_X10_mixedWithAcrobat_134 scr x3 y0 y1 σ P := by
  show XA scr 6 mX10_mixedWithAcrobat 172 4705 134 [some (.ref 0), none, none, some (.int x3), none, none, none, none, none, none, none] [.int y1, .long y0] (hs σ) (pJ P)
  refine XA.blk (e9 := 135) (ok := true) (ls' := [some (.ref 0), none, none, some (.int x3), none, none, none, none, none, none, none]) (st' := [.long (Int32.toInt64 y1), .long y0]) (h' := hs σ) [(.i2l, 1, 0, 0, 0, 0, 0, 0)] (by decide +kernel) rfl rfl ?_
  refine XA.callS (as := [.long y0, .long (Int32.toInt64 y1)]) (rest := []) (mc' := 0) (ms' := 0) (idx := 292) (t := 861) cs_X10_mixed (by decide +kernel) rfl rfl (Nat.le_of_ble_eq_true rfl) (Nat.le_of_ble_eq_true rfl) (Nat.le_of_ble_eq_true rfl) (Nat.le_of_ble_eq_true rfl) (pu_X10_mixed scr σ y0 (Int32.toInt64 y1)) (fun rv h' hp => ?_)
  obtain ⟨rfl, rfl⟩ := hp
  refine ⟨rfl, rfl, ?_⟩
  show XA scr 6 mX10_mixedWithAcrobat 172 4705 138 [some (.ref 0), none, none, some (.int x3), none, none, none, none, none, none, none] [.long ((31 * y0) + (Int32.toInt64 y1))] (hs σ) (pJ P)
  refine XA.blk (e9 := 145) (ok := true) (ls' := [some (.ref 0), none, none, some (.int x3), some (.long ((31 * y0) + (Int32.toInt64 y1))), none, none, none, none, none, none]) (st' := [.int 1, .int x3, .ref 0, .long ((31 * y0) + (Int32.toInt64 y1))]) (h' := hs σ) [(.lstore 4, 2, 4, 0, 0, 0, 0, 0), (.lload 4, 2, 4, 0, 0, 0, 0, 0), (.aload_n 0, 1, 0, 0, 0, 0, 0, 0), (.iload_n 3, 1, 3, 0, 0, 0, 0, 0), (.iconst 1, 1, 0, 0, 0, 0, 1, 0)] (by decide +kernel) rfl rfl ?_
  refine XA.callV (as := [.int x3, .int 1]) (rest := [.long ((31 * y0) + (Int32.toInt64 y1))]) (mc' := 0) (ms' := 0) (idx := 346) (t := 875) cv_X10_was (by decide +kernel) rfl rfl rfl (Nat.le_of_ble_eq_true rfl) (Nat.le_of_ble_eq_true rfl) (Nat.le_of_ble_eq_true rfl) (Nat.le_of_ble_eq_true rfl) (H) (fun rv h' hp => ?_)
  obtain ⟨r9, s9, rfl, rfl, hK⟩ := hp
  exact ⟨rfl, rfl, XA.drop (by simp [leL]) hK⟩
set_option maxRecDepth 20000 in
theorem W_X10_mixedWithAcrobat_148 {scr : ScA}   {x3 : Int32} {y0 : Int64} {y1 : Int32}  {σ : Nat → Nat → Int32} {P : Int64 → (Nat → Nat → Int32) → Prop} (H : CiA scr 5 mX10_ask [.ref 0, .int x3] σ (fun r9 σ' => K_X10_mixedWithAcrobat_161 scr ((31 * y0) + (Int32.toInt64 y1)) r9 σ' P)) : K_X10_mixedWithAcrobat_148 scr x3 y0 y1 σ P := by
  show XA scr 6 mX10_mixedWithAcrobat 172 4705 148 [some (.ref 0), none, none, some (.int x3), none, none, none, none, none, none, none] [.int y1, .long y0] (hs σ) (pJ P)
  refine XA.blk (e9 := 149) (ok := true) (ls' := [some (.ref 0), none, none, some (.int x3), none, none, none, none, none, none, none]) (st' := [.long (Int32.toInt64 y1), .long y0]) (h' := hs σ) [(.i2l, 1, 0, 0, 0, 0, 0, 0)] (by decide +kernel) rfl rfl ?_
  refine XA.callS (as := [.long y0, .long (Int32.toInt64 y1)]) (rest := []) (mc' := 0) (ms' := 0) (idx := 292) (t := 861) cs_X10_mixed (by decide +kernel) rfl rfl (Nat.le_of_ble_eq_true rfl) (Nat.le_of_ble_eq_true rfl) (Nat.le_of_ble_eq_true rfl) (Nat.le_of_ble_eq_true rfl) (pu_X10_mixed scr σ y0 (Int32.toInt64 y1)) (fun rv h' hp => ?_)
  obtain ⟨rfl, rfl⟩ := hp
  refine ⟨rfl, rfl, ?_⟩
  show XA scr 6 mX10_mixedWithAcrobat 172 4705 152 [some (.ref 0), none, none, some (.int x3), none, none, none, none, none, none, none] [.long ((31 * y0) + (Int32.toInt64 y1))] (hs σ) (pJ P)
  refine XA.blk (e9 := 158) (ok := true) (ls' := [some (.ref 0), none, none, some (.int x3), some (.long ((31 * y0) + (Int32.toInt64 y1))), none, none, none, none, none, none]) (st' := [.int x3, .ref 0, .long ((31 * y0) + (Int32.toInt64 y1))]) (h' := hs σ) [(.lstore 4, 2, 4, 0, 0, 0, 0, 0), (.lload 4, 2, 4, 0, 0, 0, 0, 0), (.aload_n 0, 1, 0, 0, 0, 0, 0, 0), (.iload_n 3, 1, 3, 0, 0, 0, 0, 0)] (by decide +kernel) rfl rfl ?_
  refine XA.callV (as := [.int x3]) (rest := [.long ((31 * y0) + (Int32.toInt64 y1))]) (mc' := 0) (ms' := 0) (idx := 349) (t := 876) cv_X10_ask (by decide +kernel) rfl rfl rfl (Nat.le_of_ble_eq_true rfl) (Nat.le_of_ble_eq_true rfl) (Nat.le_of_ble_eq_true rfl) (Nat.le_of_ble_eq_true rfl) (H) (fun rv h' hp => ?_)
  obtain ⟨r9, s9, rfl, rfl, hK⟩ := hp
  exact ⟨rfl, rfl, XA.drop (by simp [leL]) hK⟩
set_option maxRecDepth 20000 in
theorem W_X10_mixedWithAcrobat_161 {scr : ScA}   {y0 : Int64} {y1 : Int32}  {σ : Nat → Nat → Int32} {P : Int64 → (Nat → Nat → Int32) → Prop} (H : P ((31 * y0) + (Int32.toInt64 y1)) σ) : K_X10_mixedWithAcrobat_161 scr y0 y1 σ P := by
  show XA scr 6 mX10_mixedWithAcrobat 172 4705 161 [none, none, none, none, none, none, none, none, none, none, none] [.int y1, .long y0] (hs σ) (pJ P)
  refine XA.blk (e9 := 162) (ok := true) (ls' := [none, none, none, none, none, none, none, none, none, none, none]) (st' := [.long (Int32.toInt64 y1), .long y0]) (h' := hs σ) [(.i2l, 1, 0, 0, 0, 0, 0, 0)] (by decide +kernel) rfl rfl ?_
  refine XA.callS (as := [.long y0, .long (Int32.toInt64 y1)]) (rest := []) (mc' := 0) (ms' := 0) (idx := 292) (t := 861) cs_X10_mixed (by decide +kernel) rfl rfl (Nat.le_of_ble_eq_true rfl) (Nat.le_of_ble_eq_true rfl) (Nat.le_of_ble_eq_true rfl) (Nat.le_of_ble_eq_true rfl) (pu_X10_mixed scr σ y0 (Int32.toInt64 y1)) (fun rv h' hp => ?_)
  obtain ⟨rfl, rfl⟩ := hp
  refine ⟨rfl, rfl, ?_⟩
  show XA scr 6 mX10_mixedWithAcrobat 172 4705 165 [none, none, none, none, none, none, none, none, none, none, none] [.long ((31 * y0) + (Int32.toInt64 y1))] (hs σ) (pJ P)
  exact XA.ret (some (.long ((31 * y0) + (Int32.toInt64 y1)))) rfl (show ckRt mX10_mixedWithAcrobat 165 .lreturn = true by decide +kernel) trivial (Nat.le_of_ble_eq_true rfl) (Nat.le_of_ble_eq_true rfl) ⟨_, _, rfl, rfl, H⟩
theorem E_X10_mixedWithAcrobat {scr : ScA}  {x1 : Int64} {x3 : Int32} {σ : Nat → Nat → Int32} {P : Int64 → (Nat → Nat → Int32) → Prop} (h : K_X10_mixedWithAcrobat_0 scr x1 x3 σ P) : ClA scr 6 mX10_mixedWithAcrobat [.ref 0, .long x1, .int x3] σ P := CtA.of (by decide) (Nat.le_of_ble_eq_true rfl) (XA.drop (by simp [leL, enL]) h)
def K_X10_castAnew_0 (scr : ScA)   (σ : Nat → Nat → Int32) (P : (Nat → Nat → Int32) → Prop) : Prop := XA scr 5 mX10_castAnew 172 4705 0 [some (.ref 0)] [] (hs σ) (pV P)
def K_X10_castAnew_12 (scr : ScA)  (y1 : Int32) (σ : Nat → Nat → Int32) (P : (Nat → Nat → Int32) → Prop) : Prop := XA scr 5 mX10_castAnew 172 4705 12 [some (.ref 0)] [.int y1, .ref 0] (hs σ) (pV P)
def K_X10_castAnew_19 (scr : ScA)   (σ : Nat → Nat → Int32) (P : (Nat → Nat → Int32) → Prop) : Prop := XA scr 5 mX10_castAnew 172 4705 19 [none] [] (hs σ) (pV P)
set_option maxRecDepth 20000 in
theorem W_X10_castAnew_0 {scr : ScA}     {σ : Nat → Nat → Int32} {P : (Nat → Nat → Int32) → Prop} (H : CiA scr 4 mX7_castInto [.ref 1, .ref 3] σ (fun r9 σ' => K_X10_castAnew_12 scr r9 σ' P)) : K_X10_castAnew_0 scr σ P := by
  show XA scr 5 mX10_castAnew 172 4705 0 [some (.ref 0)] [] (hs σ) (pV P)
  refine XA.blk (e9 := 9) (ok := true) (ls' := [some (.ref 0)]) (st' := [.ref 3, .ref 1, .ref 0]) (h' := hs σ) [(.aload_n 0, 1, 0, 0, 0, 0, 0, 0), (.aload_n 0, 1, 0, 0, 0, 0, 0, 0), (.getfield 10, 3, 10, 0, 2, 398, 0, 0), (.aload_n 0, 1, 0, 0, 0, 0, 0, 0), (.getfield 19, 3, 10, 1, 4, 399, 0, 0)] (by decide +kernel) rfl rfl ?_
  refine XA.callV (as := [.ref 3]) (rest := [.ref 0]) (mc' := 0) (ms' := 0) (idx := 357) (t := 456) cv_X7_castInto (by decide +kernel) rfl rfl rfl (Nat.le_of_ble_eq_true rfl) (Nat.le_of_ble_eq_true rfl) (Nat.le_of_ble_eq_true rfl) (Nat.le_of_ble_eq_true rfl) (H) (fun rv h' hp => ?_)
  obtain ⟨r9, s9, rfl, rfl, hK⟩ := hp
  exact ⟨rfl, rfl, hK⟩
set_option maxRecDepth 20000 in
theorem W_X10_castAnew_12 {scr : ScA}   {y1 : Int32}  {σ : Nat → Nat → Int32} {P : (Nat → Nat → Int32) → Prop} (H : ∀ σ1, σ1 = (su σ 0 11 y1) → CvA scr 2 mX10_forgetAnswers [.ref 0] σ1 (fun σ' => K_X10_castAnew_19 scr σ' P)) : K_X10_castAnew_12 scr y1 σ P := by
  show XA scr 5 mX10_castAnew 172 4705 12 [some (.ref 0)] [.int y1, .ref 0] (hs σ) (pV P)
  refine XA.blk (e9 := 15) (ok := true) (ls' := [some (.ref 0)]) (st' := []) (h' := hs (su σ 0 11 y1)) [(.putfield 80, 3, 10, 11, 0, 409, 0, 0)] (by decide +kernel) rfl rfl ?_
  obtain ⟨σ1, hσ1⟩ : ∃ s9, s9 = (su σ 0 11 y1) := ⟨_, rfl⟩
  rw [← hσ1]
  have H := H σ1 hσ1
  refine XA.blk (e9 := 16) (ok := true) (ls' := [some (.ref 0)]) (st' := [.ref 0]) (h' := hs σ1) [(.aload_n 0, 1, 0, 0, 0, 0, 0, 0)] (by decide +kernel) rfl rfl ?_
  refine XA.callV (as := []) (rest := []) (mc' := 0) (ms' := 0) (idx := 122) (t := 479) cv_X10_forgetAnswers (by decide +kernel) rfl rfl rfl (Nat.le_of_ble_eq_true rfl) (Nat.le_of_ble_eq_true rfl) (Nat.le_of_ble_eq_true rfl) (Nat.le_of_ble_eq_true rfl) (H) (fun rv h' hp => ?_)
  obtain ⟨s9, rfl, rfl, hK⟩ := hp
  exact ⟨rfl, rfl, XA.drop (by simp [leL]) hK⟩
set_option maxRecDepth 20000 in
theorem W_X10_castAnew_19 {scr : ScA}     {σ : Nat → Nat → Int32} {P : (Nat → Nat → Int32) → Prop} (H : P σ) : K_X10_castAnew_19 scr σ P := by
  show XA scr 5 mX10_castAnew 172 4705 19 [none] [] (hs σ) (pV P)
  exact XA.ret none rfl (show ckRt mX10_castAnew 19 .return_ = true by decide +kernel) trivial (Nat.le_of_ble_eq_true rfl) (Nat.le_of_ble_eq_true rfl) ⟨_, rfl, rfl, H⟩
theorem E_X10_castAnew {scr : ScA}   {σ : Nat → Nat → Int32} {P : (Nat → Nat → Int32) → Prop} (h : K_X10_castAnew_0 scr σ P) : CvA scr 5 mX10_castAnew [.ref 0] σ P := CtA.of (by decide) (Nat.le_of_ble_eq_true rfl) (XA.drop (by simp [leL, enL]) h)
