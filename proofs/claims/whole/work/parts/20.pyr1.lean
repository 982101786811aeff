def K_X10_most_0 (scr : ScA)  (x1 : Int32) (σ : Nat → Nat → Int32) (P : Int32 → (Nat → Nat → Int32) → Prop) : Prop := XA scr 5 mX10_most 172 4705 0 [some (.ref 0), some (.int x1), none, none, none] [] (hs σ) (pI P)
def K_X10_most_15 (scr : ScA)  (x1 : Int32) (σ : Nat → Nat → Int32) (P : Int32 → (Nat → Nat → Int32) → Prop) : Prop := XA scr 5 mX10_most 172 4705 15 [none, some (.int x1), none, none, none] [.ref 18] (hs σ) (pI P)
def K_X10_most_24 (scr : ScA)  (x1 : Int32) (x3 : Int32) (x4 : Int32) (σ : Nat → Nat → Int32) (P : Int32 → (Nat → Nat → Int32) → Prop) : Prop := XA scr 5 mX10_most 172 4705 24 [none, some (.int x1), some (.ref 19), some (.int x3), some (.int x4)] [] (hs σ) (pI P)
set_option maxRecDepth 20000 in
theorem W_X10_most_0 {scr : ScA}   {x1 : Int32}  {σ : Nat → Nat → Int32} {P : Int32 → (Nat → Nat → Int32) → Prop} (H : (¬ (isW x1 2) = 0 → CrA scr 4 mX10_played [.ref 0] σ (fun a9 σ' => a9 = 18 ∧ K_X10_most_15 scr x1 σ' P)) ∧ ((isW x1 2) = 0 → P (-2) σ)) : K_X10_most_0 scr x1 σ P := by
  show XA scr 5 mX10_most 172 4705 0 [some (.ref 0), some (.int x1), none, none, none] [] (hs σ) (pI P)
  refine XA.blk (e9 := 2) (ok := true) (ls' := [some (.ref 0), some (.int x1), none, none, none]) (st' := [.int 2, .int x1]) (h' := hs σ) [(.iload_n 1, 1, 1, 0, 0, 0, 0, 0), (.iconst 2, 1, 0, 0, 0, 0, 2, 0)] (by decide +kernel) rfl rfl ?_
  refine XA.callS (as := [.int x1, .int 2]) (rest := []) (mc' := 0) (ms' := 0) (idx := 84) (t := 445) cs_X10_isWithin (by decide +kernel) rfl rfl (Nat.le_of_ble_eq_true rfl) (Nat.le_of_ble_eq_true rfl) (Nat.le_of_ble_eq_true rfl) (Nat.le_of_ble_eq_true rfl) (pu_X10_isWithin scr σ x1 2) (fun rv h' hp => ?_)
  obtain ⟨rfl, rfl⟩ := hp
  refine ⟨rfl, rfl, ?_⟩
  show XA scr 5 mX10_most 172 4705 5 [some (.ref 0), some (.int x1), none, none, none] [.int (isW x1 2)] (hs σ) (pI P)
  refine XA.if_ne (6) 11 (by decide +kernel) (fun c1 => ?_) (fun c1 => ?_)
  · have H := H.1 c1
    refine XA.blk (e9 := 12) (ok := true) (ls' := [some (.ref 0), some (.int x1), none, none, none]) (st' := [.ref 0]) (h' := hs σ) [(.aload_n 0, 1, 0, 0, 0, 0, 0, 0)] (by decide +kernel) rfl rfl ?_
    refine XA.callV (as := []) (rest := []) (mc' := 0) (ms' := 0) (idx := 141) (t := 538) cv_X10_played (by decide +kernel) rfl rfl rfl (Nat.le_of_ble_eq_true rfl) (Nat.le_of_ble_eq_true rfl) (Nat.le_of_ble_eq_true rfl) (Nat.le_of_ble_eq_true rfl) (H) (fun rv h' hp => ?_)
    obtain ⟨a9, s9, rfl, rfl, rfl, hK⟩ := hp
    exact ⟨rfl, rfl, XA.drop (by simp [leL]) hK⟩
  · have H := H.2 c1
    refine XA.blk (e9 := 10) (ok := true) (ls' := [some (.ref 0), some (.int x1), none, none, none]) (st' := [.int (-2)]) (h' := hs σ) [(.bipush (-2), 2, 0, 0, 0, 0, (-2), 0)] (by decide +kernel) rfl rfl ?_
    exact XA.ret (some (.int (-2))) rfl (show ckRt mX10_most 10 .ireturn = true by decide +kernel) trivial (Nat.le_of_ble_eq_true rfl) (Nat.le_of_ble_eq_true rfl) ⟨_, _, rfl, rfl, H⟩
set_option maxRecDepth 20000 in
theorem W_X10_most_15 {scr : ScA}   {x1 : Int32}  {σ : Nat → Nat → Int32} {P : Int32 → (Nat → Nat → Int32) → Prop} (H : K_X10_most_24 scr x1 0 1 σ P) : K_X10_most_15 scr x1 σ P := by
  show XA scr 5 mX10_most 172 4705 15 [none, some (.int x1), none, none, none] [.ref 18] (hs σ) (pI P)
  refine XA.blk (e9 := 24) (ok := true) (ls' := [none, some (.int x1), some (.ref 19), some (.int 0), some (.int 1)]) (st' := []) (h' := hs σ) [(.getfield 153, 3, 5, 0, 2, 215, 0, 0), (.astore_n 2, 1, 2, 0, 0, 0, 0, 0), (.iconst 0, 1, 0, 0, 0, 0, 0, 0), (.istore_n 3, 1, 3, 0, 0, 0, 0, 0), (.iconst 1, 1, 0, 0, 0, 0, 1, 0), (.istore 4, 2, 4, 0, 0, 0, 0, 0)] (by decide +kernel) rfl rfl ?_
  exact H
set_option maxRecDepth 20000 in
theorem W_X10_most_24 {scr : ScA}   {x1 : Int32} {x3 : Int32} {x4 : Int32}  {σ : Nat → Nat → Int32} {P : Int32 → (Nat → Nat → Int32) → Prop} (H : (24 ≤ x4 → (x1 = 0 → (inB x3 24 = true)) ∧ (P (if ¬ x1 = 0 then x3 else bcV (σ 19 (Int32.toNatClampNeg x3)) : Int32) σ)) ∧ (¬ 24 ≤ x4 → (inB x4 24 = true) ∧ ((inB x3 24 = true) ∧ (K_X10_most_24 scr x1 (if (bcV (σ 19 (Int32.toNatClampNeg x4))) ≤ (bcV (σ 19 (Int32.toNatClampNeg x3))) then x3 else x4 : Int32) (x4 + 1) σ P)))) : K_X10_most_24 scr x1 x3 x4 σ P := by
  show XA scr 5 mX10_most 172 4705 24 [none, some (.int x1), some (.ref 19), some (.int x3), some (.int x4)] [] (hs σ) (pI P)
  refine XA.blk (e9 := 28) (ok := true) (ls' := [none, some (.int x1), some (.ref 19), some (.int x3), some (.int x4)]) (st' := [.int 24, .int x4]) (h' := hs σ) [(.iload 4, 2, 4, 0, 0, 0, 0, 0), (.bipush 24, 2, 0, 0, 0, 0, 24, 0)] (by decide +kernel) rfl rfl ?_
  refine XA.icmp_ge (28) 56 (by decide +kernel) (fun c1 => ?_) (fun c1 => ?_)
  · have H := H.1 c1
    refine XA.blk (e9 := 57) (ok := true) (ls' := [none, some (.int x1), some (.ref 19), some (.int x3), some (.int x4)]) (st' := [.int x1]) (h' := hs σ) [(.iload_n 1, 1, 1, 0, 0, 0, 0, 0)] (by decide +kernel) rfl rfl ?_
    obtain ⟨hF57, H⟩ := H
    have hJ57 : XA scr 5 mX10_most 172 4705 70 [none, none, none, none, none] [.int (if ¬ x1 = 0 then x3 else bcV (σ 19 (Int32.toNatClampNeg x3)) : Int32)] (hs σ) (pI P) := by
      exact XA.ret (some (.int (if ¬ x1 = 0 then x3 else bcV (σ 19 (Int32.toNatClampNeg x3)) : Int32))) rfl (show ckRt mX10_most 70 .ireturn = true by decide +kernel) trivial (Nat.le_of_ble_eq_true rfl) (Nat.le_of_ble_eq_true rfl) ⟨_, _, rfl, rfl, H⟩
    refine XA.if_ne (12) 69 (by decide +kernel) (fun c2 => ?_) (fun c2 => ?_)
    · refine XA.blk (e9 := 70) (ok := true) (ls' := [none, some (.int x1), some (.ref 19), some (.int x3), some (.int x4)]) (st' := [.int x3]) (h' := hs σ) [(.iload_n 3, 1, 3, 0, 0, 0, 0, 0)] (by decide +kernel) rfl rfl ?_
      refine XA.drop (ls := [none, none, none, none, none]) (by simp [leL]) ?_
      simpa only [if_pos c2] using hJ57
    · have H := hF57 c2
      have o1 := H
      refine XA.blk (e9 := 63) (ok := inB x3 24 && (true)) (ls' := [none, some (.int x1), some (.ref 19), some (.int x3), some (.int x4)]) (st' := [.int (σ 19 (Int32.toNatClampNeg x3))]) (h' := hs σ) [(.aload_n 2, 1, 2, 0, 0, 0, 0, 0), (.iload_n 3, 1, 3, 0, 0, 0, 0, 0), (.iaload, 1, 0, 0, 0, 0, 0, 0)] (by decide +kernel) rfl (by simp only [o1, Bool.and_true, Bool.true_and]) ?_
      refine XA.callS (as := [.int (σ 19 (Int32.toNatClampNeg x3))]) (rest := []) (mc' := 0) (ms' := 0) (idx := 156) (t := 624) cs_J6_bitCount_0f7a4 (by decide +kernel) rfl rfl (Nat.le_of_ble_eq_true rfl) (Nat.le_of_ble_eq_true rfl) (Nat.le_of_ble_eq_true rfl) (Nat.le_of_ble_eq_true rfl) (pu_J6_bitCount_0f7a4 scr σ (σ 19 (Int32.toNatClampNeg x3))) (fun rv h' hp => ?_)
      obtain ⟨rfl, rfl⟩ := hp
      refine ⟨rfl, rfl, ?_⟩
      show XA scr 5 mX10_most 172 4705 66 [none, some (.int x1), some (.ref 19), some (.int x3), some (.int x4)] [.int (bcV (σ 19 (Int32.toNatClampNeg x3)))] (hs σ) (pI P)
      refine XA.blk (e9 := 70) (ok := true) (ls' := [none, some (.int x1), some (.ref 19), some (.int x3), some (.int x4)]) (st' := [.int (bcV (σ 19 (Int32.toNatClampNeg x3)))]) (h' := hs σ) [(.goto 4, 3, 70, 0, 0, 0, 0, 0)] (by decide +kernel) rfl rfl ?_
      refine XA.drop (ls := [none, none, none, none, none]) (by simp [leL]) ?_
      simpa only [if_neg (not_not_intro c2)] using hJ57
  · have H := H.2 c1
    obtain ⟨o1, H⟩ := H
    refine XA.blk (e9 := 35) (ok := inB x4 24 && (true)) (ls' := [none, some (.int x1), some (.ref 19), some (.int x3), some (.int x4)]) (st' := [.int (σ 19 (Int32.toNatClampNeg x4))]) (h' := hs σ) [(.aload_n 2, 1, 2, 0, 0, 0, 0, 0), (.iload 4, 2, 4, 0, 0, 0, 0, 0), (.iaload, 1, 0, 0, 0, 0, 0, 0)] (by decide +kernel) rfl (by simp only [o1, Bool.and_true, Bool.true_and]) ?_
    refine XA.callS (as := [.int (σ 19 (Int32.toNatClampNeg x4))]) (rest := []) (mc' := 0) (ms' := 0) (idx := 156) (t := 624) cs_J6_bitCount_0f7a4 (by decide +kernel) rfl rfl (Nat.le_of_ble_eq_true rfl) (Nat.le_of_ble_eq_true rfl) (Nat.le_of_ble_eq_true rfl) (Nat.le_of_ble_eq_true rfl) (pu_J6_bitCount_0f7a4 scr σ (σ 19 (Int32.toNatClampNeg x4))) (fun rv h' hp => ?_)
    obtain ⟨rfl, rfl⟩ := hp
    refine ⟨rfl, rfl, ?_⟩
    show XA scr 5 mX10_most 172 4705 38 [none, some (.int x1), some (.ref 19), some (.int x3), some (.int x4)] [.int (bcV (σ 19 (Int32.toNatClampNeg x4)))] (hs σ) (pI P)
    obtain ⟨o2, H⟩ := H
    refine XA.blk (e9 := 41) (ok := inB x3 24 && (true)) (ls' := [none, some (.int x1), some (.ref 19), some (.int x3), some (.int x4)]) (st' := [.int (σ 19 (Int32.toNatClampNeg x3)), .int (bcV (σ 19 (Int32.toNatClampNeg x4)))]) (h' := hs σ) [(.aload_n 2, 1, 2, 0, 0, 0, 0, 0), (.iload_n 3, 1, 3, 0, 0, 0, 0, 0), (.iaload, 1, 0, 0, 0, 0, 0, 0)] (by decide +kernel) rfl (by simp only [o2, Bool.and_true, Bool.true_and]) ?_
    refine XA.callS (as := [.int (σ 19 (Int32.toNatClampNeg x3))]) (rest := [.int (bcV (σ 19 (Int32.toNatClampNeg x4)))]) (mc' := 0) (ms' := 0) (idx := 156) (t := 624) cs_J6_bitCount_0f7a4 (by decide +kernel) rfl rfl (Nat.le_of_ble_eq_true rfl) (Nat.le_of_ble_eq_true rfl) (Nat.le_of_ble_eq_true rfl) (Nat.le_of_ble_eq_true rfl) (pu_J6_bitCount_0f7a4 scr σ (σ 19 (Int32.toNatClampNeg x3))) (fun rv h' hp => ?_)
    obtain ⟨rfl, rfl⟩ := hp
    refine ⟨rfl, rfl, ?_⟩
    show XA scr 5 mX10_most 172 4705 44 [none, some (.int x1), some (.ref 19), some (.int x3), some (.int x4)] [.int (bcV (σ 19 (Int32.toNatClampNeg x3))), .int (bcV (σ 19 (Int32.toNatClampNeg x4)))] (hs σ) (pI P)
    have hJ44 : XA scr 5 mX10_most 172 4705 50 [none, some (.int x1), some (.ref 19), some (.int (if (bcV (σ 19 (Int32.toNatClampNeg x4))) ≤ (bcV (σ 19 (Int32.toNatClampNeg x3))) then x3 else x4 : Int32)), some (.int x4)] [] (hs σ) (pI P) := by
      refine XA.blk (e9 := 24) (ok := true) (ls' := [none, some (.int x1), some (.ref 19), some (.int (if (bcV (σ 19 (Int32.toNatClampNeg x4))) ≤ (bcV (σ 19 (Int32.toNatClampNeg x3))) then x3 else x4 : Int32)), some (.int (x4 + 1))]) (st' := []) (h' := hs σ) [(.iinc 4 1, 3, 4, 0, 0, 0, 1, 0), (.goto (-29), 3, 24, 0, 0, 0, 0, 0)] (by decide +kernel) rfl rfl ?_
      exact H
    refine XA.icmp_le (6) 50 (by decide +kernel) (fun c2 => ?_) (fun c2 => ?_)
    · simpa only [if_pos c2] using hJ44
    · refine XA.blk (e9 := 50) (ok := true) (ls' := [none, some (.int x1), some (.ref 19), some (.int x4), some (.int x4)]) (st' := []) (h' := hs σ) [(.iload 4, 2, 4, 0, 0, 0, 0, 0), (.istore_n 3, 1, 3, 0, 0, 0, 0, 0)] (by decide +kernel) rfl rfl ?_
      simpa only [if_neg c2] using hJ44
theorem E_X10_most {scr : ScA}  {x1 : Int32} {σ : Nat → Nat → Int32} {P : Int32 → (Nat → Nat → Int32) → Prop} (h : K_X10_most_0 scr x1 σ P) : CiA scr 5 mX10_most [.ref 0, .int x1] σ P := CtA.of (by decide) (Nat.le_of_ble_eq_true rfl) (XA.drop (by simp [leL, enL]) h)
def K_X10_clumsy_0 (scr : ScA)   (σ : Nat → Nat → Int32) (P : Int32 → (Nat → Nat → Int32) → Prop) : Prop := XA scr 5 mX10_clumsy 172 4705 0 [some (.ref 0), none, none, none, none] [] (hs σ) (pI P)
def K_X10_clumsy_4 (scr : ScA)   (σ : Nat → Nat → Int32) (P : Int32 → (Nat → Nat → Int32) → Prop) : Prop := XA scr 5 mX10_clumsy 172 4705 4 [some (.ref 0), none, none, none, none] [.ref 18] (hs σ) (pI P)
def K_X10_clumsy_15 (scr : ScA)  (x2 : Int32) (x3 : Int32) (x4 : Int32) (σ : Nat → Nat → Int32) (P : Int32 → (Nat → Nat → Int32) → Prop) : Prop := XA scr 5 mX10_clumsy 172 4705 15 [some (.ref 0), some (.ref 21), some (.int x2), some (.int x3), some (.int x4)] [] (hs σ) (pI P)
set_option maxRecDepth 20000 in
theorem W_X10_clumsy_0 {scr : ScA}     {σ : Nat → Nat → Int32} {P : Int32 → (Nat → Nat → Int32) → Prop} (H : CrA scr 4 mX10_played [.ref 0] σ (fun a9 σ' => a9 = 18 ∧ K_X10_clumsy_4 scr σ' P)) : K_X10_clumsy_0 scr σ P := by
  show XA scr 5 mX10_clumsy 172 4705 0 [some (.ref 0), none, none, none, none] [] (hs σ) (pI P)
  refine XA.blk (e9 := 1) (ok := true) (ls' := [some (.ref 0), none, none, none, none]) (st' := [.ref 0]) (h' := hs σ) [(.aload_n 0, 1, 0, 0, 0, 0, 0, 0)] (by decide +kernel) rfl rfl ?_
  refine XA.callV (as := []) (rest := []) (mc' := 0) (ms' := 0) (idx := 141) (t := 538) cv_X10_played (by decide +kernel) rfl rfl rfl (Nat.le_of_ble_eq_true rfl) (Nat.le_of_ble_eq_true rfl) (Nat.le_of_ble_eq_true rfl) (Nat.le_of_ble_eq_true rfl) (H) (fun rv h' hp => ?_)
  obtain ⟨a9, s9, rfl, rfl, rfl, hK⟩ := hp
  exact ⟨rfl, rfl, hK⟩
set_option maxRecDepth 20000 in
theorem W_X10_clumsy_4 {scr : ScA}     {σ : Nat → Nat → Int32} {P : Int32 → (Nat → Nat → Int32) → Prop} (H : K_X10_clumsy_15 scr (-1) 0 0 σ P) : K_X10_clumsy_4 scr σ P := by
  show XA scr 5 mX10_clumsy 172 4705 4 [some (.ref 0), none, none, none, none] [.ref 18] (hs σ) (pI P)
  refine XA.blk (e9 := 15) (ok := true) (ls' := [some (.ref 0), some (.ref 21), some (.int (-1)), some (.int 0), some (.int 0)]) (st' := []) (h' := hs σ) [(.getfield 173, 3, 5, 3, 4, 220, 0, 0), (.astore_n 1, 1, 1, 0, 0, 0, 0, 0), (.iconst (-1), 1, 0, 0, 0, 0, (-1), 0), (.istore_n 2, 1, 2, 0, 0, 0, 0, 0), (.iconst 0, 1, 0, 0, 0, 0, 0, 0), (.istore_n 3, 1, 3, 0, 0, 0, 0, 0), (.iconst 0, 1, 0, 0, 0, 0, 0, 0), (.istore 4, 2, 4, 0, 0, 0, 0, 0)] (by decide +kernel) rfl rfl ?_
  exact H
set_option maxRecDepth 20000 in
theorem W_X10_clumsy_15 {scr : ScA}   {x2 : Int32} {x3 : Int32} {x4 : Int32}  {σ : Nat → Nat → Int32} {P : Int32 → (Nat → Nat → Int32) → Prop} (H : ((σ 3 6) ≤ x4 → P x2 σ) ∧ (¬ (σ 3 6) ≤ x4 → (inB x4 10 = true) ∧ (K_X10_clumsy_15 scr (if (σ 21 (Int32.toNatClampNeg x4)) ≤ x3 then x2 else x4 : Int32) (if (σ 21 (Int32.toNatClampNeg x4)) ≤ x3 then x3 else σ 21 (Int32.toNatClampNeg x4) : Int32) (x4 + 1) σ P))) : K_X10_clumsy_15 scr x2 x3 x4 σ P := by
  show XA scr 5 mX10_clumsy 172 4705 15 [some (.ref 0), some (.ref 21), some (.int x2), some (.int x3), some (.int x4)] [] (hs σ) (pI P)
  refine XA.blk (e9 := 24) (ok := true) (ls' := [some (.ref 0), some (.ref 21), some (.int x2), some (.int x3), some (.int x4)]) (st' := [.int (σ 3 6), .int x4]) (h' := hs σ) [(.iload 4, 2, 4, 0, 0, 0, 0, 0), (.aload_n 0, 1, 0, 0, 0, 0, 0, 0), (.getfield 19, 3, 10, 1, 4, 399, 0, 0), (.getfield 98, 3, 8, 6, 0, 143, 0, 0)] (by decide +kernel) rfl rfl ?_
  refine XA.icmp_ge (25) 49 (by decide +kernel) (fun c1 => ?_) (fun c1 => ?_)
  · have H := H.1 c1
    refine XA.blk (e9 := 50) (ok := true) (ls' := [some (.ref 0), some (.ref 21), some (.int x2), some (.int x3), some (.int x4)]) (st' := [.int x2]) (h' := hs σ) [(.iload_n 2, 1, 2, 0, 0, 0, 0, 0)] (by decide +kernel) rfl rfl ?_
    exact XA.ret (some (.int x2)) rfl (show ckRt mX10_clumsy 50 .ireturn = true by decide +kernel) trivial (Nat.le_of_ble_eq_true rfl) (Nat.le_of_ble_eq_true rfl) ⟨_, _, rfl, rfl, H⟩
  · have H := H.2 c1
    obtain ⟨o1, H⟩ := H
    refine XA.blk (e9 := 32) (ok := inB x4 10 && (true)) (ls' := [some (.ref 0), some (.ref 21), some (.int x2), some (.int x3), some (.int x4)]) (st' := [.int x3, .int (σ 21 (Int32.toNatClampNeg x4))]) (h' := hs σ) [(.aload_n 1, 1, 1, 0, 0, 0, 0, 0), (.iload 4, 2, 4, 0, 0, 0, 0, 0), (.iaload, 1, 0, 0, 0, 0, 0, 0), (.iload_n 3, 1, 3, 0, 0, 0, 0, 0)] (by decide +kernel) rfl (by simp only [o1, Bool.and_true, Bool.true_and]) ?_
    have hJ32 : XA scr 5 mX10_clumsy 172 4705 43 [some (.ref 0), some (.ref 21), some (.int (if (σ 21 (Int32.toNatClampNeg x4)) ≤ x3 then x2 else x4 : Int32)), some (.int (if (σ 21 (Int32.toNatClampNeg x4)) ≤ x3 then x3 else σ 21 (Int32.toNatClampNeg x4) : Int32)), some (.int x4)] [] (hs σ) (pI P) := by
      refine XA.blk (e9 := 15) (ok := true) (ls' := [some (.ref 0), some (.ref 21), some (.int (if (σ 21 (Int32.toNatClampNeg x4)) ≤ x3 then x2 else x4 : Int32)), some (.int (if (σ 21 (Int32.toNatClampNeg x4)) ≤ x3 then x3 else σ 21 (Int32.toNatClampNeg x4) : Int32)), some (.int (x4 + 1))]) (st' := []) (h' := hs σ) [(.iinc 4 1, 3, 4, 0, 0, 0, 1, 0), (.goto (-31), 3, 15, 0, 0, 0, 0, 0)] (by decide +kernel) rfl rfl ?_
      exact H
    refine XA.icmp_le (11) 43 (by decide +kernel) (fun c2 => ?_) (fun c2 => ?_)
    · simpa only [if_pos c2] using hJ32
    · refine XA.blk (e9 := 43) (ok := inB x4 10 && (true)) (ls' := [some (.ref 0), some (.ref 21), some (.int x4), some (.int (σ 21 (Int32.toNatClampNeg x4))), some (.int x4)]) (st' := []) (h' := hs σ) [(.iload 4, 2, 4, 0, 0, 0, 0, 0), (.istore_n 2, 1, 2, 0, 0, 0, 0, 0), (.aload_n 1, 1, 1, 0, 0, 0, 0, 0), (.iload 4, 2, 4, 0, 0, 0, 0, 0), (.iaload, 1, 0, 0, 0, 0, 0, 0), (.istore_n 3, 1, 3, 0, 0, 0, 0, 0)] (by decide +kernel) rfl (by simp only [o1, Bool.and_true, Bool.true_and]) ?_
      simpa only [if_neg c2] using hJ32
theorem E_X10_clumsy {scr : ScA}   {σ : Nat → Nat → Int32} {P : Int32 → (Nat → Nat → Int32) → Prop} (h : K_X10_clumsy_0 scr σ P) : CiA scr 5 mX10_clumsy [.ref 0] σ P := CtA.of (by decide) (Nat.le_of_ble_eq_true rfl) (XA.drop (by simp [leL, enL]) h)
def K_X10_down_0 (scr : ScA)   (σ : Nat → Nat → Int32) (P : Int32 → (Nat → Nat → Int32) → Prop) : Prop := XA scr 5 mX10_down 172 4705 0 [some (.ref 0), none, none, none, none] [] (hs σ) (pI P)
def K_X10_down_4 (scr : ScA)   (σ : Nat → Nat → Int32) (P : Int32 → (Nat → Nat → Int32) → Prop) : Prop := XA scr 5 mX10_down 172 4705 4 [some (.ref 0), none, none, none, none] [.ref 18] (hs σ) (pI P)
def K_X10_down_12 (scr : ScA)  (x2 : Int32) (x3 : Int32) (σ : Nat → Nat → Int32) (P : Int32 → (Nat → Nat → Int32) → Prop) : Prop := XA scr 5 mX10_down 172 4705 12 [some (.ref 0), some (.ref 19), some (.int x2), some (.int x3), none] [] (hs σ) (pI P)
def K_X10_down_35 (scr : ScA)  (x2 : Int32) (x3 : Int32) (x4 : Int32) (σ : Nat → Nat → Int32) (P : Int32 → (Nat → Nat → Int32) → Prop) : Prop := XA scr 5 mX10_down 172 4705 35 [some (.ref 0), none, some (.int x2), some (.int x3), some (.int x4)] [] (hs σ) (pI P)
set_option maxRecDepth 20000 in
theorem W_X10_down_0 {scr : ScA}     {σ : Nat → Nat → Int32} {P : Int32 → (Nat → Nat → Int32) → Prop} (H : CrA scr 4 mX10_played [.ref 0] σ (fun a9 σ' => a9 = 18 ∧ K_X10_down_4 scr σ' P)) : K_X10_down_0 scr σ P := by
  show XA scr 5 mX10_down 172 4705 0 [some (.ref 0), none, none, none, none] [] (hs σ) (pI P)
  refine XA.blk (e9 := 1) (ok := true) (ls' := [some (.ref 0), none, none, none, none]) (st' := [.ref 0]) (h' := hs σ) [(.aload_n 0, 1, 0, 0, 0, 0, 0, 0)] (by decide +kernel) rfl rfl ?_
  refine XA.callV (as := []) (rest := []) (mc' := 0) (ms' := 0) (idx := 141) (t := 538) cv_X10_played (by decide +kernel) rfl rfl rfl (Nat.le_of_ble_eq_true rfl) (Nat.le_of_ble_eq_true rfl) (Nat.le_of_ble_eq_true rfl) (Nat.le_of_ble_eq_true rfl) (H) (fun rv h' hp => ?_)
  obtain ⟨a9, s9, rfl, rfl, rfl, hK⟩ := hp
  exact ⟨rfl, rfl, hK⟩
set_option maxRecDepth 20000 in
theorem W_X10_down_4 {scr : ScA}     {σ : Nat → Nat → Int32} {P : Int32 → (Nat → Nat → Int32) → Prop} (H : K_X10_down_12 scr 0 0 σ P) : K_X10_down_4 scr σ P := by
  show XA scr 5 mX10_down 172 4705 4 [some (.ref 0), none, none, none, none] [.ref 18] (hs σ) (pI P)
  refine XA.blk (e9 := 12) (ok := true) (ls' := [some (.ref 0), some (.ref 19), some (.int 0), some (.int 0), none]) (st' := []) (h' := hs σ) [(.getfield 153, 3, 5, 0, 2, 215, 0, 0), (.astore_n 1, 1, 1, 0, 0, 0, 0, 0), (.iconst 0, 1, 0, 0, 0, 0, 0, 0), (.istore_n 2, 1, 2, 0, 0, 0, 0, 0), (.iconst 0, 1, 0, 0, 0, 0, 0, 0), (.istore_n 3, 1, 3, 0, 0, 0, 0, 0)] (by decide +kernel) rfl rfl ?_
  exact H
set_option maxRecDepth 20000 in
theorem W_X10_down_12 {scr : ScA}   {x2 : Int32} {x3 : Int32}  {σ : Nat → Nat → Int32} {P : Int32 → (Nat → Nat → Int32) → Prop} (H : (24 ≤ x3 → K_X10_down_35 scr x2 0 0 σ P) ∧ (¬ 24 ≤ x3 → (inB x3 24 = true) ∧ (K_X10_down_12 scr (x2 ||| (σ 19 (Int32.toNatClampNeg x3))) (x3 + 1) σ P))) : K_X10_down_12 scr x2 x3 σ P := by
  show XA scr 5 mX10_down 172 4705 12 [some (.ref 0), some (.ref 19), some (.int x2), some (.int x3), none] [] (hs σ) (pI P)
  refine XA.blk (e9 := 15) (ok := true) (ls' := [some (.ref 0), some (.ref 19), some (.int x2), some (.int x3), none]) (st' := [.int 24, .int x3]) (h' := hs σ) [(.iload_n 3, 1, 3, 0, 0, 0, 0, 0), (.bipush 24, 2, 0, 0, 0, 0, 24, 0)] (by decide +kernel) rfl rfl ?_
  refine XA.icmp_ge (15) 30 (by decide +kernel) (fun c1 => ?_) (fun c1 => ?_)
  · have H := H.1 c1
    refine XA.blk (e9 := 35) (ok := true) (ls' := [some (.ref 0), some (.ref 19), some (.int x2), some (.int 0), some (.int 0)]) (st' := []) (h' := hs σ) [(.iconst 0, 1, 0, 0, 0, 0, 0, 0), (.istore_n 3, 1, 3, 0, 0, 0, 0, 0), (.iconst 0, 1, 0, 0, 0, 0, 0, 0), (.istore 4, 2, 4, 0, 0, 0, 0, 0)] (by decide +kernel) rfl rfl ?_
    exact XA.drop (by simp [leL]) H
  · have H := H.2 c1
    obtain ⟨o1, H⟩ := H
    refine XA.blk (e9 := 12) (ok := inB x3 24 && (true)) (ls' := [some (.ref 0), some (.ref 19), some (.int (x2 ||| (σ 19 (Int32.toNatClampNeg x3)))), some (.int (x3 + 1)), none]) (st' := []) (h' := hs σ) [(.iload_n 2, 1, 2, 0, 0, 0, 0, 0), (.aload_n 1, 1, 1, 0, 0, 0, 0, 0), (.iload_n 3, 1, 3, 0, 0, 0, 0, 0), (.iaload, 1, 0, 0, 0, 0, 0, 0), (.ior, 1, 0, 0, 0, 0, 0, 0), (.istore_n 2, 1, 2, 0, 0, 0, 0, 0), (.iinc 3 1, 3, 3, 0, 0, 0, 1, 0), (.goto (-15), 3, 12, 0, 0, 0, 0, 0)] (by decide +kernel) rfl (by simp only [o1, Bool.and_true, Bool.true_and]) ?_
    exact H
set_option maxRecDepth 20000 in
theorem W_X10_down_35 {scr : ScA}   {x2 : Int32} {x3 : Int32} {x4 : Int32}  {σ : Nat → Nat → Int32} {P : Int32 → (Nat → Nat → Int32) → Prop} (H : ((σ 3 6) ≤ x4 → P x3 σ) ∧ (¬ (σ 3 6) ≤ x4 → (inB x4 10 = true) ∧ (K_X10_down_35 scr x2 (if ¬ (hbV x2 (σ 8 (Int32.toNatClampNeg x4))) = 0 then x3 else x3 ||| ((1 : Int32) <<< (x4 &&& 31)) : Int32) (x4 + 1) σ P))) : K_X10_down_35 scr x2 x3 x4 σ P := by
  show XA scr 5 mX10_down 172 4705 35 [some (.ref 0), none, some (.int x2), some (.int x3), some (.int x4)] [] (hs σ) (pI P)
  refine XA.blk (e9 := 44) (ok := true) (ls' := [some (.ref 0), none, some (.int x2), some (.int x3), some (.int x4)]) (st' := [.int (σ 3 6), .int x4]) (h' := hs σ) [(.iload 4, 2, 4, 0, 0, 0, 0, 0), (.aload_n 0, 1, 0, 0, 0, 0, 0, 0), (.getfield 19, 3, 10, 1, 4, 399, 0, 0), (.getfield 98, 3, 8, 6, 0, 143, 0, 0)] (by decide +kernel) rfl rfl ?_
  refine XA.icmp_ge (33) 77 (by decide +kernel) (fun c1 => ?_) (fun c1 => ?_)
  · have H := H.1 c1
    refine XA.blk (e9 := 78) (ok := true) (ls' := [some (.ref 0), none, some (.int x2), some (.int x3), some (.int x4)]) (st' := [.int x3]) (h' := hs σ) [(.iload_n 3, 1, 3, 0, 0, 0, 0, 0)] (by decide +kernel) rfl rfl ?_
    exact XA.ret (some (.int x3)) rfl (show ckRt mX10_down 78 .ireturn = true by decide +kernel) trivial (Nat.le_of_ble_eq_true rfl) (Nat.le_of_ble_eq_true rfl) ⟨_, _, rfl, rfl, H⟩
  · have H := H.2 c1
    obtain ⟨o1, H⟩ := H
    refine XA.blk (e9 := 58) (ok := inB x4 10 && (true)) (ls' := [some (.ref 0), none, some (.int x2), some (.int x3), some (.int x4)]) (st' := [.int (σ 8 (Int32.toNatClampNeg x4)), .int x2]) (h' := hs σ) [(.iload_n 2, 1, 2, 0, 0, 0, 0, 0), (.aload_n 0, 1, 0, 0, 0, 0, 0, 0), (.getfield 19, 3, 10, 1, 4, 399, 0, 0), (.getfield 114, 3, 8, 4, 6, 135, 0, 0), (.iload 4, 2, 4, 0, 0, 0, 0, 0), (.iaload, 1, 0, 0, 0, 0, 0, 0)] (by decide +kernel) rfl (by simp only [o1, Bool.and_true, Bool.true_and]) ?_
    refine XA.callS (as := [.int x2, .int (σ 8 (Int32.toNatClampNeg x4))]) (rest := []) (mc' := 0) (ms' := 0) (idx := 170) (t := 638) cs_X10_hasBit (by decide +kernel) rfl rfl (Nat.le_of_ble_eq_true rfl) (Nat.le_of_ble_eq_true rfl) (Nat.le_of_ble_eq_true rfl) (Nat.le_of_ble_eq_true rfl) (pu_X10_hasBit scr σ x2 (σ 8 (Int32.toNatClampNeg x4))) (fun rv h' hp => ?_)
    obtain ⟨rfl, rfl⟩ := hp
    refine ⟨rfl, rfl, ?_⟩
    show XA scr 5 mX10_down 172 4705 61 [some (.ref 0), none, some (.int x2), some (.int x3), some (.int x4)] [.int (hbV x2 (σ 8 (Int32.toNatClampNeg x4)))] (hs σ) (pI P)
    have hJ61 : XA scr 5 mX10_down 172 4705 71 [some (.ref 0), none, some (.int x2), some (.int (if ¬ (hbV x2 (σ 8 (Int32.toNatClampNeg x4))) = 0 then x3 else x3 ||| ((1 : Int32) <<< (x4 &&& 31)) : Int32)), some (.int x4)] [] (hs σ) (pI P) := by
      refine XA.blk (e9 := 35) (ok := true) (ls' := [some (.ref 0), none, some (.int x2), some (.int (if ¬ (hbV x2 (σ 8 (Int32.toNatClampNeg x4))) = 0 then x3 else x3 ||| ((1 : Int32) <<< (x4 &&& 31)) : Int32)), some (.int (x4 + 1))]) (st' := []) (h' := hs σ) [(.iinc 4 1, 3, 4, 0, 0, 0, 1, 0), (.goto (-39), 3, 35, 0, 0, 0, 0, 0)] (by decide +kernel) rfl rfl ?_
      exact H
    refine XA.if_ne (10) 71 (by decide +kernel) (fun c2 => ?_) (fun c2 => ?_)
    · simpa only [if_pos c2] using hJ61
    · refine XA.blk (e9 := 71) (ok := true) (ls' := [some (.ref 0), none, some (.int x2), some (.int (x3 ||| ((1 : Int32) <<< (x4 &&& 31)))), some (.int x4)]) (st' := []) (h' := hs σ) [(.iload_n 3, 1, 3, 0, 0, 0, 0, 0), (.iconst 1, 1, 0, 0, 0, 0, 1, 0), (.iload 4, 2, 4, 0, 0, 0, 0, 0), (.ishl, 1, 0, 0, 0, 0, 0, 0), (.ior, 1, 0, 0, 0, 0, 0, 0), (.istore_n 3, 1, 3, 0, 0, 0, 0, 0)] (by decide +kernel) rfl rfl ?_
      simpa only [if_neg (not_not_intro c2)] using hJ61
theorem E_X10_down {scr : ScA}   {σ : Nat → Nat → Int32} {P : Int32 → (Nat → Nat → Int32) → Prop} (h : K_X10_down_0 scr σ P) : CiA scr 5 mX10_down [.ref 0] σ P := CtA.of (by decide) (Nat.le_of_ble_eq_true rfl) (XA.drop (by simp [leL, enL]) h)
def K_X10_swap_0 (scr : ScA)  (x1 : Int32) (σ : Nat → Nat → Int32) (P : Int32 → (Nat → Nat → Int32) → Prop) : Prop := XA scr 5 mX10_swap 172 4705 0 [some (.ref 0), some (.int x1)] [] (hs σ) (pI P)
def K_X10_swap_26 (scr : ScA)  (x1 : Int32) (σ : Nat → Nat → Int32) (P : Int32 → (Nat → Nat → Int32) → Prop) : Prop := XA scr 5 mX10_swap 172 4705 26 [none, some (.int x1)] [.ref 64] (hs σ) (pI P)
set_option maxRecDepth 20000 in
theorem W_X10_swap_0 {scr : ScA}   {x1 : Int32}  {σ : Nat → Nat → Int32} {P : Int32 → (Nat → Nat → Int32) → Prop} (H : (¬ (isW x1 3) = 0 → CrA scr 4 mX3_bestSwap [.ref 49, .ref 3, .ref 10] σ (fun a9 σ' => a9 = 64 ∧ K_X10_swap_26 scr x1 σ' P)) ∧ ((isW x1 3) = 0 → P (-2) σ)) : K_X10_swap_0 scr x1 σ P := by
  show XA scr 5 mX10_swap 172 4705 0 [some (.ref 0), some (.int x1)] [] (hs σ) (pI P)
  refine XA.blk (e9 := 2) (ok := true) (ls' := [some (.ref 0), some (.int x1)]) (st' := [.int 3, .int x1]) (h' := hs σ) [(.iload_n 1, 1, 1, 0, 0, 0, 0, 0), (.iconst 3, 1, 0, 0, 0, 0, 3, 0)] (by decide +kernel) rfl rfl ?_
  refine XA.callS (as := [.int x1, .int 3]) (rest := []) (mc' := 0) (ms' := 0) (idx := 84) (t := 445) cs_X10_isWithin (by decide +kernel) rfl rfl (Nat.le_of_ble_eq_true rfl) (Nat.le_of_ble_eq_true rfl) (Nat.le_of_ble_eq_true rfl) (Nat.le_of_ble_eq_true rfl) (pu_X10_isWithin scr σ x1 3) (fun rv h' hp => ?_)
  obtain ⟨rfl, rfl⟩ := hp
  refine ⟨rfl, rfl, ?_⟩
  show XA scr 5 mX10_swap 172 4705 5 [some (.ref 0), some (.int x1)] [.int (isW x1 3)] (hs σ) (pI P)
  refine XA.if_ne (6) 11 (by decide +kernel) (fun c1 => ?_) (fun c1 => ?_)
  · have H := H.1 c1
    refine XA.blk (e9 := 23) (ok := true) (ls' := [some (.ref 0), some (.int x1)]) (st' := [.ref 10, .ref 3, .ref 49]) (h' := hs σ) [(.aload_n 0, 1, 0, 0, 0, 0, 0, 0), (.getfield 49, 3, 10, 5, 50, 403, 0, 0), (.aload_n 0, 1, 0, 0, 0, 0, 0, 0), (.getfield 19, 3, 10, 1, 4, 399, 0, 0), (.aload_n 0, 1, 0, 0, 0, 0, 0, 0), (.getfield 26, 3, 10, 2, 11, 400, 0, 0)] (by decide +kernel) rfl rfl ?_
    refine XA.callV (as := [.ref 3, .ref 10]) (rest := []) (mc' := 0) (ms' := 0) (idx := 176) (t := 655) cv_X3_bestSwap (by decide +kernel) rfl rfl rfl (Nat.le_of_ble_eq_true rfl) (Nat.le_of_ble_eq_true rfl) (Nat.le_of_ble_eq_true rfl) (Nat.le_of_ble_eq_true rfl) (H) (fun rv h' hp => ?_)
    obtain ⟨a9, s9, rfl, rfl, rfl, hK⟩ := hp
    exact ⟨rfl, rfl, XA.drop (by simp [leL]) hK⟩
  · have H := H.2 c1
    refine XA.blk (e9 := 10) (ok := true) (ls' := [some (.ref 0), some (.int x1)]) (st' := [.int (-2)]) (h' := hs σ) [(.bipush (-2), 2, 0, 0, 0, 0, (-2), 0)] (by decide +kernel) rfl rfl ?_
    exact XA.ret (some (.int (-2))) rfl (show ckRt mX10_swap 10 .ireturn = true by decide +kernel) trivial (Nat.le_of_ble_eq_true rfl) (Nat.le_of_ble_eq_true rfl) ⟨_, _, rfl, rfl, H⟩
set_option maxRecDepth 20000 in
theorem W_X10_swap_26 {scr : ScA}   {x1 : Int32}  {σ : Nat → Nat → Int32} {P : Int32 → (Nat → Nat → Int32) → Prop} (H : P (if x1 = 0 then σ 64 0 else if x1 = 1 then σ 64 1 else σ 64 2) σ) : K_X10_swap_26 scr x1 σ P := by
  show XA scr 5 mX10_swap 172 4705 26 [none, some (.int x1)] [.ref 64] (hs σ) (pI P)
  refine XA.blk (e9 := 27) (ok := true) (ls' := [none, some (.int x1)]) (st' := [.int x1, .ref 64]) (h' := hs σ) [(.iload_n 1, 1, 1, 0, 0, 0, 0, 0)] (by decide +kernel) rfl rfl ?_
  refine XA.callV (as := [.int x1]) (rest := []) (mc' := 0) (ms' := 0) (idx := 180) (t := 681) cv_X0_part (by decide +kernel) rfl rfl rfl (Nat.le_of_ble_eq_true rfl) (Nat.le_of_ble_eq_true rfl) (Nat.le_of_ble_eq_true rfl) (Nat.le_of_ble_eq_true rfl) (pu_X0_part scr σ (show isBe 64 from rfl) x1) (fun rv h' hp => ?_)
  obtain ⟨rfl, rfl⟩ := hp
  refine ⟨rfl, rfl, ?_⟩
  show XA scr 5 mX10_swap 172 4705 30 [none, some (.int x1)] [.int (if x1 = 0 then σ 64 0 else if x1 = 1 then σ 64 1 else σ 64 2)] (hs σ) (pI P)
  exact XA.ret (some (.int (if x1 = 0 then σ 64 0 else if x1 = 1 then σ 64 1 else σ 64 2))) rfl (show ckRt mX10_swap 30 .ireturn = true by decide +kernel) trivial (Nat.le_of_ble_eq_true rfl) (Nat.le_of_ble_eq_true rfl) ⟨_, _, rfl, rfl, H⟩
theorem E_X10_swap {scr : ScA}  {x1 : Int32} {σ : Nat → Nat → Int32} {P : Int32 → (Nat → Nat → Int32) → Prop} (h : K_X10_swap_0 scr x1 σ P) : CiA scr 5 mX10_swap [.ref 0, .int x1] σ P := CtA.of (by decide) (Nat.le_of_ble_eq_true rfl) (XA.drop (by simp [leL, enL]) h)
def K_X10_come_0 (scr : ScA)  (x1 : Int32) (x2 : Int32) (σ : Nat → Nat → Int32) (P : Int32 → (Nat → Nat → Int32) → Prop) : Prop := XA scr 5 mX10_come 172 4705 0 [some (.ref 0), some (.int x1), some (.int x2), none] [] (hs σ) (pI P)
def K_X10_come_41 (scr : ScA)  (x2 : Int32) (w0 : Nat) (σ : Nat → Nat → Int32) (P : Int32 → (Nat → Nat → Int32) → Prop) : Prop := XA scr 5 mX10_come 172 4705 41 [none, none, some (.int x2), none] [.ref w0] (hs σ) (pI P)
set_option maxRecDepth 20000 in
theorem W_X10_come_0 {scr : ScA}   {x1 : Int32} {x2 : Int32}  {σ : Nat → Nat → Int32} {P : Int32 → (Nat → Nat → Int32) → Prop} (H : ((isW x1 (σ 3 6)) = 0 → P (-2) σ) ∧ (¬ (isW x1 (σ 3 6)) = 0 → (¬ (isW x2 2) = 0 → CrA scr 4 mX3_bestMoment [.ref 49, .ref 3, .ref 10, .int x1] σ (fun a9 σ' => a9 = (66 + 1 + 1 * Int32.toNatClampNeg x1) ∧ K_X10_come_41 scr x2 (66 + 1 + 1 * Int32.toNatClampNeg x1) σ' P)) ∧ ((isW x2 2) = 0 → P (-2) σ))) : K_X10_come_0 scr x1 x2 σ P := by
  show XA scr 5 mX10_come 172 4705 0 [some (.ref 0), some (.int x1), some (.int x2), none] [] (hs σ) (pI P)
  refine XA.blk (e9 := 8) (ok := true) (ls' := [some (.ref 0), some (.int x1), some (.int x2), none]) (st' := [.int (σ 3 6), .int x1]) (h' := hs σ) [(.iload_n 1, 1, 1, 0, 0, 0, 0, 0), (.aload_n 0, 1, 0, 0, 0, 0, 0, 0), (.getfield 19, 3, 10, 1, 4, 399, 0, 0), (.getfield 98, 3, 8, 6, 0, 143, 0, 0)] (by decide +kernel) rfl rfl ?_
  refine XA.callS (as := [.int x1, .int (σ 3 6)]) (rest := []) (mc' := 0) (ms' := 0) (idx := 84) (t := 445) cs_X10_isWithin (by decide +kernel) rfl rfl (Nat.le_of_ble_eq_true rfl) (Nat.le_of_ble_eq_true rfl) (Nat.le_of_ble_eq_true rfl) (Nat.le_of_ble_eq_true rfl) (pu_X10_isWithin scr σ x1 (σ 3 6)) (fun rv h' hp => ?_)
  obtain ⟨rfl, rfl⟩ := hp
  refine ⟨rfl, rfl, ?_⟩
  show XA scr 5 mX10_come 172 4705 11 [some (.ref 0), some (.int x1), some (.int x2), none] [.int (isW x1 (σ 3 6))] (hs σ) (pI P)
  refine XA.if_eq (11) 22 (by decide +kernel) (fun c1 => ?_) (fun c1 => ?_)
  · have H := H.1 c1
    refine XA.blk (e9 := 24) (ok := true) (ls' := [some (.ref 0), some (.int x1), some (.int x2), none]) (st' := [.int (-2)]) (h' := hs σ) [(.bipush (-2), 2, 0, 0, 0, 0, (-2), 0)] (by decide +kernel) rfl rfl ?_
    exact XA.ret (some (.int (-2))) rfl (show ckRt mX10_come 24 .ireturn = true by decide +kernel) trivial (Nat.le_of_ble_eq_true rfl) (Nat.le_of_ble_eq_true rfl) ⟨_, _, rfl, rfl, H⟩
  · have H := H.2 c1
    refine XA.blk (e9 := 16) (ok := true) (ls' := [some (.ref 0), some (.int x1), some (.int x2), none]) (st' := [.int 2, .int x2]) (h' := hs σ) [(.iload_n 2, 1, 2, 0, 0, 0, 0, 0), (.iconst 2, 1, 0, 0, 0, 0, 2, 0)] (by decide +kernel) rfl rfl ?_
    refine XA.callS (as := [.int x2, .int 2]) (rest := []) (mc' := 0) (ms' := 0) (idx := 84) (t := 445) cs_X10_isWithin (by decide +kernel) rfl rfl (Nat.le_of_ble_eq_true rfl) (Nat.le_of_ble_eq_true rfl) (Nat.le_of_ble_eq_true rfl) (Nat.le_of_ble_eq_true rfl) (pu_X10_isWithin scr σ x2 2) (fun rv h' hp => ?_)
    obtain ⟨rfl, rfl⟩ := hp
    refine ⟨rfl, rfl, ?_⟩
    show XA scr 5 mX10_come 172 4705 19 [some (.ref 0), some (.int x1), some (.int x2), none] [.int (isW x2 2)] (hs σ) (pI P)
    refine XA.if_ne (6) 25 (by decide +kernel) (fun c2 => ?_) (fun c2 => ?_)
    · have H := H.1 c2
      refine XA.blk (e9 := 38) (ok := true) (ls' := [some (.ref 0), some (.int x1), some (.int x2), none]) (st' := [.int x1, .ref 10, .ref 3, .ref 49]) (h' := hs σ) [(.aload_n 0, 1, 0, 0, 0, 0, 0, 0), (.getfield 49, 3, 10, 5, 50, 403, 0, 0), (.aload_n 0, 1, 0, 0, 0, 0, 0, 0), (.getfield 19, 3, 10, 1, 4, 399, 0, 0), (.aload_n 0, 1, 0, 0, 0, 0, 0, 0), (.getfield 26, 3, 10, 2, 11, 400, 0, 0), (.iload_n 1, 1, 1, 0, 0, 0, 0, 0)] (by decide +kernel) rfl rfl ?_
      refine XA.callV (as := [.ref 3, .ref 10, .int x1]) (rest := []) (mc' := 0) (ms' := 0) (idx := 185) (t := 689) cv_X3_bestMoment (by decide +kernel) rfl rfl rfl (Nat.le_of_ble_eq_true rfl) (Nat.le_of_ble_eq_true rfl) (Nat.le_of_ble_eq_true rfl) (Nat.le_of_ble_eq_true rfl) (H) (fun rv h' hp => ?_)
      obtain ⟨a9, s9, rfl, rfl, rfl, hK⟩ := hp
      exact ⟨rfl, rfl, XA.drop (by simp [leL]) hK⟩
    · have H := H.2 c2
      refine XA.blk (e9 := 24) (ok := true) (ls' := [some (.ref 0), some (.int x1), some (.int x2), none]) (st' := [.int (-2)]) (h' := hs σ) [(.bipush (-2), 2, 0, 0, 0, 0, (-2), 0)] (by decide +kernel) rfl rfl ?_
      exact XA.ret (some (.int (-2))) rfl (show ckRt mX10_come 24 .ireturn = true by decide +kernel) trivial (Nat.le_of_ble_eq_true rfl) (Nat.le_of_ble_eq_true rfl) ⟨_, _, rfl, rfl, H⟩
set_option maxRecDepth 20000 in
theorem W_X10_come_41 {scr : ScA}   {x2 : Int32} {w0 : Nat} (hw0 : isBe w0) {σ : Nat → Nat → Int32} {P : Int32 → (Nat → Nat → Int32) → Prop} (H : P (if ¬ x2 = 0 then σ w0 2 else σ w0 0 : Int32) σ) : K_X10_come_41 scr x2 w0 σ P := by
  show XA scr 5 mX10_come 172 4705 41 [none, none, some (.int x2), none] [.ref w0] (hs σ) (pI P)
  refine XA.blk (e9 := 43) (ok := true) (ls' := [none, none, some (.int x2), some (.ref w0)]) (st' := [.int x2]) (h' := hs σ) [(.astore_n 3, 1, 3, 0, 0, 0, 0, 0), (.iload_n 2, 1, 2, 0, 0, 0, 0, 0)] (by decide +kernel) rfl rfl ?_
  have hJ43 : XA scr 5 mX10_come 172 4705 57 [none, none, none, none] [.int (if ¬ x2 = 0 then σ w0 2 else σ w0 0 : Int32)] (hs σ) (pI P) := by
    exact XA.ret (some (.int (if ¬ x2 = 0 then σ w0 2 else σ w0 0 : Int32))) rfl (show ckRt mX10_come 57 .ireturn = true by decide +kernel) trivial (Nat.le_of_ble_eq_true rfl) (Nat.le_of_ble_eq_true rfl) ⟨_, _, rfl, rfl, H⟩
  refine XA.if_ne (10) 53 (by decide +kernel) (fun c1 => ?_) (fun c1 => ?_)
  · refine XA.blk (e9 := 57) (ok := kO 172 S0 w0 0 && (true)) (ls' := [none, none, some (.int x2), some (.ref w0)]) (st' := [.int (σ w0 2)]) (h' := hs σ) [(.aload_n 3, 1, 3, 0, 0, 0, 0, 0), (.getfield 192, 3, 0, 2, 0, 281, 0, 0)] (by decide +kernel) rfl (by simp only [beO hw0, Bool.and_true, Bool.true_and]) ?_
    refine XA.drop (ls := [none, none, none, none]) (by simp [leL]) ?_
    simpa only [if_pos c1] using hJ43
  · refine XA.blk (e9 := 57) (ok := kO 172 S0 w0 0 && (true)) (ls' := [none, none, some (.int x2), some (.ref w0)]) (st' := [.int (σ w0 0)]) (h' := hs σ) [(.aload_n 3, 1, 3, 0, 0, 0, 0, 0), (.getfield 189, 3, 0, 0, 0, 278, 0, 0), (.goto 7, 3, 57, 0, 0, 0, 0, 0)] (by decide +kernel) rfl (by simp only [beO hw0, Bool.and_true, Bool.true_and]) ?_
    refine XA.drop (ls := [none, none, none, none]) (by simp [leL]) ?_
    simpa only [if_neg (not_not_intro c1)] using hJ43
theorem E_X10_come {scr : ScA}  {x1 : Int32} {x2 : Int32} {σ : Nat → Nat → Int32} {P : Int32 → (Nat → Nat → Int32) → Prop} (h : K_X10_come_0 scr x1 x2 σ P) : CiA scr 5 mX10_come [.ref 0, .int x1, .int x2] σ P := CtA.of (by decide) (Nat.le_of_ble_eq_true rfl) (XA.drop (by simp [leL, enL]) h)
def K_X10_train_0 (scr : ScA)  (x1 : Int32) (σ : Nat → Nat → Int32) (P : Int32 → (Nat → Nat → Int32) → Prop) : Prop := XA scr 5 mX10_train 172 4705 0 [some (.ref 0), some (.int x1), none] [] (hs σ) (pI P)
def K_X10_train_26 (scr : ScA)  (x1 : Int32) (σ : Nat → Nat → Int32) (P : Int32 → (Nat → Nat → Int32) → Prop) : Prop := XA scr 5 mX10_train 172 4705 26 [none, some (.int x1), none] [.ref 65] (hs σ) (pI P)
set_option maxRecDepth 20000 in
theorem W_X10_train_0 {scr : ScA}   {x1 : Int32}  {σ : Nat → Nat → Int32} {P : Int32 → (Nat → Nat → Int32) → Prop} (H : (¬ (isW x1 2) = 0 → CrA scr 4 mX3_bestTraining [.ref 49, .ref 3, .ref 10] σ (fun a9 σ' => a9 = 65 ∧ K_X10_train_26 scr x1 σ' P)) ∧ ((isW x1 2) = 0 → P (-2) σ)) : K_X10_train_0 scr x1 σ P := by
  show XA scr 5 mX10_train 172 4705 0 [some (.ref 0), some (.int x1), none] [] (hs σ) (pI P)
  refine XA.blk (e9 := 2) (ok := true) (ls' := [some (.ref 0), some (.int x1), none]) (st' := [.int 2, .int x1]) (h' := hs σ) [(.iload_n 1, 1, 1, 0, 0, 0, 0, 0), (.iconst 2, 1, 0, 0, 0, 0, 2, 0)] (by decide +kernel) rfl rfl ?_
  refine XA.callS (as := [.int x1, .int 2]) (rest := []) (mc' := 0) (ms' := 0) (idx := 84) (t := 445) cs_X10_isWithin (by decide +kernel) rfl rfl (Nat.le_of_ble_eq_true rfl) (Nat.le_of_ble_eq_true rfl) (Nat.le_of_ble_eq_true rfl) (Nat.le_of_ble_eq_true rfl) (pu_X10_isWithin scr σ x1 2) (fun rv h' hp => ?_)
  obtain ⟨rfl, rfl⟩ := hp
  refine ⟨rfl, rfl, ?_⟩
  show XA scr 5 mX10_train 172 4705 5 [some (.ref 0), some (.int x1), none] [.int (isW x1 2)] (hs σ) (pI P)
  refine XA.if_ne (6) 11 (by decide +kernel) (fun c1 => ?_) (fun c1 => ?_)
  · have H := H.1 c1
    refine XA.blk (e9 := 23) (ok := true) (ls' := [some (.ref 0), some (.int x1), none]) (st' := [.ref 10, .ref 3, .ref 49]) (h' := hs σ) [(.aload_n 0, 1, 0, 0, 0, 0, 0, 0), (.getfield 49, 3, 10, 5, 50, 403, 0, 0), (.aload_n 0, 1, 0, 0, 0, 0, 0, 0), (.getfield 19, 3, 10, 1, 4, 399, 0, 0), (.aload_n 0, 1, 0, 0, 0, 0, 0, 0), (.getfield 26, 3, 10, 2, 11, 400, 0, 0)] (by decide +kernel) rfl rfl ?_
    refine XA.callV (as := [.ref 3, .ref 10]) (rest := []) (mc' := 0) (ms' := 0) (idx := 195) (t := 697) cv_X3_bestTraining (by decide +kernel) rfl rfl rfl (Nat.le_of_ble_eq_true rfl) (Nat.le_of_ble_eq_true rfl) (Nat.le_of_ble_eq_true rfl) (Nat.le_of_ble_eq_true rfl) (H) (fun rv h' hp => ?_)
    obtain ⟨a9, s9, rfl, rfl, rfl, hK⟩ := hp
    exact ⟨rfl, rfl, XA.drop (by simp [leL]) hK⟩
  · have H := H.2 c1
    refine XA.blk (e9 := 10) (ok := true) (ls' := [some (.ref 0), some (.int x1), none]) (st' := [.int (-2)]) (h' := hs σ) [(.bipush (-2), 2, 0, 0, 0, 0, (-2), 0)] (by decide +kernel) rfl rfl ?_
    exact XA.ret (some (.int (-2))) rfl (show ckRt mX10_train 10 .ireturn = true by decide +kernel) trivial (Nat.le_of_ble_eq_true rfl) (Nat.le_of_ble_eq_true rfl) ⟨_, _, rfl, rfl, H⟩
set_option maxRecDepth 20000 in
theorem W_X10_train_26 {scr : ScA}   {x1 : Int32}  {σ : Nat → Nat → Int32} {P : Int32 → (Nat → Nat → Int32) → Prop} (H : P (if ¬ x1 = 0 then σ 65 2 else σ 65 0 : Int32) σ) : K_X10_train_26 scr x1 σ P := by
  show XA scr 5 mX10_train 172 4705 26 [none, some (.int x1), none] [.ref 65] (hs σ) (pI P)
  refine XA.blk (e9 := 28) (ok := true) (ls' := [none, some (.int x1), some (.ref 65)]) (st' := [.int x1]) (h' := hs σ) [(.astore_n 2, 1, 2, 0, 0, 0, 0, 0), (.iload_n 1, 1, 1, 0, 0, 0, 0, 0)] (by decide +kernel) rfl rfl ?_
  have hJ28 : XA scr 5 mX10_train 172 4705 42 [none, none, none] [.int (if ¬ x1 = 0 then σ 65 2 else σ 65 0 : Int32)] (hs σ) (pI P) := by
    exact XA.ret (some (.int (if ¬ x1 = 0 then σ 65 2 else σ 65 0 : Int32))) rfl (show ckRt mX10_train 42 .ireturn = true by decide +kernel) trivial (Nat.le_of_ble_eq_true rfl) (Nat.le_of_ble_eq_true rfl) ⟨_, _, rfl, rfl, H⟩
  refine XA.if_ne (10) 38 (by decide +kernel) (fun c1 => ?_) (fun c1 => ?_)
  · refine XA.blk (e9 := 42) (ok := true) (ls' := [none, some (.int x1), some (.ref 65)]) (st' := [.int (σ 65 2)]) (h' := hs σ) [(.aload_n 2, 1, 2, 0, 0, 0, 0, 0), (.getfield 192, 3, 0, 2, 0, 281, 0, 0)] (by decide +kernel) rfl rfl ?_
    refine XA.drop (ls := [none, none, none]) (by simp [leL]) ?_
    simpa only [if_pos c1] using hJ28
  · refine XA.blk (e9 := 42) (ok := true) (ls' := [none, some (.int x1), some (.ref 65)]) (st' := [.int (σ 65 0)]) (h' := hs σ) [(.aload_n 2, 1, 2, 0, 0, 0, 0, 0), (.getfield 189, 3, 0, 0, 0, 278, 0, 0), (.goto 7, 3, 42, 0, 0, 0, 0, 0)] (by decide +kernel) rfl rfl ?_
    refine XA.drop (ls := [none, none, none]) (by simp [leL]) ?_
    simpa only [if_neg (not_not_intro c1)] using hJ28
theorem E_X10_train {scr : ScA}  {x1 : Int32} {σ : Nat → Nat → Int32} {P : Int32 → (Nat → Nat → Int32) → Prop} (h : K_X10_train_0 scr x1 σ P) : CiA scr 5 mX10_train [.ref 0, .int x1] σ P := CtA.of (by decide) (Nat.le_of_ble_eq_true rfl) (XA.drop (by simp [leL, enL]) h)
def K_X10_spare_0 (scr : ScA)  (x1 : Int32) (σ : Nat → Nat → Int32) (P : Int32 → (Nat → Nat → Int32) → Prop) : Prop := XA scr 6 mX10_spare 172 4705 0 [some (.ref 0), some (.int x1), none] [] (hs σ) (pI P)
def K_X10_spare_28 (scr : ScA)  (x1 : Int32) (σ : Nat → Nat → Int32) (P : Int32 → (Nat → Nat → Int32) → Prop) : Prop := XA scr 6 mX10_spare 172 4705 28 [none, some (.int x1), none] [.ref 115] (hs σ) (pI P)
set_option maxRecDepth 20000 in
theorem W_X10_spare_0 {scr : ScA}   {x1 : Int32}  {σ : Nat → Nat → Int32} {P : Int32 → (Nat → Nat → Int32) → Prop} (H : (x1 < (-1) → P (-2) σ) ∧ (¬ x1 < (-1) → (x1 ≤ 1 → CrA scr 5 mX9_fewestToSpare [.ref 106, .ref 3, .ref 10] σ (fun a9 σ' => a9 = 115 ∧ K_X10_spare_28 scr x1 σ' P)) ∧ (¬ x1 ≤ 1 → P (-2) σ))) : K_X10_spare_0 scr x1 σ P := by
  show XA scr 6 mX10_spare 172 4705 0 [some (.ref 0), some (.int x1), none] [] (hs σ) (pI P)
  refine XA.blk (e9 := 2) (ok := true) (ls' := [some (.ref 0), some (.int x1), none]) (st' := [.int (-1), .int x1]) (h' := hs σ) [(.iload_n 1, 1, 1, 0, 0, 0, 0, 0), (.iconst (-1), 1, 0, 0, 0, 0, (-1), 0)] (by decide +kernel) rfl rfl ?_
  refine XA.icmp_lt (8) 10 (by decide +kernel) (fun c1 => ?_) (fun c1 => ?_)
  · have H := H.1 c1
    refine XA.blk (e9 := 12) (ok := true) (ls' := [some (.ref 0), some (.int x1), none]) (st' := [.int (-2)]) (h' := hs σ) [(.bipush (-2), 2, 0, 0, 0, 0, (-2), 0)] (by decide +kernel) rfl rfl ?_
    exact XA.ret (some (.int (-2))) rfl (show ckRt mX10_spare 12 .ireturn = true by decide +kernel) trivial (Nat.le_of_ble_eq_true rfl) (Nat.le_of_ble_eq_true rfl) ⟨_, _, rfl, rfl, H⟩
  · have H := H.2 c1
    refine XA.blk (e9 := 7) (ok := true) (ls' := [some (.ref 0), some (.int x1), none]) (st' := [.int 1, .int x1]) (h' := hs σ) [(.iload_n 1, 1, 1, 0, 0, 0, 0, 0), (.iconst 1, 1, 0, 0, 0, 0, 1, 0)] (by decide +kernel) rfl rfl ?_
    refine XA.icmp_le (6) 13 (by decide +kernel) (fun c2 => ?_) (fun c2 => ?_)
    · have H := H.1 c2
      refine XA.blk (e9 := 25) (ok := true) (ls' := [some (.ref 0), some (.int x1), none]) (st' := [.ref 10, .ref 3, .ref 106]) (h' := hs σ) [(.aload_n 0, 1, 0, 0, 0, 0, 0, 0), (.getfield 63, 3, 10, 7, 107, 405, 0, 0), (.aload_n 0, 1, 0, 0, 0, 0, 0, 0), (.getfield 19, 3, 10, 1, 4, 399, 0, 0), (.aload_n 0, 1, 0, 0, 0, 0, 0, 0), (.getfield 26, 3, 10, 2, 11, 400, 0, 0)] (by decide +kernel) rfl rfl ?_
      refine XA.callV (as := [.ref 3, .ref 10]) (rest := []) (mc' := 0) (ms' := 0) (idx := 198) (t := 706) cv_X9_fewestToSpare (by decide +kernel) rfl rfl rfl (Nat.le_of_ble_eq_true rfl) (Nat.le_of_ble_eq_true rfl) (Nat.le_of_ble_eq_true rfl) (Nat.le_of_ble_eq_true rfl) (H) (fun rv h' hp => ?_)
      obtain ⟨a9, s9, rfl, rfl, rfl, hK⟩ := hp
      exact ⟨rfl, rfl, XA.drop (by simp [leL]) hK⟩
    · have H := H.2 c2
      refine XA.blk (e9 := 12) (ok := true) (ls' := [some (.ref 0), some (.int x1), none]) (st' := [.int (-2)]) (h' := hs σ) [(.bipush (-2), 2, 0, 0, 0, 0, (-2), 0)] (by decide +kernel) rfl rfl ?_
      exact XA.ret (some (.int (-2))) rfl (show ckRt mX10_spare 12 .ireturn = true by decide +kernel) trivial (Nat.le_of_ble_eq_true rfl) (Nat.le_of_ble_eq_true rfl) ⟨_, _, rfl, rfl, H⟩
set_option maxRecDepth 20000 in
theorem W_X10_spare_28 {scr : ScA}   {x1 : Int32}  {σ : Nat → Nat → Int32} {P : Int32 → (Nat → Nat → Int32) → Prop} (H : P (if ¬ x1 = (-1) then if x1 = 0 then σ 115 0 else if x1 = 1 then σ 115 1 else σ 115 2 else σ 115 2 : Int32) σ) : K_X10_spare_28 scr x1 σ P := by
  show XA scr 6 mX10_spare 172 4705 28 [none, some (.int x1), none] [.ref 115] (hs σ) (pI P)
  refine XA.blk (e9 := 31) (ok := true) (ls' := [none, some (.int x1), some (.ref 115)]) (st' := [.int (-1), .int x1]) (h' := hs σ) [(.astore_n 2, 1, 2, 0, 0, 0, 0, 0), (.iload_n 1, 1, 1, 0, 0, 0, 0, 0), (.iconst (-1), 1, 0, 0, 0, 0, (-1), 0)] (by decide +kernel) rfl rfl ?_
  have hJ31 : XA scr 6 mX10_spare 172 4705 46 [none, none, none] [.int (if ¬ x1 = (-1) then if x1 = 0 then σ 115 0 else if x1 = 1 then σ 115 1 else σ 115 2 else σ 115 2 : Int32)] (hs σ) (pI P) := by
    exact XA.ret (some (.int (if ¬ x1 = (-1) then if x1 = 0 then σ 115 0 else if x1 = 1 then σ 115 1 else σ 115 2 else σ 115 2 : Int32))) rfl (show ckRt mX10_spare 46 .ireturn = true by decide +kernel) trivial (Nat.le_of_ble_eq_true rfl) (Nat.le_of_ble_eq_true rfl) ⟨_, _, rfl, rfl, H⟩
  refine XA.icmp_ne (10) 41 (by decide +kernel) (fun c1 => ?_) (fun c1 => ?_)
  · refine XA.blk (e9 := 43) (ok := true) (ls' := [none, some (.int x1), some (.ref 115)]) (st' := [.int x1, .ref 115]) (h' := hs σ) [(.aload_n 2, 1, 2, 0, 0, 0, 0, 0), (.iload_n 1, 1, 1, 0, 0, 0, 0, 0)] (by decide +kernel) rfl rfl ?_
    refine XA.callV (as := [.int x1]) (rest := []) (mc' := 0) (ms' := 0) (idx := 180) (t := 681) cv_X0_part (by decide +kernel) rfl rfl rfl (Nat.le_of_ble_eq_true rfl) (Nat.le_of_ble_eq_true rfl) (Nat.le_of_ble_eq_true rfl) (Nat.le_of_ble_eq_true rfl) (pu_X0_part scr σ (show isBe 115 from rfl) x1) (fun rv h' hp => ?_)
    obtain ⟨rfl, rfl⟩ := hp
    refine ⟨rfl, rfl, ?_⟩
    show XA scr 6 mX10_spare 172 4705 46 [none, some (.int x1), some (.ref 115)] [.int (if x1 = 0 then σ 115 0 else if x1 = 1 then σ 115 1 else σ 115 2)] (hs σ) (pI P)
    refine XA.drop (ls := [none, none, none]) (by simp [leL]) ?_
    simpa only [if_pos c1] using hJ31
  · refine XA.blk (e9 := 46) (ok := true) (ls' := [none, some (.int x1), some (.ref 115)]) (st' := [.int (σ 115 2)]) (h' := hs σ) [(.aload_n 2, 1, 2, 0, 0, 0, 0, 0), (.getfield 192, 3, 0, 2, 0, 281, 0, 0), (.goto 8, 3, 46, 0, 0, 0, 0, 0)] (by decide +kernel) rfl rfl ?_
    refine XA.drop (ls := [none, none, none]) (by simp [leL]) ?_
    simpa only [if_neg (not_not_intro c1)] using hJ31
theorem E_X10_spare {scr : ScA}  {x1 : Int32} {σ : Nat → Nat → Int32} {P : Int32 → (Nat → Nat → Int32) → Prop} (h : K_X10_spare_0 scr x1 σ P) : CiA scr 6 mX10_spare [.ref 0, .int x1] σ P := CtA.of (by decide) (Nat.le_of_ble_eq_true rfl) (XA.drop (by simp [leL, enL]) h)
def K_X10_seen_0 (scr : ScA)  (x1 : Int32) (x2 : Int32) (x3 : Int32) (σ : Nat → Nat → Int32) (P : Int32 → (Nat → Nat → Int32) → Prop) : Prop := XA scr 2 mX10_seen 172 4705 0 [some (.ref 0), some (.int x1), some (.int x2), some (.int x3)] [] (hs σ) (pI P)
def K_X10_seen_55 (scr : ScA)   (σ : Nat → Nat → Int32) (P : Int32 → (Nat → Nat → Int32) → Prop) : Prop := XA scr 2 mX10_seen 172 4705 55 [some (.ref 0), none, none, none] [] (hs σ) (pI P)
def K_X10_seen_62 (scr : ScA)   (σ : Nat → Nat → Int32) (P : Int32 → (Nat → Nat → Int32) → Prop) : Prop := XA scr 2 mX10_seen 172 4705 62 [some (.ref 0), none, none, none] [] (hs σ) (pI P)
set_option maxRecDepth 20000 in
theorem W_X10_seen_0 {scr : ScA}   {x1 : Int32} {x2 : Int32} {x3 : Int32}  {σ : Nat → Nat → Int32} {P : Int32 → (Nat → Nat → Int32) → Prop} (H : ((isW x1 24) = 0 → P (-2) σ) ∧ (¬ (isW x1 24) = 0 → ((isW x2 10) = 0 → P (-2) σ) ∧ (¬ (isW x2 10) = 0 → (¬ (isW x3 11) = 0 → ((σ 14 3) < 8 → CvA scr 0 mX6_add [.ref 14, .int x1, .int x2, .int x3] σ (fun σ' => K_X10_seen_55 scr σ' P)) ∧ (¬ (σ 14 3) < 8 → P (-4) σ)) ∧ ((isW x3 11) = 0 → P (-2) σ)))) : K_X10_seen_0 scr x1 x2 x3 σ P := by
  show XA scr 2 mX10_seen 172 4705 0 [some (.ref 0), some (.int x1), some (.int x2), some (.int x3)] [] (hs σ) (pI P)
  refine XA.blk (e9 := 3) (ok := true) (ls' := [some (.ref 0), some (.int x1), some (.int x2), some (.int x3)]) (st' := [.int 24, .int x1]) (h' := hs σ) [(.iload_n 1, 1, 1, 0, 0, 0, 0, 0), (.bipush 24, 2, 0, 0, 0, 0, 24, 0)] (by decide +kernel) rfl rfl ?_
  refine XA.callS (as := [.int x1, .int 24]) (rest := []) (mc' := 0) (ms' := 0) (idx := 84) (t := 445) cs_X10_isWithin (by decide +kernel) rfl rfl (Nat.le_of_ble_eq_true rfl) (Nat.le_of_ble_eq_true rfl) (Nat.le_of_ble_eq_true rfl) (Nat.le_of_ble_eq_true rfl) (pu_X10_isWithin scr σ x1 24) (fun rv h' hp => ?_)
  obtain ⟨rfl, rfl⟩ := hp
  refine ⟨rfl, rfl, ?_⟩
  show XA scr 2 mX10_seen 172 4705 6 [some (.ref 0), some (.int x1), some (.int x2), some (.int x3)] [.int (isW x1 24)] (hs σ) (pI P)
  refine XA.if_eq (21) 27 (by decide +kernel) (fun c1 => ?_) (fun c1 => ?_)
  · have H := H.1 c1
    refine XA.blk (e9 := 29) (ok := true) (ls' := [some (.ref 0), some (.int x1), some (.int x2), some (.int x3)]) (st' := [.int (-2)]) (h' := hs σ) [(.bipush (-2), 2, 0, 0, 0, 0, (-2), 0)] (by decide +kernel) rfl rfl ?_
    exact XA.ret (some (.int (-2))) rfl (show ckRt mX10_seen 29 .ireturn = true by decide +kernel) trivial (Nat.le_of_ble_eq_true rfl) (Nat.le_of_ble_eq_true rfl) ⟨_, _, rfl, rfl, H⟩
  · have H := H.2 c1
    refine XA.blk (e9 := 12) (ok := true) (ls' := [some (.ref 0), some (.int x1), some (.int x2), some (.int x3)]) (st' := [.int 10, .int x2]) (h' := hs σ) [(.iload_n 2, 1, 2, 0, 0, 0, 0, 0), (.bipush 10, 2, 0, 0, 0, 0, 10, 0)] (by decide +kernel) rfl rfl ?_
    refine XA.callS (as := [.int x2, .int 10]) (rest := []) (mc' := 0) (ms' := 0) (idx := 84) (t := 445) cs_X10_isWithin (by decide +kernel) rfl rfl (Nat.le_of_ble_eq_true rfl) (Nat.le_of_ble_eq_true rfl) (Nat.le_of_ble_eq_true rfl) (Nat.le_of_ble_eq_true rfl) (pu_X10_isWithin scr σ x2 10) (fun rv h' hp => ?_)
    obtain ⟨rfl, rfl⟩ := hp
    refine ⟨rfl, rfl, ?_⟩
    show XA scr 2 mX10_seen 172 4705 15 [some (.ref 0), some (.int x1), some (.int x2), some (.int x3)] [.int (isW x2 10)] (hs σ) (pI P)
    refine XA.if_eq (12) 27 (by decide +kernel) (fun c2 => ?_) (fun c2 => ?_)
    · have H := H.1 c2
      refine XA.blk (e9 := 29) (ok := true) (ls' := [some (.ref 0), some (.int x1), some (.int x2), some (.int x3)]) (st' := [.int (-2)]) (h' := hs σ) [(.bipush (-2), 2, 0, 0, 0, 0, (-2), 0)] (by decide +kernel) rfl rfl ?_
      exact XA.ret (some (.int (-2))) rfl (show ckRt mX10_seen 29 .ireturn = true by decide +kernel) trivial (Nat.le_of_ble_eq_true rfl) (Nat.le_of_ble_eq_true rfl) ⟨_, _, rfl, rfl, H⟩
    · have H := H.2 c2
      refine XA.blk (e9 := 21) (ok := true) (ls' := [some (.ref 0), some (.int x1), some (.int x2), some (.int x3)]) (st' := [.int 11, .int x3]) (h' := hs σ) [(.iload_n 3, 1, 3, 0, 0, 0, 0, 0), (.bipush 11, 2, 0, 0, 0, 0, 11, 0)] (by decide +kernel) rfl rfl ?_
      refine XA.callS (as := [.int x3, .int 11]) (rest := []) (mc' := 0) (ms' := 0) (idx := 84) (t := 445) cs_X10_isWithin (by decide +kernel) rfl rfl (Nat.le_of_ble_eq_true rfl) (Nat.le_of_ble_eq_true rfl) (Nat.le_of_ble_eq_true rfl) (Nat.le_of_ble_eq_true rfl) (pu_X10_isWithin scr σ x3 11) (fun rv h' hp => ?_)
      obtain ⟨rfl, rfl⟩ := hp
      refine ⟨rfl, rfl, ?_⟩
      show XA scr 2 mX10_seen 172 4705 24 [some (.ref 0), some (.int x1), some (.int x2), some (.int x3)] [.int (isW x3 11)] (hs σ) (pI P)
      refine XA.if_ne (6) 30 (by decide +kernel) (fun c3 => ?_) (fun c3 => ?_)
      · have H := H.1 c3
        refine XA.blk (e9 := 39) (ok := true) (ls' := [some (.ref 0), some (.int x1), some (.int x2), some (.int x3)]) (st' := [.int 8, .int (σ 14 3)]) (h' := hs σ) [(.aload_n 0, 1, 0, 0, 0, 0, 0, 0), (.getfield 33, 3, 10, 3, 15, 401, 0, 0), (.getfield 201, 3, 6, 3, 0, 195, 0, 0), (.bipush 8, 2, 0, 0, 0, 0, 8, 0)] (by decide +kernel) rfl rfl ?_
        refine XA.icmp_lt (6) 45 (by decide +kernel) (fun c4 => ?_) (fun c4 => ?_)
        · have H := H.1 c4
          refine XA.blk (e9 := 52) (ok := true) (ls' := [some (.ref 0), some (.int x1), some (.int x2), some (.int x3)]) (st' := [.int x3, .int x2, .int x1, .ref 14]) (h' := hs σ) [(.aload_n 0, 1, 0, 0, 0, 0, 0, 0), (.getfield 33, 3, 10, 3, 15, 401, 0, 0), (.iload_n 1, 1, 1, 0, 0, 0, 0, 0), (.iload_n 2, 1, 2, 0, 0, 0, 0, 0), (.iload_n 3, 1, 3, 0, 0, 0, 0, 0)] (by decide +kernel) rfl rfl ?_
          refine XA.callV (as := [.int x1, .int x2, .int x3]) (rest := []) (mc' := 0) (ms' := 0) (idx := 202) (t := 724) cv_X6_add (by decide +kernel) rfl rfl rfl (Nat.le_of_ble_eq_true rfl) (Nat.le_of_ble_eq_true rfl) (Nat.le_of_ble_eq_true rfl) (Nat.le_of_ble_eq_true rfl) (H) (fun rv h' hp => ?_)
          obtain ⟨s9, rfl, rfl, hK⟩ := hp
          exact ⟨rfl, rfl, XA.drop (by simp [leL]) hK⟩
        · have H := H.2 c4
          refine XA.blk (e9 := 44) (ok := true) (ls' := [some (.ref 0), some (.int x1), some (.int x2), some (.int x3)]) (st' := [.int (-4)]) (h' := hs σ) [(.bipush (-4), 2, 0, 0, 0, 0, (-4), 0)] (by decide +kernel) rfl rfl ?_
          exact XA.ret (some (.int (-4))) rfl (show ckRt mX10_seen 44 .ireturn = true by decide +kernel) trivial (Nat.le_of_ble_eq_true rfl) (Nat.le_of_ble_eq_true rfl) ⟨_, _, rfl, rfl, H⟩
      · have H := H.2 c3
        refine XA.blk (e9 := 29) (ok := true) (ls' := [some (.ref 0), some (.int x1), some (.int x2), some (.int x3)]) (st' := [.int (-2)]) (h' := hs σ) [(.bipush (-2), 2, 0, 0, 0, 0, (-2), 0)] (by decide +kernel) rfl rfl ?_
        exact XA.ret (some (.int (-2))) rfl (show ckRt mX10_seen 29 .ireturn = true by decide +kernel) trivial (Nat.le_of_ble_eq_true rfl) (Nat.le_of_ble_eq_true rfl) ⟨_, _, rfl, rfl, H⟩
set_option maxRecDepth 20000 in
theorem W_X10_seen_55 {scr : ScA}     {σ : Nat → Nat → Int32} {P : Int32 → (Nat → Nat → Int32) → Prop} (H : CvA scr 1 mX2_forgetAnswers [.ref 77] σ (fun σ' => K_X10_seen_62 scr σ' P)) : K_X10_seen_55 scr σ P := by
  show XA scr 2 mX10_seen 172 4705 55 [some (.ref 0), none, none, none] [] (hs σ) (pI P)
  refine XA.blk (e9 := 59) (ok := true) (ls' := [some (.ref 0), none, none, none]) (st' := [.ref 77]) (h' := hs σ) [(.aload_n 0, 1, 0, 0, 0, 0, 0, 0), (.getfield 56, 3, 10, 6, 78, 404, 0, 0)] (by decide +kernel) rfl rfl ?_
  refine XA.callV (as := []) (rest := []) (mc' := 0) (ms' := 0) (idx := 203) (t := 487) cv_X2_forgetAnswers (by decide +kernel) rfl rfl rfl (Nat.le_of_ble_eq_true rfl) (Nat.le_of_ble_eq_true rfl) (Nat.le_of_ble_eq_true rfl) (Nat.le_of_ble_eq_true rfl) (H) (fun rv h' hp => ?_)
  obtain ⟨s9, rfl, rfl, hK⟩ := hp
  exact ⟨rfl, rfl, hK⟩
set_option maxRecDepth 20000 in
theorem W_X10_seen_62 {scr : ScA}     {σ : Nat → Nat → Int32} {P : Int32 → (Nat → Nat → Int32) → Prop} (H : P (σ 14 3) σ) : K_X10_seen_62 scr σ P := by
  show XA scr 2 mX10_seen 172 4705 62 [some (.ref 0), none, none, none] [] (hs σ) (pI P)
  refine XA.blk (e9 := 69) (ok := true) (ls' := [some (.ref 0), none, none, none]) (st' := [.int (σ 14 3)]) (h' := hs σ) [(.aload_n 0, 1, 0, 0, 0, 0, 0, 0), (.getfield 33, 3, 10, 3, 15, 401, 0, 0), (.getfield 201, 3, 6, 3, 0, 195, 0, 0)] (by decide +kernel) rfl rfl ?_
  exact XA.ret (some (.int (σ 14 3))) rfl (show ckRt mX10_seen 69 .ireturn = true by decide +kernel) trivial (Nat.le_of_ble_eq_true rfl) (Nat.le_of_ble_eq_true rfl) ⟨_, _, rfl, rfl, H⟩
theorem E_X10_seen {scr : ScA}  {x1 : Int32} {x2 : Int32} {x3 : Int32} {σ : Nat → Nat → Int32} {P : Int32 → (Nat → Nat → Int32) → Prop} (h : K_X10_seen_0 scr x1 x2 x3 σ P) : CiA scr 2 mX10_seen [.ref 0, .int x1, .int x2, .int x3] σ P := CtA.of (by decide) (Nat.le_of_ble_eq_true rfl) (XA.drop (by simp [leL, enL]) h)
def K_X10_forget_0 (scr : ScA)   (σ : Nat → Nat → Int32) (P : Int32 → (Nat → Nat → Int32) → Prop) : Prop := XA scr 2 mX10_forget 172 4705 0 [some (.ref 0), none] [] (hs σ) (pI P)
def K_X10_forget_23 (scr : ScA)  (x1 : Int32) (σ : Nat → Nat → Int32) (P : Int32 → (Nat → Nat → Int32) → Prop) : Prop := XA scr 2 mX10_forget 172 4705 23 [none, some (.int x1)] [] (hs σ) (pI P)
set_option maxRecDepth 20000 in
theorem W_X10_forget_0 {scr : ScA}     {σ : Nat → Nat → Int32} {P : Int32 → (Nat → Nat → Int32) → Prop} (H : ∀ σ1, σ1 = (su σ 14 3 0) → CvA scr 1 mX2_forgetAnswers [.ref 77] σ1 (fun σ' => K_X10_forget_23 scr (σ 14 3) σ' P)) : K_X10_forget_0 scr σ P := by
  show XA scr 2 mX10_forget 172 4705 0 [some (.ref 0), none] [] (hs σ) (pI P)
  refine XA.blk (e9 := 16) (ok := true) (ls' := [some (.ref 0), some (.int (σ 14 3))]) (st' := []) (h' := hs (su σ 14 3 0)) [(.aload_n 0, 1, 0, 0, 0, 0, 0, 0), (.getfield 33, 3, 10, 3, 15, 401, 0, 0), (.getfield 201, 3, 6, 3, 0, 195, 0, 0), (.istore_n 1, 1, 1, 0, 0, 0, 0, 0), (.aload_n 0, 1, 0, 0, 0, 0, 0, 0), (.getfield 33, 3, 10, 3, 15, 401, 0, 0), (.iconst 0, 1, 0, 0, 0, 0, 0, 0), (.putfield 201, 3, 6, 3, 0, 195, 0, 0)] (by decide +kernel) rfl rfl ?_
  obtain ⟨σ1, hσ1⟩ : ∃ s9, s9 = (su σ 14 3 0) := ⟨_, rfl⟩
  rw [← hσ1]
  have H := H σ1 hσ1
  refine XA.blk (e9 := 20) (ok := true) (ls' := [some (.ref 0), some (.int (σ 14 3))]) (st' := [.ref 77]) (h' := hs σ1) [(.aload_n 0, 1, 0, 0, 0, 0, 0, 0), (.getfield 56, 3, 10, 6, 78, 404, 0, 0)] (by decide +kernel) rfl rfl ?_
  refine XA.callV (as := []) (rest := []) (mc' := 0) (ms' := 0) (idx := 203) (t := 487) cv_X2_forgetAnswers (by decide +kernel) rfl rfl rfl (Nat.le_of_ble_eq_true rfl) (Nat.le_of_ble_eq_true rfl) (Nat.le_of_ble_eq_true rfl) (Nat.le_of_ble_eq_true rfl) (H) (fun rv h' hp => ?_)
  obtain ⟨s9, rfl, rfl, hK⟩ := hp
  exact ⟨rfl, rfl, XA.drop (by simp [leL]) hK⟩
set_option maxRecDepth 20000 in
theorem W_X10_forget_23 {scr : ScA}   {x1 : Int32}  {σ : Nat → Nat → Int32} {P : Int32 → (Nat → Nat → Int32) → Prop} (H : P x1 σ) : K_X10_forget_23 scr x1 σ P := by
  show XA scr 2 mX10_forget 172 4705 23 [none, some (.int x1)] [] (hs σ) (pI P)
  refine XA.blk (e9 := 24) (ok := true) (ls' := [none, some (.int x1)]) (st' := [.int x1]) (h' := hs σ) [(.iload_n 1, 1, 1, 0, 0, 0, 0, 0)] (by decide +kernel) rfl rfl ?_
  exact XA.ret (some (.int x1)) rfl (show ckRt mX10_forget 24 .ireturn = true by decide +kernel) trivial (Nat.le_of_ble_eq_true rfl) (Nat.le_of_ble_eq_true rfl) ⟨_, _, rfl, rfl, H⟩
theorem E_X10_forget {scr : ScA}   {σ : Nat → Nat → Int32} {P : Int32 → (Nat → Nat → Int32) → Prop} (h : K_X10_forget_0 scr σ P) : CiA scr 2 mX10_forget [.ref 0] σ P := CtA.of (by decide) (Nat.le_of_ble_eq_true rfl) (XA.drop (by simp [leL, enL]) h)
def K_X10_never_0 (scr : ScA)   (σ : Nat → Nat → Int32) (P : Int32 → (Nat → Nat → Int32) → Prop) : Prop := XA scr 5 mX10_never 172 4705 0 [some (.ref 0)] [] (hs σ) (pI P)
def K_X10_never_19 (scr : ScA)  (y0 : Int32) (σ : Nat → Nat → Int32) (P : Int32 → (Nat → Nat → Int32) → Prop) : Prop := XA scr 5 mX10_never 172 4705 19 [none] [.int y0] (hs σ) (pI P)
set_option maxRecDepth 20000 in
theorem W_X10_never_0 {scr : ScA}     {σ : Nat → Nat → Int32} {P : Int32 → (Nat → Nat → Int32) → Prop} (H : CiA scr 4 mX2_neverBits [.ref 77, .ref 3, .ref 10, .ref 14] σ (fun r9 σ' => K_X10_never_19 scr r9 σ' P)) : K_X10_never_0 scr σ P := by
  show XA scr 5 mX10_never 172 4705 0 [some (.ref 0)] [] (hs σ) (pI P)
  refine XA.blk (e9 := 16) (ok := true) (ls' := [some (.ref 0)]) (st' := [.ref 14, .ref 10, .ref 3, .ref 77]) (h' := hs σ) [(.aload_n 0, 1, 0, 0, 0, 0, 0, 0), (.getfield 56, 3, 10, 6, 78, 404, 0, 0), (.aload_n 0, 1, 0, 0, 0, 0, 0, 0), (.getfield 19, 3, 10, 1, 4, 399, 0, 0), (.aload_n 0, 1, 0, 0, 0, 0, 0, 0), (.getfield 26, 3, 10, 2, 11, 400, 0, 0), (.aload_n 0, 1, 0, 0, 0, 0, 0, 0), (.getfield 33, 3, 10, 3, 15, 401, 0, 0)] (by decide +kernel) rfl rfl ?_
  refine XA.callV (as := [.ref 3, .ref 10, .ref 14]) (rest := []) (mc' := 0) (ms' := 0) (idx := 204) (t := 736) cv_X2_neverBits (by decide +kernel) rfl rfl rfl (Nat.le_of_ble_eq_true rfl) (Nat.le_of_ble_eq_true rfl) (Nat.le_of_ble_eq_true rfl) (Nat.le_of_ble_eq_true rfl) (H) (fun rv h' hp => ?_)
  obtain ⟨r9, s9, rfl, rfl, hK⟩ := hp
  exact ⟨rfl, rfl, XA.drop (by simp [leL]) hK⟩
set_option maxRecDepth 20000 in
theorem W_X10_never_19 {scr : ScA}   {y0 : Int32}  {σ : Nat → Nat → Int32} {P : Int32 → (Nat → Nat → Int32) → Prop} (H : P y0 σ) : K_X10_never_19 scr y0 σ P := by
  show XA scr 5 mX10_never 172 4705 19 [none] [.int y0] (hs σ) (pI P)
  exact XA.ret (some (.int y0)) rfl (show ckRt mX10_never 19 .ireturn = true by decide +kernel) trivial (Nat.le_of_ble_eq_true rfl) (Nat.le_of_ble_eq_true rfl) ⟨_, _, rfl, rfl, H⟩
theorem E_X10_never {scr : ScA}   {σ : Nat → Nat → Int32} {P : Int32 → (Nat → Nat → Int32) → Prop} (h : K_X10_never_0 scr σ P) : CiA scr 5 mX10_never [.ref 0] σ P := CtA.of (by decide) (Nat.le_of_ble_eq_true rfl) (XA.drop (by simp [leL, enL]) h)
def K_X10_was_0 (scr : ScA)  (x1 : Int32) (x2 : Int32) (σ : Nat → Nat → Int32) (P : Int32 → (Nat → Nat → Int32) → Prop) : Prop := XA scr 5 mX10_was 172 4705 0 [some (.ref 0), some (.int x1), some (.int x2)] [] (hs σ) (pI P)
def K_X10_was_49 (scr : ScA)  (x1 : Int32) (σ : Nat → Nat → Int32) (P : Int32 → (Nat → Nat → Int32) → Prop) : Prop := XA scr 5 mX10_was 172 4705 49 [some (.ref 0), some (.int x1), none] [] (hs σ) (pI P)
def K_X10_was_79 (scr : ScA)  (x1 : Int32) (σ : Nat → Nat → Int32) (P : Int32 → (Nat → Nat → Int32) → Prop) : Prop := XA scr 5 mX10_was 172 4705 79 [some (.ref 0), some (.int x1), none] [] (hs σ) (pI P)
set_option maxRecDepth 20000 in
theorem W_X10_was_0 {scr : ScA}   {x1 : Int32} {x2 : Int32}  {σ : Nat → Nat → Int32} {P : Int32 → (Nat → Nat → Int32) → Prop} (H : ((isW x1 (σ 3 6)) = 0 → P (-2) σ) ∧ (¬ (isW x1 (σ 3 6)) = 0 → (¬ (isW x2 2) = 0 → (¬ x2 = 0 → CvA scr 4 mX2_tryWeights [.ref 77, .ref 3, .ref 10, .ref 14, .int x1] σ (fun σ' => K_X10_was_79 scr x1 σ' P)) ∧ (x2 = 0 → CvA scr 4 mX2_tryStrengths [.ref 77, .ref 3, .ref 10, .ref 14, .int x1] σ (fun σ' => K_X10_was_49 scr x1 σ' P))) ∧ ((isW x2 2) = 0 → P (-2) σ))) : K_X10_was_0 scr x1 x2 σ P := by
  show XA scr 5 mX10_was 172 4705 0 [some (.ref 0), some (.int x1), some (.int x2)] [] (hs σ) (pI P)
  refine XA.blk (e9 := 8) (ok := true) (ls' := [some (.ref 0), some (.int x1), some (.int x2)]) (st' := [.int (σ 3 6), .int x1]) (h' := hs σ) [(.iload_n 1, 1, 1, 0, 0, 0, 0, 0), (.aload_n 0, 1, 0, 0, 0, 0, 0, 0), (.getfield 19, 3, 10, 1, 4, 399, 0, 0), (.getfield 98, 3, 8, 6, 0, 143, 0, 0)] (by decide +kernel) rfl rfl ?_
  refine XA.callS (as := [.int x1, .int (σ 3 6)]) (rest := []) (mc' := 0) (ms' := 0) (idx := 84) (t := 445) cs_X10_isWithin (by decide +kernel) rfl rfl (Nat.le_of_ble_eq_true rfl) (Nat.le_of_ble_eq_true rfl) (Nat.le_of_ble_eq_true rfl) (Nat.le_of_ble_eq_true rfl) (pu_X10_isWithin scr σ x1 (σ 3 6)) (fun rv h' hp => ?_)
  obtain ⟨rfl, rfl⟩ := hp
  refine ⟨rfl, rfl, ?_⟩
  show XA scr 5 mX10_was 172 4705 11 [some (.ref 0), some (.int x1), some (.int x2)] [.int (isW x1 (σ 3 6))] (hs σ) (pI P)
  refine XA.if_eq (11) 22 (by decide +kernel) (fun c1 => ?_) (fun c1 => ?_)
  · have H := H.1 c1
    refine XA.blk (e9 := 24) (ok := true) (ls' := [some (.ref 0), some (.int x1), some (.int x2)]) (st' := [.int (-2)]) (h' := hs σ) [(.bipush (-2), 2, 0, 0, 0, 0, (-2), 0)] (by decide +kernel) rfl rfl ?_
    exact XA.ret (some (.int (-2))) rfl (show ckRt mX10_was 24 .ireturn = true by decide +kernel) trivial (Nat.le_of_ble_eq_true rfl) (Nat.le_of_ble_eq_true rfl) ⟨_, _, rfl, rfl, H⟩
  · have H := H.2 c1
    refine XA.blk (e9 := 16) (ok := true) (ls' := [some (.ref 0), some (.int x1), some (.int x2)]) (st' := [.int 2, .int x2]) (h' := hs σ) [(.iload_n 2, 1, 2, 0, 0, 0, 0, 0), (.iconst 2, 1, 0, 0, 0, 0, 2, 0)] (by decide +kernel) rfl rfl ?_
    refine XA.callS (as := [.int x2, .int 2]) (rest := []) (mc' := 0) (ms' := 0) (idx := 84) (t := 445) cs_X10_isWithin (by decide +kernel) rfl rfl (Nat.le_of_ble_eq_true rfl) (Nat.le_of_ble_eq_true rfl) (Nat.le_of_ble_eq_true rfl) (Nat.le_of_ble_eq_true rfl) (pu_X10_isWithin scr σ x2 2) (fun rv h' hp => ?_)
    obtain ⟨rfl, rfl⟩ := hp
    refine ⟨rfl, rfl, ?_⟩
    show XA scr 5 mX10_was 172 4705 19 [some (.ref 0), some (.int x1), some (.int x2)] [.int (isW x2 2)] (hs σ) (pI P)
    refine XA.if_ne (6) 25 (by decide +kernel) (fun c2 => ?_) (fun c2 => ?_)
    · have H := H.1 c2
      refine XA.blk (e9 := 26) (ok := true) (ls' := [some (.ref 0), some (.int x1), some (.int x2)]) (st' := [.int x2]) (h' := hs σ) [(.iload_n 2, 1, 2, 0, 0, 0, 0, 0)] (by decide +kernel) rfl rfl ?_
      refine XA.if_ne (33) 59 (by decide +kernel) (fun c3 => ?_) (fun c3 => ?_)
      · have H := H.1 c3
        refine XA.blk (e9 := 76) (ok := true) (ls' := [some (.ref 0), some (.int x1), some (.int x2)]) (st' := [.int x1, .ref 14, .ref 10, .ref 3, .ref 77]) (h' := hs σ) [(.aload_n 0, 1, 0, 0, 0, 0, 0, 0), (.getfield 56, 3, 10, 6, 78, 404, 0, 0), (.aload_n 0, 1, 0, 0, 0, 0, 0, 0), (.getfield 19, 3, 10, 1, 4, 399, 0, 0), (.aload_n 0, 1, 0, 0, 0, 0, 0, 0), (.getfield 26, 3, 10, 2, 11, 400, 0, 0), (.aload_n 0, 1, 0, 0, 0, 0, 0, 0), (.getfield 33, 3, 10, 3, 15, 401, 0, 0), (.iload_n 1, 1, 1, 0, 0, 0, 0, 0)] (by decide +kernel) rfl rfl ?_
        refine XA.callV (as := [.ref 3, .ref 10, .ref 14, .int x1]) (rest := []) (mc' := 0) (ms' := 0) (idx := 215) (t := 767) cv_X2_tryWeights (by decide +kernel) rfl rfl rfl (Nat.le_of_ble_eq_true rfl) (Nat.le_of_ble_eq_true rfl) (Nat.le_of_ble_eq_true rfl) (Nat.le_of_ble_eq_true rfl) (H) (fun rv h' hp => ?_)
        obtain ⟨s9, rfl, rfl, hK⟩ := hp
        exact ⟨rfl, rfl, XA.drop (by simp [leL]) hK⟩
      · have H := H.2 c3
        refine XA.blk (e9 := 46) (ok := true) (ls' := [some (.ref 0), some (.int x1), some (.int x2)]) (st' := [.int x1, .ref 14, .ref 10, .ref 3, .ref 77]) (h' := hs σ) [(.aload_n 0, 1, 0, 0, 0, 0, 0, 0), (.getfield 56, 3, 10, 6, 78, 404, 0, 0), (.aload_n 0, 1, 0, 0, 0, 0, 0, 0), (.getfield 19, 3, 10, 1, 4, 399, 0, 0), (.aload_n 0, 1, 0, 0, 0, 0, 0, 0), (.getfield 26, 3, 10, 2, 11, 400, 0, 0), (.aload_n 0, 1, 0, 0, 0, 0, 0, 0), (.getfield 33, 3, 10, 3, 15, 401, 0, 0), (.iload_n 1, 1, 1, 0, 0, 0, 0, 0)] (by decide +kernel) rfl rfl ?_
        refine XA.callV (as := [.ref 3, .ref 10, .ref 14, .int x1]) (rest := []) (mc' := 0) (ms' := 0) (idx := 208) (t := 751) cv_X2_tryStrengths (by decide +kernel) rfl rfl rfl (Nat.le_of_ble_eq_true rfl) (Nat.le_of_ble_eq_true rfl) (Nat.le_of_ble_eq_true rfl) (Nat.le_of_ble_eq_true rfl) (H) (fun rv h' hp => ?_)
        obtain ⟨s9, rfl, rfl, hK⟩ := hp
        exact ⟨rfl, rfl, XA.drop (by simp [leL]) hK⟩
    · have H := H.2 c2
      refine XA.blk (e9 := 24) (ok := true) (ls' := [some (.ref 0), some (.int x1), some (.int x2)]) (st' := [.int (-2)]) (h' := hs σ) [(.bipush (-2), 2, 0, 0, 0, 0, (-2), 0)] (by decide +kernel) rfl rfl ?_
      exact XA.ret (some (.int (-2))) rfl (show ckRt mX10_was 24 .ireturn = true by decide +kernel) trivial (Nat.le_of_ble_eq_true rfl) (Nat.le_of_ble_eq_true rfl) ⟨_, _, rfl, rfl, H⟩
set_option maxRecDepth 20000 in
theorem W_X10_was_49 {scr : ScA}   {x1 : Int32}  {σ : Nat → Nat → Int32} {P : Int32 → (Nat → Nat → Int32) → Prop} (H : (inB x1 10 = true) ∧ (P (σ 92 (Int32.toNatClampNeg x1)) σ)) : K_X10_was_49 scr x1 σ P := by
  show XA scr 5 mX10_was 172 4705 49 [some (.ref 0), some (.int x1), none] [] (hs σ) (pI P)
  obtain ⟨o1, H⟩ := H
  refine XA.blk (e9 := 58) (ok := inB x1 10 && (true)) (ls' := [some (.ref 0), some (.int x1), none]) (st' := [.int (σ 92 (Int32.toNatClampNeg x1))]) (h' := hs σ) [(.aload_n 0, 1, 0, 0, 0, 0, 0, 0), (.getfield 56, 3, 10, 6, 78, 404, 0, 0), (.getfield 212, 3, 2, 2, 16, 329, 0, 0), (.iload_n 1, 1, 1, 0, 0, 0, 0, 0), (.iaload, 1, 0, 0, 0, 0, 0, 0)] (by decide +kernel) rfl (by simp only [o1, Bool.and_true, Bool.true_and]) ?_
  exact XA.ret (some (.int (σ 92 (Int32.toNatClampNeg x1)))) rfl (show ckRt mX10_was 58 .ireturn = true by decide +kernel) trivial (Nat.le_of_ble_eq_true rfl) (Nat.le_of_ble_eq_true rfl) ⟨_, _, rfl, rfl, H⟩
set_option maxRecDepth 20000 in
theorem W_X10_was_79 {scr : ScA}   {x1 : Int32}  {σ : Nat → Nat → Int32} {P : Int32 → (Nat → Nat → Int32) → Prop} (H : (inB x1 10 = true) ∧ (P (σ 93 (Int32.toNatClampNeg x1)) σ)) : K_X10_was_79 scr x1 σ P := by
  show XA scr 5 mX10_was 172 4705 79 [some (.ref 0), some (.int x1), none] [] (hs σ) (pI P)
  obtain ⟨o1, H⟩ := H
  refine XA.blk (e9 := 88) (ok := inB x1 10 && (true)) (ls' := [some (.ref 0), some (.int x1), none]) (st' := [.int (σ 93 (Int32.toNatClampNeg x1))]) (h' := hs σ) [(.aload_n 0, 1, 0, 0, 0, 0, 0, 0), (.getfield 56, 3, 10, 6, 78, 404, 0, 0), (.getfield 218, 3, 2, 3, 17, 331, 0, 0), (.iload_n 1, 1, 1, 0, 0, 0, 0, 0), (.iaload, 1, 0, 0, 0, 0, 0, 0)] (by decide +kernel) rfl (by simp only [o1, Bool.and_true, Bool.true_and]) ?_
  exact XA.ret (some (.int (σ 93 (Int32.toNatClampNeg x1)))) rfl (show ckRt mX10_was 88 .ireturn = true by decide +kernel) trivial (Nat.le_of_ble_eq_true rfl) (Nat.le_of_ble_eq_true rfl) ⟨_, _, rfl, rfl, H⟩
theorem E_X10_was {scr : ScA}  {x1 : Int32} {x2 : Int32} {σ : Nat → Nat → Int32} {P : Int32 → (Nat → Nat → Int32) → Prop} (h : K_X10_was_0 scr x1 x2 σ P) : CiA scr 5 mX10_was [.ref 0, .int x1, .int x2] σ P := CtA.of (by decide) (Nat.le_of_ble_eq_true rfl) (XA.drop (by simp [leL, enL]) h)
def K_X10_ask_0 (scr : ScA)  (x1 : Int32) (σ : Nat → Nat → Int32) (P : Int32 → (Nat → Nat → Int32) → Prop) : Prop := XA scr 5 mX10_ask 172 4705 0 [some (.ref 0), some (.int x1)] [] (hs σ) (pI P)
def K_X10_ask_37 (scr : ScA)  (x1 : Int32) (σ : Nat → Nat → Int32) (P : Int32 → (Nat → Nat → Int32) → Prop) : Prop := XA scr 5 mX10_ask 172 4705 37 [some (.ref 0), some (.int x1)] [] (hs σ) (pI P)
set_option maxRecDepth 20000 in
theorem W_X10_ask_0 {scr : ScA}   {x1 : Int32}  {σ : Nat → Nat → Int32} {P : Int32 → (Nat → Nat → Int32) → Prop} (H : (¬ (isW x1 (σ 3 6)) = 0 → CvA scr 4 mX2_tryStrengths [.ref 77, .ref 3, .ref 10, .ref 14, .int x1] σ (fun σ' => K_X10_ask_37 scr x1 σ' P)) ∧ ((isW x1 (σ 3 6)) = 0 → P (-2) σ)) : K_X10_ask_0 scr x1 σ P := by
  show XA scr 5 mX10_ask 172 4705 0 [some (.ref 0), some (.int x1)] [] (hs σ) (pI P)
  refine XA.blk (e9 := 8) (ok := true) (ls' := [some (.ref 0), some (.int x1)]) (st' := [.int (σ 3 6), .int x1]) (h' := hs σ) [(.iload_n 1, 1, 1, 0, 0, 0, 0, 0), (.aload_n 0, 1, 0, 0, 0, 0, 0, 0), (.getfield 19, 3, 10, 1, 4, 399, 0, 0), (.getfield 98, 3, 8, 6, 0, 143, 0, 0)] (by decide +kernel) rfl rfl ?_
  refine XA.callS (as := [.int x1, .int (σ 3 6)]) (rest := []) (mc' := 0) (ms' := 0) (idx := 84) (t := 445) cs_X10_isWithin (by decide +kernel) rfl rfl (Nat.le_of_ble_eq_true rfl) (Nat.le_of_ble_eq_true rfl) (Nat.le_of_ble_eq_true rfl) (Nat.le_of_ble_eq_true rfl) (pu_X10_isWithin scr σ x1 (σ 3 6)) (fun rv h' hp => ?_)
  obtain ⟨rfl, rfl⟩ := hp
  refine ⟨rfl, rfl, ?_⟩
  show XA scr 5 mX10_ask 172 4705 11 [some (.ref 0), some (.int x1)] [.int (isW x1 (σ 3 6))] (hs σ) (pI P)
  refine XA.if_ne (6) 17 (by decide +kernel) (fun c1 => ?_) (fun c1 => ?_)
  · have H := H.1 c1
    refine XA.blk (e9 := 34) (ok := true) (ls' := [some (.ref 0), some (.int x1)]) (st' := [.int x1, .ref 14, .ref 10, .ref 3, .ref 77]) (h' := hs σ) [(.aload_n 0, 1, 0, 0, 0, 0, 0, 0), (.getfield 56, 3, 10, 6, 78, 404, 0, 0), (.aload_n 0, 1, 0, 0, 0, 0, 0, 0), (.getfield 19, 3, 10, 1, 4, 399, 0, 0), (.aload_n 0, 1, 0, 0, 0, 0, 0, 0), (.getfield 26, 3, 10, 2, 11, 400, 0, 0), (.aload_n 0, 1, 0, 0, 0, 0, 0, 0), (.getfield 33, 3, 10, 3, 15, 401, 0, 0), (.iload_n 1, 1, 1, 0, 0, 0, 0, 0)] (by decide +kernel) rfl rfl ?_
    refine XA.callV (as := [.ref 3, .ref 10, .ref 14, .int x1]) (rest := []) (mc' := 0) (ms' := 0) (idx := 208) (t := 751) cv_X2_tryStrengths (by decide +kernel) rfl rfl rfl (Nat.le_of_ble_eq_true rfl) (Nat.le_of_ble_eq_true rfl) (Nat.le_of_ble_eq_true rfl) (Nat.le_of_ble_eq_true rfl) (H) (fun rv h' hp => ?_)
    obtain ⟨s9, rfl, rfl, hK⟩ := hp
    exact ⟨rfl, rfl, hK⟩
  · have H := H.2 c1
    refine XA.blk (e9 := 16) (ok := true) (ls' := [some (.ref 0), some (.int x1)]) (st' := [.int (-2)]) (h' := hs σ) [(.bipush (-2), 2, 0, 0, 0, 0, (-2), 0)] (by decide +kernel) rfl rfl ?_
    exact XA.ret (some (.int (-2))) rfl (show ckRt mX10_ask 16 .ireturn = true by decide +kernel) trivial (Nat.le_of_ble_eq_true rfl) (Nat.le_of_ble_eq_true rfl) ⟨_, _, rfl, rfl, H⟩
set_option maxRecDepth 20000 in
theorem W_X10_ask_37 {scr : ScA}   {x1 : Int32}  {σ : Nat → Nat → Int32} {P : Int32 → (Nat → Nat → Int32) → Prop} (H : (inB x1 10 = true) ∧ (P (σ 94 (Int32.toNatClampNeg x1)) σ)) : K_X10_ask_37 scr x1 σ P := by
  show XA scr 5 mX10_ask 172 4705 37 [some (.ref 0), some (.int x1)] [] (hs σ) (pI P)
  obtain ⟨o1, H⟩ := H
  refine XA.blk (e9 := 46) (ok := inB x1 10 && (true)) (ls' := [some (.ref 0), some (.int x1)]) (st' := [.int (σ 94 (Int32.toNatClampNeg x1))]) (h' := hs σ) [(.aload_n 0, 1, 0, 0, 0, 0, 0, 0), (.getfield 56, 3, 10, 6, 78, 404, 0, 0), (.getfield 221, 3, 2, 4, 18, 333, 0, 0), (.iload_n 1, 1, 1, 0, 0, 0, 0, 0), (.iaload, 1, 0, 0, 0, 0, 0, 0)] (by decide +kernel) rfl (by simp only [o1, Bool.and_true, Bool.true_and]) ?_
  exact XA.ret (some (.int (σ 94 (Int32.toNatClampNeg x1)))) rfl (show ckRt mX10_ask 46 .ireturn = true by decide +kernel) trivial (Nat.le_of_ble_eq_true rfl) (Nat.le_of_ble_eq_true rfl) ⟨_, _, rfl, rfl, H⟩
theorem E_X10_ask {scr : ScA}  {x1 : Int32} {σ : Nat → Nat → Int32} {P : Int32 → (Nat → Nat → Int32) → Prop} (h : K_X10_ask_0 scr x1 σ P) : CiA scr 5 mX10_ask [.ref 0, .int x1] σ P := CtA.of (by decide) (Nat.le_of_ble_eq_true rfl) (XA.drop (by simp [leL, enL]) h)
