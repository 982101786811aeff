def K_X1_drawByLot_0 (scr : ScA) (v : Nat) (x1 : Int32) (x2 : Int32) (x3 : Int32) (σ : Nat → Nat → Int32) (P : (Nat → Nat → Int32) → Prop) : Prop := XA scr 1 mX1_drawByLot 172 4705 0 [some (.ref v), some (.int x1), some (.int x2), some (.int x3), none, none, none, none] [] (hs σ) (pV P)
def K_X1_drawByLot_16 (scr : ScA) (v : Nat) (x2 : Int32) (x3 : Int32) (x4 : Int32) (x5 : Int32) (σ : Nat → Nat → Int32) (P : (Nat → Nat → Int32) → Prop) : Prop := XA scr 1 mX1_drawByLot 172 4705 16 [some (.ref v), none, some (.int x2), some (.int x3), some (.int x4), some (.int x5), none, none] [] (hs σ) (pV P)
def K_X1_drawByLot_77 (scr : ScA) (v : Nat) (x2 : Int32) (x3 : Int32) (x4 : Int32) (x5 : Int32) (σ : Nat → Nat → Int32) (P : (Nat → Nat → Int32) → Prop) : Prop := XA scr 1 mX1_drawByLot 172 4705 77 [some (.ref v), none, some (.int x2), some (.int x3), some (.int x4), some (.int x5), none, none] [] (hs σ) (pV P)
set_option maxRecDepth 20000 in
theorem W_X1_drawByLot_0 {scr : ScA} {v : Nat} (hv : isEv v) {x1 : Int32} {x2 : Int32} {x3 : Int32}  {σ : Nat → Nat → Int32} {P : (Nat → Nat → Int32) → Prop} (H : ∀ σ1, σ1 = (su σ v 3 0) → (0 < x3 → K_X1_drawByLot_16 scr v x2 x3 x1 0 σ1 P) ∧ (¬ 0 < x3 → P σ1)) : K_X1_drawByLot_0 scr v x1 x2 x3 σ P := by
  show XA scr 1 mX1_drawByLot 172 4705 0 [some (.ref v), some (.int x1), some (.int x2), some (.int x3), none, none, none, none] [] (hs σ) (pV P)
  refine XA.blk (e9 := 5) (ok := kO 172 S0 v 1 && (true)) (ls' := [some (.ref v), some (.int x1), some (.int x2), some (.int x3), none, none, none, none]) (st' := []) (h' := hs (su σ v 3 0)) [(.aload_n 0, 1, 0, 0, 0, 0, 0, 0), (.iconst 0, 1, 0, 0, 0, 0, 0, 0), (.putfield 21, 3, 1, 3, 0, 171, 0, 0)] (by decide +kernel) rfl (by simp only [evO hv, Bool.and_true, Bool.true_and]) ?_
  obtain ⟨σ1, hσ1⟩ : ∃ s9, s9 = (su σ v 3 0) := ⟨_, rfl⟩
  rw [← hσ1]
  have H := H σ1 hσ1
  refine XA.blk (e9 := 6) (ok := true) (ls' := [some (.ref v), some (.int x1), some (.int x2), some (.int x3), none, none, none, none]) (st' := [.int x3]) (h' := hs σ1) [(.iload_n 3, 1, 3, 0, 0, 0, 0, 0)] (by decide +kernel) rfl rfl ?_
  refine XA.if_gt (4) 10 (by decide +kernel) (fun c1 => ?_) (fun c1 => ?_)
  · have H := H.1 c1
    refine XA.blk (e9 := 16) (ok := true) (ls' := [some (.ref v), some (.int x1), some (.int x2), some (.int x3), some (.int x1), some (.int 0), none, none]) (st' := []) (h' := hs σ1) [(.iload_n 1, 1, 1, 0, 0, 0, 0, 0), (.istore 4, 2, 4, 0, 0, 0, 0, 0), (.iconst 0, 1, 0, 0, 0, 0, 0, 0), (.istore 5, 2, 5, 0, 0, 0, 0, 0)] (by decide +kernel) rfl rfl ?_
    exact XA.drop (by simp [leL]) H
  · have H := H.2 c1
    exact XA.ret none rfl (show ckRt mX1_drawByLot 9 .return_ = true by decide +kernel) trivial (Nat.le_of_ble_eq_true rfl) (Nat.le_of_ble_eq_true rfl) ⟨_, rfl, rfl, H⟩
set_option maxRecDepth 20000 in
theorem W_X1_drawByLot_16 {scr : ScA} {v : Nat} (hv : isEv v) {x2 : Int32} {x3 : Int32} {x4 : Int32} {x5 : Int32}  {σ : Nat → Nat → Int32} {P : (Nat → Nat → Int32) → Prop} (H : (x2 ≤ x5 → P σ) ∧ (¬ x2 ≤ x5 → (¬ x3 = 0) ∧ (CvA scr 0 mX1_add [.ref v, .int (((((1103515245 * x4) + 12345).toUInt32 >>> ((16 : Int32).toUInt32 &&& Int32.toUInt32 31)).toInt32) - ((((1103515245 * x4) + 12345).toUInt32 >>> ((16 : Int32).toUInt32 &&& Int32.toUInt32 31)).toInt32) / 3 * 3), .int (((((1103515245 * ((1103515245 * x4) + 12345)) + 12345).toUInt32 >>> ((16 : Int32).toUInt32 &&& Int32.toUInt32 31)).toInt32) - ((((1103515245 * ((1103515245 * x4) + 12345)) + 12345).toUInt32 >>> ((16 : Int32).toUInt32 &&& Int32.toUInt32 31)).toInt32) / 24 * 24), .int (((((1103515245 * ((1103515245 * ((1103515245 * x4) + 12345)) + 12345)) + 12345).toUInt32 >>> ((16 : Int32).toUInt32 &&& Int32.toUInt32 31)).toInt32) - ((((1103515245 * ((1103515245 * ((1103515245 * x4) + 12345)) + 12345)) + 12345).toUInt32 >>> ((16 : Int32).toUInt32 &&& Int32.toUInt32 31)).toInt32) / x3 * x3)] σ (fun σ' => K_X1_drawByLot_77 scr v x2 x3 ((1103515245 * ((1103515245 * ((1103515245 * x4) + 12345)) + 12345)) + 12345) x5 σ' P)))) : K_X1_drawByLot_16 scr v x2 x3 x4 x5 σ P := by
  show XA scr 1 mX1_drawByLot 172 4705 16 [some (.ref v), none, some (.int x2), some (.int x3), some (.int x4), some (.int x5), none, none] [] (hs σ) (pV P)
  refine XA.blk (e9 := 19) (ok := true) (ls' := [some (.ref v), none, some (.int x2), some (.int x3), some (.int x4), some (.int x5), none, none]) (st' := [.int x2, .int x5]) (h' := hs σ) [(.iload 5, 2, 5, 0, 0, 0, 0, 0), (.iload_n 2, 1, 2, 0, 0, 0, 0, 0)] (by decide +kernel) rfl rfl ?_
  refine XA.icmp_ge (64) 83 (by decide +kernel) (fun c1 => ?_) (fun c1 => ?_)
  · have H := H.1 c1
    exact XA.ret none rfl (show ckRt mX1_drawByLot 83 .return_ = true by decide +kernel) trivial (Nat.le_of_ble_eq_true rfl) (Nat.le_of_ble_eq_true rfl) ⟨_, rfl, rfl, H⟩
  · have H := H.2 c1
    refine XA.blk (e9 := 24) (ok := true) (ls' := [some (.ref v), none, some (.int x2), some (.int x3), some (.int x4), some (.int x5), none, none]) (st' := [.int x4]) (h' := hs σ) [(.iload 4, 2, 4, 0, 0, 0, 0, 0)] (by decide +kernel) rfl rfl ?_
    refine XA.callS (as := [.int x4]) (rest := []) (mc' := 0) (ms' := 0) (idx := 25) (t := 797) cs_X1_following (by decide +kernel) rfl rfl (Nat.le_of_ble_eq_true rfl) (Nat.le_of_ble_eq_true rfl) (Nat.le_of_ble_eq_true rfl) (Nat.le_of_ble_eq_true rfl) (pu_X1_following scr σ x4) (fun rv h' hp => ?_)
    obtain ⟨rfl, rfl⟩ := hp
    refine ⟨rfl, rfl, ?_⟩
    show XA scr 1 mX1_drawByLot 172 4705 27 [some (.ref v), none, some (.int x2), some (.int x3), some (.int x4), some (.int x5), none, none] [.int ((1103515245 * x4) + 12345)] (hs σ) (pV P)
    refine XA.blk (e9 := 40) (ok := true) (ls' := [some (.ref v), none, some (.int x2), some (.int x3), some (.int ((1103515245 * x4) + 12345)), some (.int x5), some (.int (((((1103515245 * x4) + 12345).toUInt32 >>> ((16 : Int32).toUInt32 &&& Int32.toUInt32 31)).toInt32) - ((((1103515245 * x4) + 12345).toUInt32 >>> ((16 : Int32).toUInt32 &&& Int32.toUInt32 31)).toInt32) / 3 * 3)), none]) (st' := [.int ((1103515245 * x4) + 12345)]) (h' := hs σ) [(.istore 4, 2, 4, 0, 0, 0, 0, 0), (.iload 4, 2, 4, 0, 0, 0, 0, 0), (.bipush 16, 2, 0, 0, 0, 0, 16, 0), (.iushr, 1, 0, 0, 0, 0, 0, 0), (.iconst 3, 1, 0, 0, 0, 0, 3, 0), (.irem, 1, 0, 0, 0, 0, 0, 0), (.istore 6, 2, 6, 0, 0, 0, 0, 0), (.iload 4, 2, 4, 0, 0, 0, 0, 0)] (by decide +kernel) rfl rfl ?_
    refine XA.callS (as := [.int ((1103515245 * x4) + 12345)]) (rest := []) (mc' := 0) (ms' := 0) (idx := 25) (t := 797) cs_X1_following (by decide +kernel) rfl rfl (Nat.le_of_ble_eq_true rfl) (Nat.le_of_ble_eq_true rfl) (Nat.le_of_ble_eq_true rfl) (Nat.le_of_ble_eq_true rfl) (pu_X1_following scr σ ((1103515245 * x4) + 12345)) (fun rv h' hp => ?_)
    obtain ⟨rfl, rfl⟩ := hp
    refine ⟨rfl, rfl, ?_⟩
    show XA scr 1 mX1_drawByLot 172 4705 43 [some (.ref v), none, some (.int x2), some (.int x3), some (.int ((1103515245 * x4) + 12345)), some (.int x5), some (.int (((((1103515245 * x4) + 12345).toUInt32 >>> ((16 : Int32).toUInt32 &&& Int32.toUInt32 31)).toInt32) - ((((1103515245 * x4) + 12345).toUInt32 >>> ((16 : Int32).toUInt32 &&& Int32.toUInt32 31)).toInt32) / 3 * 3)), none] [.int ((1103515245 * ((1103515245 * x4) + 12345)) + 12345)] (hs σ) (pV P)
    refine XA.blk (e9 := 57) (ok := true) (ls' := [some (.ref v), none, some (.int x2), some (.int x3), some (.int ((1103515245 * ((1103515245 * x4) + 12345)) + 12345)), some (.int x5), some (.int (((((1103515245 * x4) + 12345).toUInt32 >>> ((16 : Int32).toUInt32 &&& Int32.toUInt32 31)).toInt32) - ((((1103515245 * x4) + 12345).toUInt32 >>> ((16 : Int32).toUInt32 &&& Int32.toUInt32 31)).toInt32) / 3 * 3)), some (.int (((((1103515245 * ((1103515245 * x4) + 12345)) + 12345).toUInt32 >>> ((16 : Int32).toUInt32 &&& Int32.toUInt32 31)).toInt32) - ((((1103515245 * ((1103515245 * x4) + 12345)) + 12345).toUInt32 >>> ((16 : Int32).toUInt32 &&& Int32.toUInt32 31)).toInt32) / 24 * 24))]) (st' := [.int ((1103515245 * ((1103515245 * x4) + 12345)) + 12345)]) (h' := hs σ) [(.istore 4, 2, 4, 0, 0, 0, 0, 0), (.iload 4, 2, 4, 0, 0, 0, 0, 0), (.bipush 16, 2, 0, 0, 0, 0, 16, 0), (.iushr, 1, 0, 0, 0, 0, 0, 0), (.bipush 24, 2, 0, 0, 0, 0, 24, 0), (.irem, 1, 0, 0, 0, 0, 0, 0), (.istore 7, 2, 7, 0, 0, 0, 0, 0), (.iload 4, 2, 4, 0, 0, 0, 0, 0)] (by decide +kernel) rfl rfl ?_
    refine XA.callS (as := [.int ((1103515245 * ((1103515245 * x4) + 12345)) + 12345)]) (rest := []) (mc' := 0) (ms' := 0) (idx := 25) (t := 797) cs_X1_following (by decide +kernel) rfl rfl (Nat.le_of_ble_eq_true rfl) (Nat.le_of_ble_eq_true rfl) (Nat.le_of_ble_eq_true rfl) (Nat.le_of_ble_eq_true rfl) (pu_X1_following scr σ ((1103515245 * ((1103515245 * x4) + 12345)) + 12345)) (fun rv h' hp => ?_)
    obtain ⟨rfl, rfl⟩ := hp
    refine ⟨rfl, rfl, ?_⟩
    show XA scr 1 mX1_drawByLot 172 4705 60 [some (.ref v), none, some (.int x2), some (.int x3), some (.int ((1103515245 * ((1103515245 * x4) + 12345)) + 12345)), some (.int x5), some (.int (((((1103515245 * x4) + 12345).toUInt32 >>> ((16 : Int32).toUInt32 &&& Int32.toUInt32 31)).toInt32) - ((((1103515245 * x4) + 12345).toUInt32 >>> ((16 : Int32).toUInt32 &&& Int32.toUInt32 31)).toInt32) / 3 * 3)), some (.int (((((1103515245 * ((1103515245 * x4) + 12345)) + 12345).toUInt32 >>> ((16 : Int32).toUInt32 &&& Int32.toUInt32 31)).toInt32) - ((((1103515245 * ((1103515245 * x4) + 12345)) + 12345).toUInt32 >>> ((16 : Int32).toUInt32 &&& Int32.toUInt32 31)).toInt32) / 24 * 24))] [.int ((1103515245 * ((1103515245 * ((1103515245 * x4) + 12345)) + 12345)) + 12345)] (hs σ) (pV P)
    obtain ⟨o1, H⟩ := H
    refine XA.blk (e9 := 74) (ok := decide (¬ x3 = 0) && (true)) (ls' := [some (.ref v), none, some (.int x2), some (.int x3), some (.int ((1103515245 * ((1103515245 * ((1103515245 * x4) + 12345)) + 12345)) + 12345)), some (.int x5), some (.int (((((1103515245 * x4) + 12345).toUInt32 >>> ((16 : Int32).toUInt32 &&& Int32.toUInt32 31)).toInt32) - ((((1103515245 * x4) + 12345).toUInt32 >>> ((16 : Int32).toUInt32 &&& Int32.toUInt32 31)).toInt32) / 3 * 3)), some (.int (((((1103515245 * ((1103515245 * x4) + 12345)) + 12345).toUInt32 >>> ((16 : Int32).toUInt32 &&& Int32.toUInt32 31)).toInt32) - ((((1103515245 * ((1103515245 * x4) + 12345)) + 12345).toUInt32 >>> ((16 : Int32).toUInt32 &&& Int32.toUInt32 31)).toInt32) / 24 * 24))]) (st' := [.int (((((1103515245 * ((1103515245 * ((1103515245 * x4) + 12345)) + 12345)) + 12345).toUInt32 >>> ((16 : Int32).toUInt32 &&& Int32.toUInt32 31)).toInt32) - ((((1103515245 * ((1103515245 * ((1103515245 * x4) + 12345)) + 12345)) + 12345).toUInt32 >>> ((16 : Int32).toUInt32 &&& Int32.toUInt32 31)).toInt32) / x3 * x3), .int (((((1103515245 * ((1103515245 * x4) + 12345)) + 12345).toUInt32 >>> ((16 : Int32).toUInt32 &&& Int32.toUInt32 31)).toInt32) - ((((1103515245 * ((1103515245 * x4) + 12345)) + 12345).toUInt32 >>> ((16 : Int32).toUInt32 &&& Int32.toUInt32 31)).toInt32) / 24 * 24), .int (((((1103515245 * x4) + 12345).toUInt32 >>> ((16 : Int32).toUInt32 &&& Int32.toUInt32 31)).toInt32) - ((((1103515245 * x4) + 12345).toUInt32 >>> ((16 : Int32).toUInt32 &&& Int32.toUInt32 31)).toInt32) / 3 * 3), .ref v]) (h' := hs σ) [(.istore 4, 2, 4, 0, 0, 0, 0, 0), (.aload_n 0, 1, 0, 0, 0, 0, 0, 0), (.iload 6, 2, 6, 0, 0, 0, 0, 0), (.iload 7, 2, 7, 0, 0, 0, 0, 0), (.iload 4, 2, 4, 0, 0, 0, 0, 0), (.bipush 16, 2, 0, 0, 0, 0, 16, 0), (.iushr, 1, 0, 0, 0, 0, 0, 0), (.iload_n 3, 1, 3, 0, 0, 0, 0, 0), (.irem, 1, 0, 0, 0, 0, 0, 0)] (by decide +kernel) rfl (by simp only [decide_eq_true o1, Bool.and_true, Bool.true_and]) ?_
    refine XA.callV (as := [.int (((((1103515245 * x4) + 12345).toUInt32 >>> ((16 : Int32).toUInt32 &&& Int32.toUInt32 31)).toInt32) - ((((1103515245 * x4) + 12345).toUInt32 >>> ((16 : Int32).toUInt32 &&& Int32.toUInt32 31)).toInt32) / 3 * 3), .int (((((1103515245 * ((1103515245 * x4) + 12345)) + 12345).toUInt32 >>> ((16 : Int32).toUInt32 &&& Int32.toUInt32 31)).toInt32) - ((((1103515245 * ((1103515245 * x4) + 12345)) + 12345).toUInt32 >>> ((16 : Int32).toUInt32 &&& Int32.toUInt32 31)).toInt32) / 24 * 24), .int (((((1103515245 * ((1103515245 * ((1103515245 * x4) + 12345)) + 12345)) + 12345).toUInt32 >>> ((16 : Int32).toUInt32 &&& Int32.toUInt32 31)).toInt32) - ((((1103515245 * ((1103515245 * ((1103515245 * x4) + 12345)) + 12345)) + 12345).toUInt32 >>> ((16 : Int32).toUInt32 &&& Int32.toUInt32 31)).toInt32) / x3 * x3)]) (rest := []) (mc' := 0) (ms' := 0) (idx := 29) (t := 801) cv_X1_add (by decide +kernel) (evO hv) rfl rfl (Nat.le_of_ble_eq_true rfl) (Nat.le_of_ble_eq_true rfl) (Nat.le_of_ble_eq_true rfl) (Nat.le_of_ble_eq_true rfl) (H) (fun rv h' hp => ?_)
    obtain ⟨s9, rfl, rfl, hK⟩ := hp
    exact ⟨rfl, rfl, XA.drop (by simp [leL]) hK⟩
set_option maxRecDepth 20000 in
theorem W_X1_drawByLot_77 {scr : ScA} {v : Nat} (hv : isEv v) {x2 : Int32} {x3 : Int32} {x4 : Int32} {x5 : Int32}  {σ : Nat → Nat → Int32} {P : (Nat → Nat → Int32) → Prop} (H : K_X1_drawByLot_16 scr v x2 x3 x4 (x5 + 1) σ P) : K_X1_drawByLot_77 scr v x2 x3 x4 x5 σ P := by
  show XA scr 1 mX1_drawByLot 172 4705 77 [some (.ref v), none, some (.int x2), some (.int x3), some (.int x4), some (.int x5), none, none] [] (hs σ) (pV P)
  refine XA.blk (e9 := 16) (ok := true) (ls' := [some (.ref v), none, some (.int x2), some (.int x3), some (.int x4), some (.int (x5 + 1)), none, none]) (st' := []) (h' := hs σ) [(.iinc 5 1, 3, 5, 0, 0, 0, 1, 0), (.goto (-64), 3, 16, 0, 0, 0, 0, 0)] (by decide +kernel) rfl rfl ?_
  exact H
theorem E_X1_drawByLot {scr : ScA} {v : Nat} {x1 : Int32} {x2 : Int32} {x3 : Int32} {σ : Nat → Nat → Int32} {P : (Nat → Nat → Int32) → Prop} (h : K_X1_drawByLot_0 scr v x1 x2 x3 σ P) : CvA scr 1 mX1_drawByLot [.ref v, .int x1, .int x2, .int x3] σ P := CtA.of (by decide) (Nat.le_of_ble_eq_true rfl) (XA.drop (by simp [leL, enL]) h)
def K_X4_renew_0 (scr : ScA) (k : Nat) (x1 : Int32) (x2 : Int32) (σ : Nat → Nat → Int32) (P : (Nat → Nat → Int32) → Prop) : Prop := XA scr 1 mX4_renew 172 4705 0 [some (.ref k), some (.int x1), some (.int x2)] [] (hs σ) (pV P)
def K_X4_renew_8 (scr : ScA) (k : Nat) (x1 : Int32) (x2 : Int32) (σ : Nat → Nat → Int32) (P : (Nat → Nat → Int32) → Prop) : Prop := XA scr 1 mX4_renew 172 4705 8 [some (.ref k), some (.int x1), some (.int x2)] [] (hs σ) (pV P)
set_option maxRecDepth 20000 in
theorem W_X4_renew_0 {scr : ScA} {k : Nat} (hk : isSe k) {x1 : Int32} {x2 : Int32}  {σ : Nat → Nat → Int32} {P : (Nat → Nat → Int32) → Prop} (H : CvA scr 0 mJ7_fill_53178 [.ref (k + 1), .int 0] σ (fun σ' => K_X4_renew_8 scr k x1 x2 σ' P)) : K_X4_renew_0 scr k x1 x2 σ P := by
  show XA scr 1 mX4_renew 172 4705 0 [some (.ref k), some (.int x1), some (.int x2)] [] (hs σ) (pV P)
  refine XA.blk (e9 := 5) (ok := (kO 172 S0 k 4 && kR R0 k 0 (k + 1)) && (true)) (ls' := [some (.ref k), some (.int x1), some (.int x2)]) (st' := [.int 0, .ref (k + 1)]) (h' := hs σ) [(.aload_n 0, 1, 0, 0, 0, 0, 0, 0), (.getfield 9, 3, 4, 0, 2, 381, 0, 0), (.iconst 0, 1, 0, 0, 0, 0, 0, 0)] (by decide +kernel) rfl (by simp only [seO hk, seR0 hk, Bool.and_true, Bool.true_and]) ?_
  refine XA.callS (as := [.ref (k + 1), .int 0]) (rest := []) (mc' := 0) (ms' := 0) (idx := 19) (t := 810) cs_J7_fill_53178 (by decide +kernel) rfl rfl (Nat.le_of_ble_eq_true rfl) (Nat.le_of_ble_eq_true rfl) (Nat.le_of_ble_eq_true rfl) (Nat.le_of_ble_eq_true rfl) (H) (fun rv h' hp => ?_)
  obtain ⟨s9, rfl, rfl, hK⟩ := hp
  exact ⟨rfl, rfl, hK⟩
set_option maxRecDepth 20000 in
theorem W_X4_renew_8 {scr : ScA} {k : Nat} (hk : isSe k) {x1 : Int32} {x2 : Int32}  {σ : Nat → Nat → Int32} {P : (Nat → Nat → Int32) → Prop} (H : ∀ σ1, σ1 = (su σ k 1 x1) → ∀ σ2, σ2 = (su σ1 k 2 (if 0 < (if 60 < x2 then 60 else x2 : Int32) then (if 60 < x2 then 60 else x2 : Int32) else 0 : Int32)) → ∀ σ3, σ3 = (su σ2 k 3 0) → P σ3) : K_X4_renew_8 scr k x1 x2 σ P := by
  show XA scr 1 mX4_renew 172 4705 8 [some (.ref k), some (.int x1), some (.int x2)] [] (hs σ) (pV P)
  refine XA.blk (e9 := 13) (ok := kO 172 S0 k 4 && (true)) (ls' := [some (.ref k), some (.int x1), some (.int x2)]) (st' := []) (h' := hs (su σ k 1 x1)) [(.aload_n 0, 1, 0, 0, 0, 0, 0, 0), (.iload_n 1, 1, 1, 0, 0, 0, 0, 0), (.putfield 25, 3, 4, 1, 0, 383, 0, 0)] (by decide +kernel) rfl (by simp only [seO hk, Bool.and_true, Bool.true_and]) ?_
  obtain ⟨σ1, hσ1⟩ : ∃ s9, s9 = (su σ k 1 x1) := ⟨_, rfl⟩
  rw [← hσ1]
  have H := H σ1 hσ1
  refine XA.blk (e9 := 27) (ok := kO 172 S0 k 4 && (true)) (ls' := [some (.ref k), some (.int x1), some (.int x2)]) (st' := []) (h' := hs (su σ1 k 2 (if 0 < (if 60 < x2 then 60 else x2 : Int32) then (if 60 < x2 then 60 else x2 : Int32) else 0 : Int32))) [(.aload_n 0, 1, 0, 0, 0, 0, 0, 0), (.iconst 0, 1, 0, 0, 0, 0, 0, 0), (.iload_n 2, 1, 2, 0, 0, 0, 0, 0), (.bipush 60, 2, 0, 0, 0, 0, 60, 0), (.invokestatic 29, 3, 1, 0, 0, 811, 0, 0), (.invokestatic 35, 3, 0, 0, 0, 812, 0, 0), (.putfield 38, 3, 4, 2, 0, 385, 0, 0)] (by decide +kernel) rfl (by simp only [seO hk, Bool.and_true, Bool.true_and]) ?_
  obtain ⟨σ2, hσ2⟩ : ∃ s9, s9 = (su σ1 k 2 (if 0 < (if 60 < x2 then 60 else x2 : Int32) then (if 60 < x2 then 60 else x2 : Int32) else 0 : Int32)) := ⟨_, rfl⟩
  rw [← hσ2]
  have H := H σ2 hσ2
  refine XA.blk (e9 := 32) (ok := (kO 172 S0 k 4 && true) && (true)) (ls' := [some (.ref k), some (.int x1), some (.int x2)]) (st' := []) (h' := hs (su σ2 k 3 0)) [(.aload_n 0, 1, 0, 0, 0, 0, 0, 0), (.iconst 0, 1, 0, 0, 0, 0, 0, 0), (.putfield 15, 3, 4, 3, 2, 387, 0, 0)] (by decide +kernel) rfl (by simp only [seO hk, Bool.and_true, Bool.true_and]) ?_
  obtain ⟨σ3, hσ3⟩ : ∃ s9, s9 = (su σ2 k 3 0) := ⟨_, rfl⟩
  rw [← hσ3]
  have H := H σ3 hσ3
  exact XA.ret none rfl (show ckRt mX4_renew 32 .return_ = true by decide +kernel) trivial (Nat.le_of_ble_eq_true rfl) (Nat.le_of_ble_eq_true rfl) ⟨_, rfl, rfl, H⟩
theorem E_X4_renew {scr : ScA} {k : Nat} {x1 : Int32} {x2 : Int32} {σ : Nat → Nat → Int32} {P : (Nat → Nat → Int32) → Prop} (h : K_X4_renew_0 scr k x1 x2 σ P) : CvA scr 1 mX4_renew [.ref k, .int x1, .int x2] σ P := CtA.of (by decide) (Nat.le_of_ble_eq_true rfl) (XA.drop (by simp [leL, enL]) h)
def K_X4_setItem_0 (scr : ScA) (k : Nat) (x1 : Int32) (x2 : Int32) (σ : Nat → Nat → Int32) (P : (Nat → Nat → Int32) → Prop) : Prop := XA scr 1 mX4_setItem 172 4705 0 [some (.ref k), some (.int x1), some (.int x2)] [] (hs σ) (pV P)
set_option maxRecDepth 20000 in
theorem W_X4_setItem_0 {scr : ScA} {k : Nat} (hk : isSe k) {x1 : Int32} {x2 : Int32}  {σ : Nat → Nat → Int32} {P : (Nat → Nat → Int32) → Prop} (H : ((isW x1 60) = 0 → P σ) ∧ (¬ (isW x1 60) = 0 → (inB x1 60 = true) ∧ (∀ σ1, σ1 = (su σ (k + 1) (Int32.toNatClampNeg x1) (if ¬ (σ k 1) = 0 then (if ¬ (σ k 1) = 1 then x2 else (Int32.toInt16 x2).toInt32 : Int32) else (Int32.toInt8 x2).toInt32 : Int32)) → P σ1))) : K_X4_setItem_0 scr k x1 x2 σ P := by
  show XA scr 1 mX4_setItem 172 4705 0 [some (.ref k), some (.int x1), some (.int x2)] [] (hs σ) (pV P)
  refine XA.blk (e9 := 3) (ok := true) (ls' := [some (.ref k), some (.int x1), some (.int x2)]) (st' := [.int 60, .int x1]) (h' := hs σ) [(.iload_n 1, 1, 1, 0, 0, 0, 0, 0), (.bipush 60, 2, 0, 0, 0, 0, 60, 0)] (by decide +kernel) rfl rfl ?_
  refine XA.callS (as := [.int x1, .int 60]) (rest := []) (mc' := 0) (ms' := 0) (idx := 41) (t := 532) cs_X10_isWithin (by decide +kernel) rfl rfl (Nat.le_of_ble_eq_true rfl) (Nat.le_of_ble_eq_true rfl) (Nat.le_of_ble_eq_true rfl) (Nat.le_of_ble_eq_true rfl) (pu_X10_isWithin scr σ x1 60) (fun rv h' hp => ?_)
  obtain ⟨rfl, rfl⟩ := hp
  refine ⟨rfl, rfl, ?_⟩
  show XA scr 1 mX4_setItem 172 4705 6 [some (.ref k), some (.int x1), some (.int x2)] [.int (isW x1 60)] (hs σ) (pV P)
  refine XA.if_eq (35) 41 (by decide +kernel) (fun c1 => ?_) (fun c1 => ?_)
  · have H := H.1 c1
    exact XA.ret none rfl (show ckRt mX4_setItem 41 .return_ = true by decide +kernel) trivial (Nat.le_of_ble_eq_true rfl) (Nat.le_of_ble_eq_true rfl) ⟨_, rfl, rfl, H⟩
  · have H := H.2 c1
    refine XA.blk (e9 := 18) (ok := (kO 172 S0 k 4 && kR R0 k 0 (k + 1)) && (kO 172 S0 k 4 && (true))) (ls' := [some (.ref k), some (.int x1), some (.int x2)]) (st' := [.int (σ k 1), .int x1, .ref (k + 1)]) (h' := hs σ) [(.aload_n 0, 1, 0, 0, 0, 0, 0, 0), (.getfield 9, 3, 4, 0, 2, 381, 0, 0), (.iload_n 1, 1, 1, 0, 0, 0, 0, 0), (.aload_n 0, 1, 0, 0, 0, 0, 0, 0), (.getfield 25, 3, 4, 1, 0, 383, 0, 0)] (by decide +kernel) rfl (by simp only [seO hk, seR0 hk, Bool.and_true, Bool.true_and]) ?_
    have hJ18 : XA scr 1 mX4_setItem 172 4705 40 [none, none, none] [.int (if ¬ (σ k 1) = 0 then (if ¬ (σ k 1) = 1 then x2 else (Int32.toInt16 x2).toInt32 : Int32) else (Int32.toInt8 x2).toInt32 : Int32), .int x1, .ref (k + 1)] (hs σ) (pV P) := by
      obtain ⟨o1, H⟩ := H
      refine XA.blk (e9 := 41) (ok := kA 172 S0 (k + 1) 1 x1 && (true)) (ls' := [none, none, none]) (st' := []) (h' := hs (su σ (k + 1) (Int32.toNatClampNeg x1) (if ¬ (σ k 1) = 0 then (if ¬ (σ k 1) = 1 then x2 else (Int32.toInt16 x2).toInt32 : Int32) else (Int32.toInt8 x2).toInt32 : Int32))) [(.iastore, 1, 0, 0, 0, 0, 0, 0)] (by decide +kernel) rfl (by simp only [seA1 hk x1, o1, Bool.and_true, Bool.true_and]) ?_
      obtain ⟨σ1, hσ1⟩ : ∃ s9, s9 = (su σ (k + 1) (Int32.toNatClampNeg x1) (if ¬ (σ k 1) = 0 then (if ¬ (σ k 1) = 1 then x2 else (Int32.toInt16 x2).toInt32 : Int32) else (Int32.toInt8 x2).toInt32 : Int32)) := ⟨_, rfl⟩
      rw [← hσ1]
      have H := H σ1 hσ1
      exact XA.ret none rfl (show ckRt mX4_setItem 41 .return_ = true by decide +kernel) trivial (Nat.le_of_ble_eq_true rfl) (Nat.le_of_ble_eq_true rfl) ⟨_, rfl, rfl, H⟩
    refine XA.if_ne (8) 26 (by decide +kernel) (fun c2 => ?_) (fun c2 => ?_)
    · refine XA.blk (e9 := 31) (ok := kO 172 S0 k 4 && (true)) (ls' := [some (.ref k), some (.int x1), some (.int x2)]) (st' := [.int 1, .int (σ k 1), .int x1, .ref (k + 1)]) (h' := hs σ) [(.aload_n 0, 1, 0, 0, 0, 0, 0, 0), (.getfield 25, 3, 4, 1, 0, 383, 0, 0), (.iconst 1, 1, 0, 0, 0, 0, 1, 0)] (by decide +kernel) rfl (by simp only [seO hk, Bool.and_true, Bool.true_and]) ?_
      have hJ31 : XA scr 1 mX4_setItem 172 4705 40 [none, none, none] [.int (if ¬ (σ k 1) = 1 then x2 else (Int32.toInt16 x2).toInt32 : Int32), .int x1, .ref (k + 1)] (hs σ) (pV P) := by
        simpa only [if_pos c2] using hJ18
      refine XA.icmp_ne (8) 39 (by decide +kernel) (fun c3 => ?_) (fun c3 => ?_)
      · refine XA.blk (e9 := 40) (ok := true) (ls' := [some (.ref k), some (.int x1), some (.int x2)]) (st' := [.int x2, .int x1, .ref (k + 1)]) (h' := hs σ) [(.iload_n 2, 1, 2, 0, 0, 0, 0, 0)] (by decide +kernel) rfl rfl ?_
        refine XA.drop (ls := [none, none, none]) (by simp [leL]) ?_
        simpa only [if_pos c3] using hJ31
      · refine XA.blk (e9 := 40) (ok := true) (ls' := [some (.ref k), some (.int x1), some (.int x2)]) (st' := [.int ((Int32.toInt16 x2).toInt32), .int x1, .ref (k + 1)]) (h' := hs σ) [(.iload_n 2, 1, 2, 0, 0, 0, 0, 0), (.i2s, 1, 0, 0, 0, 0, 0, 0), (.goto 4, 3, 40, 0, 0, 0, 0, 0)] (by decide +kernel) rfl rfl ?_
        refine XA.drop (ls := [none, none, none]) (by simp [leL]) ?_
        simpa only [if_neg (not_not_intro c3)] using hJ31
    · refine XA.blk (e9 := 40) (ok := true) (ls' := [some (.ref k), some (.int x1), some (.int x2)]) (st' := [.int ((Int32.toInt8 x2).toInt32), .int x1, .ref (k + 1)]) (h' := hs σ) [(.iload_n 2, 1, 2, 0, 0, 0, 0, 0), (.i2b, 1, 0, 0, 0, 0, 0, 0), (.goto 17, 3, 40, 0, 0, 0, 0, 0)] (by decide +kernel) rfl rfl ?_
      refine XA.drop (ls := [none, none, none]) (by simp [leL]) ?_
      simpa only [if_neg (not_not_intro c2)] using hJ18
theorem E_X4_setItem {scr : ScA} {k : Nat} {x1 : Int32} {x2 : Int32} {σ : Nat → Nat → Int32} {P : (Nat → Nat → Int32) → Prop} (h : K_X4_setItem_0 scr k x1 x2 σ P) : CvA scr 1 mX4_setItem [.ref k, .int x1, .int x2] σ P := CtA.of (by decide) (Nat.le_of_ble_eq_true rfl) (XA.drop (by simp [leL, enL]) h)
def K_X6_fit_0 (scr : ScA) (q : Nat)  (σ : Nat → Nat → Int32) (P : Int32 → (Nat → Nat → Int32) → Prop) : Prop := XA scr 2 mX6_fit 172 4705 0 [some (.ref 14), some (.ref 85), some (.ref q), none] [] (hs σ) (pI P)
def K_X6_fit_2 (scr : ScA) (q : Nat) (x3 : Int32) (σ : Nat → Nat → Int32) (P : Int32 → (Nat → Nat → Int32) → Prop) : Prop := XA scr 2 mX6_fit 172 4705 2 [some (.ref 14), some (.ref 85), some (.ref q), some (.int x3)] [] (hs σ) (pI P)
set_option maxRecDepth 20000 in
theorem W_X6_fit_0 {scr : ScA} {q : Nat} (hq : isTr q)   {σ : Nat → Nat → Int32} {P : Int32 → (Nat → Nat → Int32) → Prop} (H : K_X6_fit_2 scr q 0 σ P) : K_X6_fit_0 scr q σ P := by
  show XA scr 2 mX6_fit 172 4705 0 [some (.ref 14), some (.ref 85), some (.ref q), none] [] (hs σ) (pI P)
  refine XA.blk (e9 := 2) (ok := true) (ls' := [some (.ref 14), some (.ref 85), some (.ref q), some (.int 0)]) (st' := []) (h' := hs σ) [(.iconst 0, 1, 0, 0, 0, 0, 0, 0), (.istore_n 3, 1, 3, 0, 0, 0, 0, 0)] (by decide +kernel) rfl rfl ?_
  exact H
set_option maxRecDepth 20000 in
theorem W_X6_fit_2 {scr : ScA} {q : Nat} (hq : isTr q) {x3 : Int32}  {σ : Nat → Nat → Int32} {P : Int32 → (Nat → Nat → Int32) → Prop} (H : ((σ 14 3) ≤ x3 → P 1 σ) ∧ (¬ (σ 14 3) ≤ x3 → (inB x3 8 = true) ∧ (((whV σ 85 q (σ 15 (Int32.toNatClampNeg x3)) (σ 16 (Int32.toNatClampNeg x3))) = (σ 17 (Int32.toNatClampNeg x3)) → K_X6_fit_2 scr q (x3 + 1) σ P) ∧ (¬ (whV σ 85 q (σ 15 (Int32.toNatClampNeg x3)) (σ 16 (Int32.toNatClampNeg x3))) = (σ 17 (Int32.toNatClampNeg x3)) → P 0 σ)))) : K_X6_fit_2 scr q x3 σ P := by
  show XA scr 2 mX6_fit 172 4705 2 [some (.ref 14), some (.ref 85), some (.ref q), some (.int x3)] [] (hs σ) (pI P)
  refine XA.blk (e9 := 7) (ok := true) (ls' := [some (.ref 14), some (.ref 85), some (.ref q), some (.int x3)]) (st' := [.int (σ 14 3), .int x3]) (h' := hs σ) [(.iload_n 3, 1, 3, 0, 0, 0, 0, 0), (.aload_n 0, 1, 0, 0, 0, 0, 0, 0), (.getfield 21, 3, 6, 3, 0, 194, 0, 0)] (by decide +kernel) rfl rfl ?_
  refine XA.icmp_ge (37) 44 (by decide +kernel) (fun c1 => ?_) (fun c1 => ?_)
  · have H := H.1 c1
    refine XA.blk (e9 := 45) (ok := true) (ls' := [some (.ref 14), some (.ref 85), some (.ref q), some (.int x3)]) (st' := [.int 1]) (h' := hs σ) [(.iconst 1, 1, 0, 0, 0, 0, 1, 0)] (by decide +kernel) rfl rfl ?_
    exact XA.ret (some (.int 1)) rfl (show ckRt mX6_fit 45 .ireturn = true by decide +kernel) (Or.inr rfl) (Nat.le_of_ble_eq_true rfl) (Nat.le_of_ble_eq_true rfl) ⟨_, _, rfl, rfl, H⟩
  · have H := H.2 c1
    obtain ⟨o1, H⟩ := H
    refine XA.blk (e9 := 24) (ok := inB x3 8 && (inB x3 8 && (true))) (ls' := [some (.ref 14), some (.ref 85), some (.ref q), some (.int x3)]) (st' := [.int (σ 16 (Int32.toNatClampNeg x3)), .int (σ 15 (Int32.toNatClampNeg x3)), .ref q, .ref 85]) (h' := hs σ) [(.aload_n 1, 1, 1, 0, 0, 0, 0, 0), (.aload_n 2, 1, 2, 0, 0, 0, 0, 0), (.aload_n 0, 1, 0, 0, 0, 0, 0, 0), (.getfield 9, 3, 6, 0, 2, 191, 0, 0), (.iload_n 3, 1, 3, 0, 0, 0, 0, 0), (.iaload, 1, 0, 0, 0, 0, 0, 0), (.aload_n 0, 1, 0, 0, 0, 0, 0, 0), (.getfield 15, 3, 6, 1, 3, 192, 0, 0), (.iload_n 3, 1, 3, 0, 0, 0, 0, 0), (.iaload, 1, 0, 0, 0, 0, 0, 0)] (by decide +kernel) rfl (by simp only [o1, Bool.and_true, Bool.true_and]) ?_
    refine XA.callV (as := [.ref q, .int (σ 15 (Int32.toNatClampNeg x3)), .int (σ 16 (Int32.toNatClampNeg x3))]) (rest := []) (mc' := 0) (ms' := 0) (idx := 25) (t := 746) cv_X5_whoIsAt (by decide +kernel) rfl rfl rfl (Nat.le_of_ble_eq_true rfl) (Nat.le_of_ble_eq_true rfl) (Nat.le_of_ble_eq_true rfl) (Nat.le_of_ble_eq_true rfl) (pu_X5_whoIsAt scr σ (by unfold isSw; omega) hq (σ 15 (Int32.toNatClampNeg x3)) (σ 16 (Int32.toNatClampNeg x3)) ) (fun rv h' hp => ?_)
    obtain ⟨rfl, rfl⟩ := hp
    refine ⟨rfl, rfl, ?_⟩
    show XA scr 2 mX6_fit 172 4705 27 [some (.ref 14), some (.ref 85), some (.ref q), some (.int x3)] [.int (whV σ 85 q (σ 15 (Int32.toNatClampNeg x3)) (σ 16 (Int32.toNatClampNeg x3)))] (hs σ) (pI P)
    refine XA.blk (e9 := 33) (ok := inB x3 8 && (true)) (ls' := [some (.ref 14), some (.ref 85), some (.ref q), some (.int x3)]) (st' := [.int (σ 17 (Int32.toNatClampNeg x3)), .int (whV σ 85 q (σ 15 (Int32.toNatClampNeg x3)) (σ 16 (Int32.toNatClampNeg x3)))]) (h' := hs σ) [(.aload_n 0, 1, 0, 0, 0, 0, 0, 0), (.getfield 18, 3, 6, 2, 4, 193, 0, 0), (.iload_n 3, 1, 3, 0, 0, 0, 0, 0), (.iaload, 1, 0, 0, 0, 0, 0, 0)] (by decide +kernel) rfl (by simp only [o1, Bool.and_true, Bool.true_and]) ?_
    refine XA.icmp_eq (5) 38 (by decide +kernel) (fun c2 => ?_) (fun c2 => ?_)
    · have H := H.1 c2
      refine XA.blk (e9 := 2) (ok := true) (ls' := [some (.ref 14), some (.ref 85), some (.ref q), some (.int (x3 + 1))]) (st' := []) (h' := hs σ) [(.iinc 3 1, 3, 3, 0, 0, 0, 1, 0), (.goto (-39), 3, 2, 0, 0, 0, 0, 0)] (by decide +kernel) rfl rfl ?_
      exact H
    · have H := H.2 c2
      refine XA.blk (e9 := 37) (ok := true) (ls' := [some (.ref 14), some (.ref 85), some (.ref q), some (.int x3)]) (st' := [.int 0]) (h' := hs σ) [(.iconst 0, 1, 0, 0, 0, 0, 0, 0)] (by decide +kernel) rfl rfl ?_
      exact XA.ret (some (.int 0)) rfl (show ckRt mX6_fit 37 .ireturn = true by decide +kernel) (Or.inl rfl) (Nat.le_of_ble_eq_true rfl) (Nat.le_of_ble_eq_true rfl) ⟨_, _, rfl, rfl, H⟩
theorem E_X6_fit {scr : ScA} {q : Nat}  {σ : Nat → Nat → Int32} {P : Int32 → (Nat → Nat → Int32) → Prop} (h : K_X6_fit_0 scr q σ P) : CiA scr 2 mX6_fit [.ref 14, .ref 85, .ref q] σ P := CtA.of (by decide) (Nat.le_of_ble_eq_true rfl) (XA.drop (by simp [leL, enL]) h)
def K_X8_seat_0 (scr : ScA) (k : Nat) (x1 : Int32) (x2 : Int32) (σ : Nat → Nat → Int32) (P : (Nat → Nat → Int32) → Prop) : Prop := XA scr 1 mX8_seat 172 4705 0 [some (.ref k), some (.int x1), some (.int x2)] [] (hs σ) (pV P)
set_option maxRecDepth 20000 in
theorem W_X8_seat_0 {scr : ScA} {k : Nat} (hk : isTr k) {x1 : Int32} {x2 : Int32}  {σ : Nat → Nat → Int32} {P : (Nat → Nat → Int32) → Prop} (H : ((isW x1 10) = 0 → P σ) ∧ (¬ (isW x1 10) = 0 → ((isW x2 10) = 0 → P σ) ∧ (¬ (isW x2 10) = 0 → (inB x1 10 = true) ∧ (∀ σ1, σ1 = (su σ (k + 5) (Int32.toNatClampNeg x1) x2) → (inB x2 10 = true) ∧ (∀ σ2, σ2 = (su σ1 (k + 6) (Int32.toNatClampNeg x2) x1) → P σ2))))) : K_X8_seat_0 scr k x1 x2 σ P := by
  show XA scr 1 mX8_seat 172 4705 0 [some (.ref k), some (.int x1), some (.int x2)] [] (hs σ) (pV P)
  refine XA.blk (e9 := 3) (ok := true) (ls' := [some (.ref k), some (.int x1), some (.int x2)]) (st' := [.int 10, .int x1]) (h' := hs σ) [(.iload_n 1, 1, 1, 0, 0, 0, 0, 0), (.bipush 10, 2, 0, 0, 0, 0, 10, 0)] (by decide +kernel) rfl rfl ?_
  refine XA.callS (as := [.int x1, .int 10]) (rest := []) (mc' := 0) (ms' := 0) (idx := 46) (t := 478) cs_X10_isWithin (by decide +kernel) rfl rfl (Nat.le_of_ble_eq_true rfl) (Nat.le_of_ble_eq_true rfl) (Nat.le_of_ble_eq_true rfl) (Nat.le_of_ble_eq_true rfl) (pu_X10_isWithin scr σ x1 10) (fun rv h' hp => ?_)
  obtain ⟨rfl, rfl⟩ := hp
  refine ⟨rfl, rfl, ?_⟩
  show XA scr 1 mX8_seat 172 4705 6 [some (.ref k), some (.int x1), some (.int x2)] [.int (isW x1 10)] (hs σ) (pV P)
  refine XA.if_eq (26) 32 (by decide +kernel) (fun c1 => ?_) (fun c1 => ?_)
  · have H := H.1 c1
    exact XA.ret none rfl (show ckRt mX8_seat 32 .return_ = true by decide +kernel) trivial (Nat.le_of_ble_eq_true rfl) (Nat.le_of_ble_eq_true rfl) ⟨_, rfl, rfl, H⟩
  · have H := H.2 c1
    refine XA.blk (e9 := 12) (ok := true) (ls' := [some (.ref k), some (.int x1), some (.int x2)]) (st' := [.int 10, .int x2]) (h' := hs σ) [(.iload_n 2, 1, 2, 0, 0, 0, 0, 0), (.bipush 10, 2, 0, 0, 0, 0, 10, 0)] (by decide +kernel) rfl rfl ?_
    refine XA.callS (as := [.int x2, .int 10]) (rest := []) (mc' := 0) (ms' := 0) (idx := 46) (t := 478) cs_X10_isWithin (by decide +kernel) rfl rfl (Nat.le_of_ble_eq_true rfl) (Nat.le_of_ble_eq_true rfl) (Nat.le_of_ble_eq_true rfl) (Nat.le_of_ble_eq_true rfl) (pu_X10_isWithin scr σ x2 10) (fun rv h' hp => ?_)
    obtain ⟨rfl, rfl⟩ := hp
    refine ⟨rfl, rfl, ?_⟩
    show XA scr 1 mX8_seat 172 4705 15 [some (.ref k), some (.int x1), some (.int x2)] [.int (isW x2 10)] (hs σ) (pV P)
    refine XA.if_eq (17) 32 (by decide +kernel) (fun c2 => ?_) (fun c2 => ?_)
    · have H := H.1 c2
      exact XA.ret none rfl (show ckRt mX8_seat 32 .return_ = true by decide +kernel) trivial (Nat.le_of_ble_eq_true rfl) (Nat.le_of_ble_eq_true rfl) ⟨_, rfl, rfl, H⟩
    · have H := H.2 c2
      obtain ⟨o1, H⟩ := H
      refine XA.blk (e9 := 25) (ok := (kO 172 S0 k 8 && kR R0 k 4 (k + 5)) && (kA 172 S0 (k + 5) 1 x1 && (true))) (ls' := [some (.ref k), some (.int x1), some (.int x2)]) (st' := []) (h' := hs (su σ (k + 5) (Int32.toNatClampNeg x1) x2)) [(.aload_n 0, 1, 0, 0, 0, 0, 0, 0), (.getfield 24, 3, 8, 4, 6, 133, 0, 0), (.iload_n 1, 1, 1, 0, 0, 0, 0, 0), (.iload_n 2, 1, 2, 0, 0, 0, 0, 0), (.iastore, 1, 0, 0, 0, 0, 0, 0)] (by decide +kernel) rfl (by simp only [trO hk, trR4 hk, trA5 hk x1, o1, Bool.and_true, Bool.true_and]) ?_
      obtain ⟨σ1, hσ1⟩ : ∃ s9, s9 = (su σ (k + 5) (Int32.toNatClampNeg x1) x2) := ⟨_, rfl⟩
      rw [← hσ1]
      have H := H σ1 hσ1
      obtain ⟨o2, H⟩ := H
      refine XA.blk (e9 := 32) (ok := (kO 172 S0 k 8 && kR R0 k 5 (k + 6)) && (kA 172 S0 (k + 6) 1 x2 && (true))) (ls' := [some (.ref k), some (.int x1), some (.int x2)]) (st' := []) (h' := hs (su σ1 (k + 6) (Int32.toNatClampNeg x2) x1)) [(.aload_n 0, 1, 0, 0, 0, 0, 0, 0), (.getfield 27, 3, 8, 5, 7, 136, 0, 0), (.iload_n 2, 1, 2, 0, 0, 0, 0, 0), (.iload_n 1, 1, 1, 0, 0, 0, 0, 0), (.iastore, 1, 0, 0, 0, 0, 0, 0)] (by decide +kernel) rfl (by simp only [trO hk, trR5 hk, trA6 hk x2, o2, Bool.and_true, Bool.true_and]) ?_
      obtain ⟨σ2, hσ2⟩ : ∃ s9, s9 = (su σ1 (k + 6) (Int32.toNatClampNeg x2) x1) := ⟨_, rfl⟩
      rw [← hσ2]
      have H := H σ2 hσ2
      exact XA.ret none rfl (show ckRt mX8_seat 32 .return_ = true by decide +kernel) trivial (Nat.le_of_ble_eq_true rfl) (Nat.le_of_ble_eq_true rfl) ⟨_, rfl, rfl, H⟩
theorem E_X8_seat {scr : ScA} {k : Nat} {x1 : Int32} {x2 : Int32} {σ : Nat → Nat → Int32} {P : (Nat → Nat → Int32) → Prop} (h : K_X8_seat_0 scr k x1 x2 σ P) : CvA scr 1 mX8_seat [.ref k, .int x1, .int x2] σ P := CtA.of (by decide) (Nat.le_of_ble_eq_true rfl) (XA.drop (by simp [leL, enL]) h)
def K_X8_exchange_0 (scr : ScA) (k : Nat) (x1 : Int32) (x2 : Int32) (σ : Nat → Nat → Int32) (P : (Nat → Nat → Int32) → Prop) : Prop := XA scr 2 mX8_exchange 172 4705 0 [some (.ref k), some (.int x1), some (.int x2), none] [] (hs σ) (pV P)
def K_X8_exchange_36 (scr : ScA) (k : Nat) (x2 : Int32) (x3 : Int32) (σ : Nat → Nat → Int32) (P : (Nat → Nat → Int32) → Prop) : Prop := XA scr 2 mX8_exchange 172 4705 36 [some (.ref k), none, some (.int x2), some (.int x3)] [] (hs σ) (pV P)
def K_X8_exchange_42 (scr : ScA) (k : Nat)  (σ : Nat → Nat → Int32) (P : (Nat → Nat → Int32) → Prop) : Prop := XA scr 2 mX8_exchange 172 4705 42 [none, none, none, none] [] (hs σ) (pV P)
set_option maxRecDepth 20000 in
theorem W_X8_exchange_0 {scr : ScA} {k : Nat} (hk : isTr k) {x1 : Int32} {x2 : Int32}  {σ : Nat → Nat → Int32} {P : (Nat → Nat → Int32) → Prop} (H : ((isW x1 10) = 0 → P σ) ∧ (¬ (isW x1 10) = 0 → ((isW x2 10) = 0 → P σ) ∧ (¬ (isW x2 10) = 0 → (inB x1 10 = true) ∧ (inB x2 10 = true) ∧ (CvA scr 1 mX8_seat [.ref k, .int x1, .int (σ (k + 5) (Int32.toNatClampNeg x2))] σ (fun σ' => K_X8_exchange_36 scr k x2 (σ (k + 5) (Int32.toNatClampNeg x1)) σ' P))))) : K_X8_exchange_0 scr k x1 x2 σ P := by
  show XA scr 2 mX8_exchange 172 4705 0 [some (.ref k), some (.int x1), some (.int x2), none] [] (hs σ) (pV P)
  refine XA.blk (e9 := 3) (ok := true) (ls' := [some (.ref k), some (.int x1), some (.int x2), none]) (st' := [.int 10, .int x1]) (h' := hs σ) [(.iload_n 1, 1, 1, 0, 0, 0, 0, 0), (.bipush 10, 2, 0, 0, 0, 0, 10, 0)] (by decide +kernel) rfl rfl ?_
  refine XA.callS (as := [.int x1, .int 10]) (rest := []) (mc' := 0) (ms' := 0) (idx := 46) (t := 478) cs_X10_isWithin (by decide +kernel) rfl rfl (Nat.le_of_ble_eq_true rfl) (Nat.le_of_ble_eq_true rfl) (Nat.le_of_ble_eq_true rfl) (Nat.le_of_ble_eq_true rfl) (pu_X10_isWithin scr σ x1 10) (fun rv h' hp => ?_)
  obtain ⟨rfl, rfl⟩ := hp
  refine ⟨rfl, rfl, ?_⟩
  show XA scr 2 mX8_exchange 172 4705 6 [some (.ref k), some (.int x1), some (.int x2), none] [.int (isW x1 10)] (hs σ) (pV P)
  refine XA.if_eq (36) 42 (by decide +kernel) (fun c1 => ?_) (fun c1 => ?_)
  · have H := H.1 c1
    exact XA.ret none rfl (show ckRt mX8_exchange 42 .return_ = true by decide +kernel) trivial (Nat.le_of_ble_eq_true rfl) (Nat.le_of_ble_eq_true rfl) ⟨_, rfl, rfl, H⟩
  · have H := H.2 c1
    refine XA.blk (e9 := 12) (ok := true) (ls' := [some (.ref k), some (.int x1), some (.int x2), none]) (st' := [.int 10, .int x2]) (h' := hs σ) [(.iload_n 2, 1, 2, 0, 0, 0, 0, 0), (.bipush 10, 2, 0, 0, 0, 0, 10, 0)] (by decide +kernel) rfl rfl ?_
    refine XA.callS (as := [.int x2, .int 10]) (rest := []) (mc' := 0) (ms' := 0) (idx := 46) (t := 478) cs_X10_isWithin (by decide +kernel) rfl rfl (Nat.le_of_ble_eq_true rfl) (Nat.le_of_ble_eq_true rfl) (Nat.le_of_ble_eq_true rfl) (Nat.le_of_ble_eq_true rfl) (pu_X10_isWithin scr σ x2 10) (fun rv h' hp => ?_)
    obtain ⟨rfl, rfl⟩ := hp
    refine ⟨rfl, rfl, ?_⟩
    show XA scr 2 mX8_exchange 172 4705 15 [some (.ref k), some (.int x1), some (.int x2), none] [.int (isW x2 10)] (hs σ) (pV P)
    refine XA.if_eq (27) 42 (by decide +kernel) (fun c2 => ?_) (fun c2 => ?_)
    · have H := H.1 c2
      exact XA.ret none rfl (show ckRt mX8_exchange 42 .return_ = true by decide +kernel) trivial (Nat.le_of_ble_eq_true rfl) (Nat.le_of_ble_eq_true rfl) ⟨_, rfl, rfl, H⟩
    · have H := H.2 c2
      obtain ⟨o1, o2, H⟩ := H
      refine XA.blk (e9 := 33) (ok := (kO 172 S0 k 8 && kR R0 k 4 (k + 5)) && (kA 172 S0 (k + 5) 1 x1 && ((kO 172 S0 k 8 && kR R0 k 4 (k + 5)) && (kA 172 S0 (k + 5) 1 x2 && (true))))) (ls' := [some (.ref k), some (.int x1), some (.int x2), some (.int (σ (k + 5) (Int32.toNatClampNeg x1)))]) (st' := [.int (σ (k + 5) (Int32.toNatClampNeg x2)), .int x1, .ref k]) (h' := hs σ) [(.aload_n 0, 1, 0, 0, 0, 0, 0, 0), (.getfield 24, 3, 8, 4, 6, 133, 0, 0), (.iload_n 1, 1, 1, 0, 0, 0, 0, 0), (.iaload, 1, 0, 0, 0, 0, 0, 0), (.istore_n 3, 1, 3, 0, 0, 0, 0, 0), (.aload_n 0, 1, 0, 0, 0, 0, 0, 0), (.iload_n 1, 1, 1, 0, 0, 0, 0, 0), (.aload_n 0, 1, 0, 0, 0, 0, 0, 0), (.getfield 24, 3, 8, 4, 6, 133, 0, 0), (.iload_n 2, 1, 2, 0, 0, 0, 0, 0), (.iaload, 1, 0, 0, 0, 0, 0, 0)] (by decide +kernel) rfl (by simp only [trO hk, trR4 hk, trA5 hk x1, trA5 hk x2, o1, o2, Bool.and_true, Bool.true_and]) ?_
      refine XA.callV (as := [.int x1, .int (σ (k + 5) (Int32.toNatClampNeg x2))]) (rest := []) (mc' := 0) (ms' := 0) (idx := 50) (t := 674) cv_X8_seat (by decide +kernel) (trO hk) rfl rfl (Nat.le_of_ble_eq_true rfl) (Nat.le_of_ble_eq_true rfl) (Nat.le_of_ble_eq_true rfl) (Nat.le_of_ble_eq_true rfl) (H) (fun rv h' hp => ?_)
      obtain ⟨s9, rfl, rfl, hK⟩ := hp
      exact ⟨rfl, rfl, XA.drop (by simp [leL]) hK⟩
set_option maxRecDepth 20000 in
theorem W_X8_exchange_36 {scr : ScA} {k : Nat} (hk : isTr k) {x2 : Int32} {x3 : Int32}  {σ : Nat → Nat → Int32} {P : (Nat → Nat → Int32) → Prop} (H : CvA scr 1 mX8_seat [.ref k, .int x2, .int x3] σ (fun σ' => K_X8_exchange_42 scr k σ' P)) : K_X8_exchange_36 scr k x2 x3 σ P := by
  show XA scr 2 mX8_exchange 172 4705 36 [some (.ref k), none, some (.int x2), some (.int x3)] [] (hs σ) (pV P)
  refine XA.blk (e9 := 39) (ok := true) (ls' := [some (.ref k), none, some (.int x2), some (.int x3)]) (st' := [.int x3, .int x2, .ref k]) (h' := hs σ) [(.aload_n 0, 1, 0, 0, 0, 0, 0, 0), (.iload_n 2, 1, 2, 0, 0, 0, 0, 0), (.iload_n 3, 1, 3, 0, 0, 0, 0, 0)] (by decide +kernel) rfl rfl ?_
  refine XA.callV (as := [.int x2, .int x3]) (rest := []) (mc' := 0) (ms' := 0) (idx := 50) (t := 674) cv_X8_seat (by decide +kernel) (trO hk) rfl rfl (Nat.le_of_ble_eq_true rfl) (Nat.le_of_ble_eq_true rfl) (Nat.le_of_ble_eq_true rfl) (Nat.le_of_ble_eq_true rfl) (H) (fun rv h' hp => ?_)
  obtain ⟨s9, rfl, rfl, hK⟩ := hp
  exact ⟨rfl, rfl, XA.drop (by simp [leL]) hK⟩
set_option maxRecDepth 20000 in
theorem W_X8_exchange_42 {scr : ScA} {k : Nat} (hk : isTr k)   {σ : Nat → Nat → Int32} {P : (Nat → Nat → Int32) → Prop} (H : P σ) : K_X8_exchange_42 scr k σ P := by
  show XA scr 2 mX8_exchange 172 4705 42 [none, none, none, none] [] (hs σ) (pV P)
  exact XA.ret none rfl (show ckRt mX8_exchange 42 .return_ = true by decide +kernel) trivial (Nat.le_of_ble_eq_true rfl) (Nat.le_of_ble_eq_true rfl) ⟨_, rfl, rfl, H⟩
theorem E_X8_exchange {scr : ScA} {k : Nat} {x1 : Int32} {x2 : Int32} {σ : Nat → Nat → Int32} {P : (Nat → Nat → Int32) → Prop} (h : K_X8_exchange_0 scr k x1 x2 σ P) : CvA scr 2 mX8_exchange [.ref k, .int x1, .int x2] σ P := CtA.of (by decide) (Nat.le_of_ble_eq_true rfl) (XA.drop (by simp [leL, enL]) h)
def K_X8_dismiss_0 (scr : ScA) (k : Nat)  (σ : Nat → Nat → Int32) (P : (Nat → Nat → Int32) → Prop) : Prop := XA scr 1 mX8_dismiss 172 4705 0 [some (.ref k)] [] (hs σ) (pV P)
def K_X8_dismiss_13 (scr : ScA) (k : Nat)  (σ : Nat → Nat → Int32) (P : (Nat → Nat → Int32) → Prop) : Prop := XA scr 1 mX8_dismiss 172 4705 13 [none] [] (hs σ) (pV P)
set_option maxRecDepth 20000 in
theorem W_X8_dismiss_0 {scr : ScA} {k : Nat} (hk : isTr k)   {σ : Nat → Nat → Int32} {P : (Nat → Nat → Int32) → Prop} (H : ∀ σ1, σ1 = (su σ k 6 0) → CvA scr 0 mJ7_fill_53178 [.ref (k + 6), .int (-1)] σ1 (fun σ' => K_X8_dismiss_13 scr k σ' P)) : K_X8_dismiss_0 scr k σ P := by
  show XA scr 1 mX8_dismiss 172 4705 0 [some (.ref k)] [] (hs σ) (pV P)
  refine XA.blk (e9 := 5) (ok := kO 172 S0 k 8 && (true)) (ls' := [some (.ref k)]) (st' := []) (h' := hs (su σ k 6 0)) [(.aload_n 0, 1, 0, 0, 0, 0, 0, 0), (.iconst 0, 1, 0, 0, 0, 0, 0, 0), (.putfield 36, 3, 8, 6, 0, 139, 0, 0)] (by decide +kernel) rfl (by simp only [trO hk, Bool.and_true, Bool.true_and]) ?_
  obtain ⟨σ1, hσ1⟩ : ∃ s9, s9 = (su σ k 6 0) := ⟨_, rfl⟩
  rw [← hσ1]
  have H := H σ1 hσ1
  refine XA.blk (e9 := 10) (ok := (kO 172 S0 k 8 && kR R0 k 5 (k + 6)) && (true)) (ls' := [some (.ref k)]) (st' := [.int (-1), .ref (k + 6)]) (h' := hs σ1) [(.aload_n 0, 1, 0, 0, 0, 0, 0, 0), (.getfield 27, 3, 8, 5, 7, 136, 0, 0), (.iconst (-1), 1, 0, 0, 0, 0, (-1), 0)] (by decide +kernel) rfl (by simp only [trO hk, trR5 hk, Bool.and_true, Bool.true_and]) ?_
  refine XA.callS (as := [.ref (k + 6), .int (-1)]) (rest := []) (mc' := 0) (ms' := 0) (idx := 30) (t := 110) cs_J7_fill_53178 (by decide +kernel) rfl rfl (Nat.le_of_ble_eq_true rfl) (Nat.le_of_ble_eq_true rfl) (Nat.le_of_ble_eq_true rfl) (Nat.le_of_ble_eq_true rfl) (H) (fun rv h' hp => ?_)
  obtain ⟨s9, rfl, rfl, hK⟩ := hp
  exact ⟨rfl, rfl, XA.drop (by simp [leL]) hK⟩
set_option maxRecDepth 20000 in
theorem W_X8_dismiss_13 {scr : ScA} {k : Nat} (hk : isTr k)   {σ : Nat → Nat → Int32} {P : (Nat → Nat → Int32) → Prop} (H : P σ) : K_X8_dismiss_13 scr k σ P := by
  show XA scr 1 mX8_dismiss 172 4705 13 [none] [] (hs σ) (pV P)
  exact XA.ret none rfl (show ckRt mX8_dismiss 13 .return_ = true by decide +kernel) trivial (Nat.le_of_ble_eq_true rfl) (Nat.le_of_ble_eq_true rfl) ⟨_, rfl, rfl, H⟩
theorem E_X8_dismiss {scr : ScA} {k : Nat}  {σ : Nat → Nat → Int32} {P : (Nat → Nat → Int32) → Prop} (h : K_X8_dismiss_0 scr k σ P) : CvA scr 1 mX8_dismiss [.ref k] σ P := CtA.of (by decide) (Nat.le_of_ble_eq_true rfl) (XA.drop (by simp [leL, enL]) h)
def K_X7_takesPlace_0 (scr : ScA)  (x1 : Int32) (x2 : Int32) (σ : Nat → Nat → Int32) (P : Int32 → (Nat → Nat → Int32) → Prop) : Prop := XA scr 2 mX7_takesPlace 172 4705 0 [some (.ref 3), some (.int x1), some (.int x2)] [] (hs σ) (pI P)
def K_X7_takesPlace_27 (scr : ScA)  (x1 : Int32) (σ : Nat → Nat → Int32) (P : Int32 → (Nat → Nat → Int32) → Prop) : Prop := XA scr 2 mX7_takesPlace 172 4705 27 [some (.ref 3), some (.int x1), none] [] (hs σ) (pI P)
set_option maxRecDepth 20000 in
theorem W_X7_takesPlace_0 {scr : ScA}   {x1 : Int32} {x2 : Int32}  {σ : Nat → Nat → Int32} {P : Int32 → (Nat → Nat → Int32) → Prop} (H : ((isW x2 10) = 0 → P 0 σ) ∧ (¬ (isW x2 10) = 0 → (inB x2 10 = true) ∧ (((σ 9 (Int32.toNatClampNeg x2)) = (-1) → CvA scr 1 mX8_seat [.ref 3, .int x1, .int x2] σ (fun σ' => K_X7_takesPlace_27 scr x1 σ' P)) ∧ (¬ (σ 9 (Int32.toNatClampNeg x2)) = (-1) → P 0 σ)))) : K_X7_takesPlace_0 scr x1 x2 σ P := by
  show XA scr 2 mX7_takesPlace 172 4705 0 [some (.ref 3), some (.int x1), some (.int x2)] [] (hs σ) (pI P)
  refine XA.blk (e9 := 3) (ok := true) (ls' := [some (.ref 3), some (.int x1), some (.int x2)]) (st' := [.int 10, .int x2]) (h' := hs σ) [(.iload_n 2, 1, 2, 0, 0, 0, 0, 0), (.bipush 10, 2, 0, 0, 0, 0, 10, 0)] (by decide +kernel) rfl rfl ?_
  refine XA.callS (as := [.int x2, .int 10]) (rest := []) (mc' := 0) (ms' := 0) (idx := 34) (t := 470) cs_X10_isWithin (by decide +kernel) rfl rfl (Nat.le_of_ble_eq_true rfl) (Nat.le_of_ble_eq_true rfl) (Nat.le_of_ble_eq_true rfl) (Nat.le_of_ble_eq_true rfl) (pu_X10_isWithin scr σ x2 10) (fun rv h' hp => ?_)
  obtain ⟨rfl, rfl⟩ := hp
  refine ⟨rfl, rfl, ?_⟩
  show XA scr 2 mX7_takesPlace 172 4705 6 [some (.ref 3), some (.int x1), some (.int x2)] [.int (isW x2 10)] (hs σ) (pI P)
  refine XA.if_eq (13) 19 (by decide +kernel) (fun c1 => ?_) (fun c1 => ?_)
  · have H := H.1 c1
    refine XA.blk (e9 := 20) (ok := true) (ls' := [some (.ref 3), some (.int x1), some (.int x2)]) (st' := [.int 0]) (h' := hs σ) [(.iconst 0, 1, 0, 0, 0, 0, 0, 0)] (by decide +kernel) rfl rfl ?_
    exact XA.ret (some (.int 0)) rfl (show ckRt mX7_takesPlace 20 .ireturn = true by decide +kernel) (Or.inl rfl) (Nat.le_of_ble_eq_true rfl) (Nat.le_of_ble_eq_true rfl) ⟨_, _, rfl, rfl, H⟩
  · have H := H.2 c1
    obtain ⟨o1, H⟩ := H
    refine XA.blk (e9 := 16) (ok := inB x2 10 && (true)) (ls' := [some (.ref 3), some (.int x1), some (.int x2)]) (st' := [.int (-1), .int (σ 9 (Int32.toNatClampNeg x2))]) (h' := hs σ) [(.aload_n 0, 1, 0, 0, 0, 0, 0, 0), (.getfield 54, 3, 8, 5, 7, 137, 0, 0), (.iload_n 2, 1, 2, 0, 0, 0, 0, 0), (.iaload, 1, 0, 0, 0, 0, 0, 0), (.iconst (-1), 1, 0, 0, 0, 0, (-1), 0)] (by decide +kernel) rfl (by simp only [o1, Bool.and_true, Bool.true_and]) ?_
    refine XA.icmp_eq (5) 21 (by decide +kernel) (fun c2 => ?_) (fun c2 => ?_)
    · have H := H.1 c2
      refine XA.blk (e9 := 24) (ok := true) (ls' := [some (.ref 3), some (.int x1), some (.int x2)]) (st' := [.int x2, .int x1, .ref 3]) (h' := hs σ) [(.aload_n 0, 1, 0, 0, 0, 0, 0, 0), (.iload_n 1, 1, 1, 0, 0, 0, 0, 0), (.iload_n 2, 1, 2, 0, 0, 0, 0, 0)] (by decide +kernel) rfl rfl ?_
      refine XA.callV (as := [.int x1, .int x2]) (rest := []) (mc' := 0) (ms' := 0) (idx := 57) (t := 474) cv_X8_seat (by decide +kernel) rfl rfl rfl (Nat.le_of_ble_eq_true rfl) (Nat.le_of_ble_eq_true rfl) (Nat.le_of_ble_eq_true rfl) (Nat.le_of_ble_eq_true rfl) (H) (fun rv h' hp => ?_)
      obtain ⟨s9, rfl, rfl, hK⟩ := hp
      exact ⟨rfl, rfl, XA.drop (by simp [leL]) hK⟩
    · have H := H.2 c2
      refine XA.blk (e9 := 20) (ok := true) (ls' := [some (.ref 3), some (.int x1), some (.int x2)]) (st' := [.int 0]) (h' := hs σ) [(.iconst 0, 1, 0, 0, 0, 0, 0, 0)] (by decide +kernel) rfl rfl ?_
      exact XA.ret (some (.int 0)) rfl (show ckRt mX7_takesPlace 20 .ireturn = true by decide +kernel) (Or.inl rfl) (Nat.le_of_ble_eq_true rfl) (Nat.le_of_ble_eq_true rfl) ⟨_, _, rfl, rfl, H⟩
set_option maxRecDepth 20000 in
theorem W_X7_takesPlace_27 {scr : ScA}   {x1 : Int32}  {σ : Nat → Nat → Int32} {P : Int32 → (Nat → Nat → Int32) → Prop} (H : ∀ σ1, σ1 = (su σ 3 6 (x1 + 1)) → P 1 σ1) : K_X7_takesPlace_27 scr x1 σ P := by
  show XA scr 2 mX7_takesPlace 172 4705 27 [some (.ref 3), some (.int x1), none] [] (hs σ) (pI P)
  refine XA.blk (e9 := 34) (ok := true) (ls' := [some (.ref 3), some (.int x1), none]) (st' := []) (h' := hs (su σ 3 6 (x1 + 1))) [(.aload_n 0, 1, 0, 0, 0, 0, 0, 0), (.iload_n 1, 1, 1, 0, 0, 0, 0, 0), (.iconst 1, 1, 0, 0, 0, 0, 1, 0), (.iadd, 1, 0, 0, 0, 0, 0, 0), (.putfield 61, 3, 8, 6, 0, 142, 0, 0)] (by decide +kernel) rfl rfl ?_
  obtain ⟨σ1, hσ1⟩ : ∃ s9, s9 = (su σ 3 6 (x1 + 1)) := ⟨_, rfl⟩
  rw [← hσ1]
  have H := H σ1 hσ1
  refine XA.blk (e9 := 35) (ok := true) (ls' := [some (.ref 3), some (.int x1), none]) (st' := [.int 1]) (h' := hs σ1) [(.iconst 1, 1, 0, 0, 0, 0, 1, 0)] (by decide +kernel) rfl rfl ?_
  exact XA.ret (some (.int 1)) rfl (show ckRt mX7_takesPlace 35 .ireturn = true by decide +kernel) (Or.inr rfl) (Nat.le_of_ble_eq_true rfl) (Nat.le_of_ble_eq_true rfl) ⟨_, _, rfl, rfl, H⟩
theorem E_X7_takesPlace {scr : ScA}  {x1 : Int32} {x2 : Int32} {σ : Nat → Nat → Int32} {P : Int32 → (Nat → Nat → Int32) → Prop} (h : K_X7_takesPlace_0 scr x1 x2 σ P) : CiA scr 2 mX7_takesPlace [.ref 3, .int x1, .int x2] σ P := CtA.of (by decide) (Nat.le_of_ble_eq_true rfl) (XA.drop (by simp [leL, enL]) h)
def K_X7_takes_0 (scr : ScA)  (x1 : Int32) (x2 : Int32) (x3 : Int32) (σ : Nat → Nat → Int32) (P : Int32 → (Nat → Nat → Int32) → Prop) : Prop := XA scr 3 mX7_takes 172 4705 0 [some (.ref 3), some (.int x1), some (.int x2), some (.int x3)] [] (hs σ) (pI P)
def K_X7_takes_192 (scr : ScA)  (y0 : Int32) (σ : Nat → Nat → Int32) (P : Int32 → (Nat → Nat → Int32) → Prop) : Prop := XA scr 3 mX7_takes 172 4705 192 [none, none, none, none] [.int y0] (hs σ) (pI P)
set_option maxRecDepth 20000 in
theorem W_X7_takes_0 {scr : ScA}   {x1 : Int32} {x2 : Int32} {x3 : Int32}  {σ : Nat → Nat → Int32} {P : Int32 → (Nat → Nat → Int32) → Prop} (H : (¬ (isW x1 10) = 0 → (x2 = 0 → (inB x1 10 = true) ∧ (∀ σ1, σ1 = (su σ 4 (Int32.toNatClampNeg x1) (if ¬ x3 = 115 then (if ¬ x3 = 116 then 2 else 1 : Int32) else 0 : Int32)) → (((if x3 = 115 then 1 else (if x3 = 116 then 1 else (if ¬ x3 = 99 then 0 else 1 : Int32) : Int32) : Int32) : Int32) = 0 ∨ ((if x3 = 115 then 1 else (if x3 = 116 then 1 else (if ¬ x3 = 99 then 0 else 1 : Int32) : Int32) : Int32) : Int32) = 1) ∧ P (if x3 = 115 then 1 else (if x3 = 116 then 1 else (if ¬ x3 = 99 then 0 else 1 : Int32) : Int32) : Int32) σ1)) ∧ (x2 = 1 → (inB x1 10 = true) ∧ (∀ σ2, σ2 = (su σ 5 (Int32.toNatClampNeg x1) (x3 - 48)) → (((if x3 < 49 then 0 else (if 57 < x3 then 0 else 1 : Int32) : Int32) : Int32) = 0 ∨ ((if x3 < 49 then 0 else (if 57 < x3 then 0 else 1 : Int32) : Int32) : Int32) = 1) ∧ P (if x3 < 49 then 0 else (if 57 < x3 then 0 else 1 : Int32) : Int32) σ2)) ∧ (x2 = 2 → (inB x1 10 = true) ∧ (∀ σ3, σ3 = (su σ 6 (Int32.toNatClampNeg x1) (x3 - 48)) → (((if x3 < 49 then 0 else (if 57 < x3 then 0 else 1 : Int32) : Int32) : Int32) = 0 ∨ ((if x3 < 49 then 0 else (if 57 < x3 then 0 else 1 : Int32) : Int32) : Int32) = 1) ∧ P (if x3 < 49 then 0 else (if 57 < x3 then 0 else 1 : Int32) : Int32) σ3)) ∧ (x2 = 3 → (inB x1 10 = true) ∧ (∀ σ4, σ4 = (su σ 7 (Int32.toNatClampNeg x1) (x3 - 97)) → (((if x3 < 97 then 0 else (if 120 < x3 then 0 else 1 : Int32) : Int32) : Int32) = 0 ∨ ((if x3 < 97 then 0 else (if 120 < x3 then 0 else 1 : Int32) : Int32) : Int32) = 1) ∧ P (if x3 < 97 then 0 else (if 120 < x3 then 0 else 1 : Int32) : Int32) σ4)) ∧ (x2 = 4 → CiA scr 2 mX7_takesPlace [.ref 3, .int x1, .int (x3 - 48)] σ (fun r9 σ' => K_X7_takes_192 scr r9 σ' P)) ∧ (¬ x2 = 0 → ¬ x2 = 1 → ¬ x2 = 2 → ¬ x2 = 3 → ¬ x2 = 4 → (((if ¬ x3 = 59 then 0 else 1 : Int32) : Int32) = 0 ∨ ((if ¬ x3 = 59 then 0 else 1 : Int32) : Int32) = 1) ∧ P (if ¬ x3 = 59 then 0 else 1 : Int32) σ)) ∧ ((isW x1 10) = 0 → P 0 σ)) : K_X7_takes_0 scr x1 x2 x3 σ P := by
  show XA scr 3 mX7_takes 172 4705 0 [some (.ref 3), some (.int x1), some (.int x2), some (.int x3)] [] (hs σ) (pI P)
  refine XA.blk (e9 := 3) (ok := true) (ls' := [some (.ref 3), some (.int x1), some (.int x2), some (.int x3)]) (st' := [.int 10, .int x1]) (h' := hs σ) [(.iload_n 1, 1, 1, 0, 0, 0, 0, 0), (.bipush 10, 2, 0, 0, 0, 0, 10, 0)] (by decide +kernel) rfl rfl ?_
  refine XA.callS (as := [.int x1, .int 10]) (rest := []) (mc' := 0) (ms' := 0) (idx := 34) (t := 470) cs_X10_isWithin (by decide +kernel) rfl rfl (Nat.le_of_ble_eq_true rfl) (Nat.le_of_ble_eq_true rfl) (Nat.le_of_ble_eq_true rfl) (Nat.le_of_ble_eq_true rfl) (pu_X10_isWithin scr σ x1 10) (fun rv h' hp => ?_)
  obtain ⟨rfl, rfl⟩ := hp
  refine ⟨rfl, rfl, ?_⟩
  show XA scr 3 mX7_takes 172 4705 6 [some (.ref 3), some (.int x1), some (.int x2), some (.int x3)] [.int (isW x1 10)] (hs σ) (pI P)
  refine XA.if_ne (5) 11 (by decide +kernel) (fun c1 => ?_) (fun c1 => ?_)
  · have H := H.1 c1
    refine XA.blk (e9 := 12) (ok := true) (ls' := [some (.ref 3), some (.int x1), some (.int x2), some (.int x3)]) (st' := [.int x2]) (h' := hs σ) [(.iload_n 2, 1, 2, 0, 0, 0, 0, 0)] (by decide +kernel) rfl rfl ?_
    refine XA.tsw (181) (0) (4) [36, 87, 115, 143, 171] 36 [(0, 48), (1, 99), (2, 127), (3, 155), (4, 183)] 193 (by decide +kernel) (fun q9 hq9 e9 => ?_) (fun e9 => ?_)
    · simp only [List.mem_cons, List.not_mem_nil, or_false] at hq9
      rcases hq9 with rfl | rfl | rfl | rfl | rfl
      · have H := H.1 e9
        refine XA.blk (e9 := 56) (ok := true) (ls' := [some (.ref 3), some (.int x1), some (.int x2), some (.int x3)]) (st' := [.int 115, .int x3, .int x1, .ref 4]) (h' := hs σ) [(.aload_n 0, 1, 0, 0, 0, 0, 0, 0), (.getfield 38, 3, 8, 0, 2, 114, 0, 0), (.iload_n 1, 1, 1, 0, 0, 0, 0, 0), (.iload_n 3, 1, 3, 0, 0, 0, 0, 0), (.bipush 115, 2, 0, 0, 0, 0, 115, 0)] (by decide +kernel) rfl rfl ?_
        have hJ56 : XA scr 3 mX7_takes 172 4705 74 [none, none, none, some (.int x3)] [.int (if ¬ x3 = 115 then (if ¬ x3 = 116 then 2 else 1 : Int32) else 0 : Int32), .int x1, .ref 4] (hs σ) (pI P) := by
          obtain ⟨o1, H⟩ := H
          refine XA.blk (e9 := 75) (ok := inB x1 10 && (true)) (ls' := [none, none, none, some (.int x3)]) (st' := []) (h' := hs (su σ 4 (Int32.toNatClampNeg x1) (if ¬ x3 = 115 then (if ¬ x3 = 116 then 2 else 1 : Int32) else 0 : Int32))) [(.iastore, 1, 0, 0, 0, 0, 0, 0)] (by decide +kernel) rfl (by simp only [o1, Bool.and_true, Bool.true_and]) ?_
          obtain ⟨σ1, hσ1⟩ : ∃ s9, s9 = (su σ 4 (Int32.toNatClampNeg x1) (if ¬ x3 = 115 then (if ¬ x3 = 116 then 2 else 1 : Int32) else 0 : Int32)) := ⟨_, rfl⟩
          rw [← hσ1]
          have H := H σ1 hσ1
          refine XA.blk (e9 := 78) (ok := true) (ls' := [none, none, none, some (.int x3)]) (st' := [.int 115, .int x3]) (h' := hs σ1) [(.iload_n 3, 1, 3, 0, 0, 0, 0, 0), (.bipush 115, 2, 0, 0, 0, 0, 115, 0)] (by decide +kernel) rfl rfl ?_
          have hJ78 : XA scr 3 mX7_takes 172 4705 98 [none, none, none, none] [.int (if x3 = 115 then 1 else (if x3 = 116 then 1 else (if ¬ x3 = 99 then 0 else 1 : Int32) : Int32) : Int32)] (hs σ1) (pI P) := by
            exact XA.ret (some (.int (if x3 = 115 then 1 else (if x3 = 116 then 1 else (if ¬ x3 = 99 then 0 else 1 : Int32) : Int32) : Int32))) rfl (show ckRt mX7_takes 98 .ireturn = true by decide +kernel) H.1 (Nat.le_of_ble_eq_true rfl) (Nat.le_of_ble_eq_true rfl) ⟨_, _, rfl, rfl, H.2⟩
          refine XA.icmp_eq (15) 93 (by decide +kernel) (fun c2 => ?_) (fun c2 => ?_)
          · refine XA.blk (e9 := 98) (ok := true) (ls' := [none, none, none, some (.int x3)]) (st' := [.int 1]) (h' := hs σ1) [(.iconst 1, 1, 0, 0, 0, 0, 1, 0), (.goto 4, 3, 98, 0, 0, 0, 0, 0)] (by decide +kernel) rfl rfl ?_
            refine XA.drop (ls := [none, none, none, none]) (by simp [leL]) ?_
            simpa only [if_pos c2] using hJ78
          · refine XA.blk (e9 := 84) (ok := true) (ls' := [none, none, none, some (.int x3)]) (st' := [.int 116, .int x3]) (h' := hs σ1) [(.iload_n 3, 1, 3, 0, 0, 0, 0, 0), (.bipush 116, 2, 0, 0, 0, 0, 116, 0)] (by decide +kernel) rfl rfl ?_
            have hJ84 : XA scr 3 mX7_takes 172 4705 98 [none, none, none, none] [.int (if x3 = 116 then 1 else (if ¬ x3 = 99 then 0 else 1 : Int32) : Int32)] (hs σ1) (pI P) := by
              simpa only [if_neg c2] using hJ78
            refine XA.icmp_eq (9) 93 (by decide +kernel) (fun c3 => ?_) (fun c3 => ?_)
            · refine XA.blk (e9 := 98) (ok := true) (ls' := [none, none, none, some (.int x3)]) (st' := [.int 1]) (h' := hs σ1) [(.iconst 1, 1, 0, 0, 0, 0, 1, 0), (.goto 4, 3, 98, 0, 0, 0, 0, 0)] (by decide +kernel) rfl rfl ?_
              refine XA.drop (ls := [none, none, none, none]) (by simp [leL]) ?_
              simpa only [if_pos c3] using hJ84
            · refine XA.blk (e9 := 90) (ok := true) (ls' := [none, none, none, some (.int x3)]) (st' := [.int 99, .int x3]) (h' := hs σ1) [(.iload_n 3, 1, 3, 0, 0, 0, 0, 0), (.bipush 99, 2, 0, 0, 0, 0, 99, 0)] (by decide +kernel) rfl rfl ?_
              have hJ90 : XA scr 3 mX7_takes 172 4705 98 [none, none, none, none] [.int (if ¬ x3 = 99 then 0 else 1 : Int32)] (hs σ1) (pI P) := by
                simpa only [if_neg c3] using hJ84
              refine XA.icmp_ne (7) 97 (by decide +kernel) (fun c4 => ?_) (fun c4 => ?_)
              · refine XA.blk (e9 := 98) (ok := true) (ls' := [none, none, none, some (.int x3)]) (st' := [.int 0]) (h' := hs σ1) [(.iconst 0, 1, 0, 0, 0, 0, 0, 0)] (by decide +kernel) rfl rfl ?_
                refine XA.drop (ls := [none, none, none, none]) (by simp [leL]) ?_
                simpa only [if_pos c4] using hJ90
              · refine XA.blk (e9 := 98) (ok := true) (ls' := [none, none, none, some (.int x3)]) (st' := [.int 1]) (h' := hs σ1) [(.iconst 1, 1, 0, 0, 0, 0, 1, 0), (.goto 4, 3, 98, 0, 0, 0, 0, 0)] (by decide +kernel) rfl rfl ?_
                refine XA.drop (ls := [none, none, none, none]) (by simp [leL]) ?_
                simpa only [if_neg (not_not_intro c4)] using hJ90
        refine XA.icmp_ne (7) 63 (by decide +kernel) (fun c2 => ?_) (fun c2 => ?_)
        · refine XA.blk (e9 := 66) (ok := true) (ls' := [some (.ref 3), some (.int x1), some (.int x2), some (.int x3)]) (st' := [.int 116, .int x3, .int x1, .ref 4]) (h' := hs σ) [(.iload_n 3, 1, 3, 0, 0, 0, 0, 0), (.bipush 116, 2, 0, 0, 0, 0, 116, 0)] (by decide +kernel) rfl rfl ?_
          have hJ66 : XA scr 3 mX7_takes 172 4705 74 [none, none, none, some (.int x3)] [.int (if ¬ x3 = 116 then 2 else 1 : Int32), .int x1, .ref 4] (hs σ) (pI P) := by
            simpa only [if_pos c2] using hJ56
          refine XA.icmp_ne (7) 73 (by decide +kernel) (fun c3 => ?_) (fun c3 => ?_)
          · refine XA.blk (e9 := 74) (ok := true) (ls' := [some (.ref 3), some (.int x1), some (.int x2), some (.int x3)]) (st' := [.int 2, .int x1, .ref 4]) (h' := hs σ) [(.iconst 2, 1, 0, 0, 0, 0, 2, 0)] (by decide +kernel) rfl rfl ?_
            refine XA.drop (ls := [none, none, none, some (.int x3)]) (by simp [leL]) ?_
            simpa only [if_pos c3] using hJ66
          · refine XA.blk (e9 := 74) (ok := true) (ls' := [some (.ref 3), some (.int x1), some (.int x2), some (.int x3)]) (st' := [.int 1, .int x1, .ref 4]) (h' := hs σ) [(.iconst 1, 1, 0, 0, 0, 0, 1, 0), (.goto 4, 3, 74, 0, 0, 0, 0, 0)] (by decide +kernel) rfl rfl ?_
            refine XA.drop (ls := [none, none, none, some (.int x3)]) (by simp [leL]) ?_
            simpa only [if_neg (not_not_intro c3)] using hJ66
        · refine XA.blk (e9 := 74) (ok := true) (ls' := [some (.ref 3), some (.int x1), some (.int x2), some (.int x3)]) (st' := [.int 0, .int x1, .ref 4]) (h' := hs σ) [(.iconst 0, 1, 0, 0, 0, 0, 0, 0), (.goto 14, 3, 74, 0, 0, 0, 0, 0)] (by decide +kernel) rfl rfl ?_
          refine XA.drop (ls := [none, none, none, some (.int x3)]) (by simp [leL]) ?_
          simpa only [if_neg (not_not_intro c2)] using hJ56
      · have H := H.2.1 e9
        obtain ⟨o1, H⟩ := H
        refine XA.blk (e9 := 109) (ok := inB x1 10 && (true)) (ls' := [some (.ref 3), some (.int x1), some (.int x2), some (.int x3)]) (st' := []) (h' := hs (su σ 5 (Int32.toNatClampNeg x1) (x3 - 48))) [(.aload_n 0, 1, 0, 0, 0, 0, 0, 0), (.getfield 41, 3, 8, 1, 3, 119, 0, 0), (.iload_n 1, 1, 1, 0, 0, 0, 0, 0), (.iload_n 3, 1, 3, 0, 0, 0, 0, 0), (.bipush 48, 2, 0, 0, 0, 0, 48, 0), (.isub, 1, 0, 0, 0, 0, 0, 0), (.iastore, 1, 0, 0, 0, 0, 0, 0)] (by decide +kernel) rfl (by simp only [o1, Bool.and_true, Bool.true_and]) ?_
        obtain ⟨σ2, hσ2⟩ : ∃ s9, s9 = (su σ 5 (Int32.toNatClampNeg x1) (x3 - 48)) := ⟨_, rfl⟩
        rw [← hσ2]
        have H := H σ2 hσ2
        refine XA.blk (e9 := 112) (ok := true) (ls' := [some (.ref 3), some (.int x1), some (.int x2), some (.int x3)]) (st' := [.int 49, .int x3]) (h' := hs σ2) [(.iload_n 3, 1, 3, 0, 0, 0, 0, 0), (.bipush 49, 2, 0, 0, 0, 0, 49, 0)] (by decide +kernel) rfl rfl ?_
        have hJ112 : XA scr 3 mX7_takes 172 4705 126 [none, none, none, none] [.int (if x3 < 49 then 0 else (if 57 < x3 then 0 else 1 : Int32) : Int32)] (hs σ2) (pI P) := by
          exact XA.ret (some (.int (if x3 < 49 then 0 else (if 57 < x3 then 0 else 1 : Int32) : Int32))) rfl (show ckRt mX7_takes 126 .ireturn = true by decide +kernel) H.1 (Nat.le_of_ble_eq_true rfl) (Nat.le_of_ble_eq_true rfl) ⟨_, _, rfl, rfl, H.2⟩
        refine XA.icmp_lt (13) 125 (by decide +kernel) (fun c2 => ?_) (fun c2 => ?_)
        · refine XA.blk (e9 := 126) (ok := true) (ls' := [some (.ref 3), some (.int x1), some (.int x2), some (.int x3)]) (st' := [.int 0]) (h' := hs σ2) [(.iconst 0, 1, 0, 0, 0, 0, 0, 0)] (by decide +kernel) rfl rfl ?_
          refine XA.drop (ls := [none, none, none, none]) (by simp [leL]) ?_
          simpa only [if_pos c2] using hJ112
        · refine XA.blk (e9 := 118) (ok := true) (ls' := [some (.ref 3), some (.int x1), some (.int x2), some (.int x3)]) (st' := [.int 57, .int x3]) (h' := hs σ2) [(.iload_n 3, 1, 3, 0, 0, 0, 0, 0), (.bipush 57, 2, 0, 0, 0, 0, 57, 0)] (by decide +kernel) rfl rfl ?_
          have hJ118 : XA scr 3 mX7_takes 172 4705 126 [none, none, none, none] [.int (if 57 < x3 then 0 else 1 : Int32)] (hs σ2) (pI P) := by
            simpa only [if_neg c2] using hJ112
          refine XA.icmp_gt (7) 125 (by decide +kernel) (fun c3 => ?_) (fun c3 => ?_)
          · refine XA.blk (e9 := 126) (ok := true) (ls' := [some (.ref 3), some (.int x1), some (.int x2), some (.int x3)]) (st' := [.int 0]) (h' := hs σ2) [(.iconst 0, 1, 0, 0, 0, 0, 0, 0)] (by decide +kernel) rfl rfl ?_
            refine XA.drop (ls := [none, none, none, none]) (by simp [leL]) ?_
            simpa only [if_pos c3] using hJ118
          · refine XA.blk (e9 := 126) (ok := true) (ls' := [some (.ref 3), some (.int x1), some (.int x2), some (.int x3)]) (st' := [.int 1]) (h' := hs σ2) [(.iconst 1, 1, 0, 0, 0, 0, 1, 0), (.goto 4, 3, 126, 0, 0, 0, 0, 0)] (by decide +kernel) rfl rfl ?_
            refine XA.drop (ls := [none, none, none, none]) (by simp [leL]) ?_
            simpa only [if_neg c3] using hJ118
      · have H := H.2.2.1 e9
        obtain ⟨o1, H⟩ := H
        refine XA.blk (e9 := 137) (ok := inB x1 10 && (true)) (ls' := [some (.ref 3), some (.int x1), some (.int x2), some (.int x3)]) (st' := []) (h' := hs (su σ 6 (Int32.toNatClampNeg x1) (x3 - 48))) [(.aload_n 0, 1, 0, 0, 0, 0, 0, 0), (.getfield 44, 3, 8, 2, 4, 123, 0, 0), (.iload_n 1, 1, 1, 0, 0, 0, 0, 0), (.iload_n 3, 1, 3, 0, 0, 0, 0, 0), (.bipush 48, 2, 0, 0, 0, 0, 48, 0), (.isub, 1, 0, 0, 0, 0, 0, 0), (.iastore, 1, 0, 0, 0, 0, 0, 0)] (by decide +kernel) rfl (by simp only [o1, Bool.and_true, Bool.true_and]) ?_
        obtain ⟨σ3, hσ3⟩ : ∃ s9, s9 = (su σ 6 (Int32.toNatClampNeg x1) (x3 - 48)) := ⟨_, rfl⟩
        rw [← hσ3]
        have H := H σ3 hσ3
        refine XA.blk (e9 := 140) (ok := true) (ls' := [some (.ref 3), some (.int x1), some (.int x2), some (.int x3)]) (st' := [.int 49, .int x3]) (h' := hs σ3) [(.iload_n 3, 1, 3, 0, 0, 0, 0, 0), (.bipush 49, 2, 0, 0, 0, 0, 49, 0)] (by decide +kernel) rfl rfl ?_
        have hJ140 : XA scr 3 mX7_takes 172 4705 154 [none, none, none, none] [.int (if x3 < 49 then 0 else (if 57 < x3 then 0 else 1 : Int32) : Int32)] (hs σ3) (pI P) := by
          exact XA.ret (some (.int (if x3 < 49 then 0 else (if 57 < x3 then 0 else 1 : Int32) : Int32))) rfl (show ckRt mX7_takes 154 .ireturn = true by decide +kernel) H.1 (Nat.le_of_ble_eq_true rfl) (Nat.le_of_ble_eq_true rfl) ⟨_, _, rfl, rfl, H.2⟩
        refine XA.icmp_lt (13) 153 (by decide +kernel) (fun c2 => ?_) (fun c2 => ?_)
        · refine XA.blk (e9 := 154) (ok := true) (ls' := [some (.ref 3), some (.int x1), some (.int x2), some (.int x3)]) (st' := [.int 0]) (h' := hs σ3) [(.iconst 0, 1, 0, 0, 0, 0, 0, 0)] (by decide +kernel) rfl rfl ?_
          refine XA.drop (ls := [none, none, none, none]) (by simp [leL]) ?_
          simpa only [if_pos c2] using hJ140
        · refine XA.blk (e9 := 146) (ok := true) (ls' := [some (.ref 3), some (.int x1), some (.int x2), some (.int x3)]) (st' := [.int 57, .int x3]) (h' := hs σ3) [(.iload_n 3, 1, 3, 0, 0, 0, 0, 0), (.bipush 57, 2, 0, 0, 0, 0, 57, 0)] (by decide +kernel) rfl rfl ?_
          have hJ146 : XA scr 3 mX7_takes 172 4705 154 [none, none, none, none] [.int (if 57 < x3 then 0 else 1 : Int32)] (hs σ3) (pI P) := by
            simpa only [if_neg c2] using hJ140
          refine XA.icmp_gt (7) 153 (by decide +kernel) (fun c3 => ?_) (fun c3 => ?_)
          · refine XA.blk (e9 := 154) (ok := true) (ls' := [some (.ref 3), some (.int x1), some (.int x2), some (.int x3)]) (st' := [.int 0]) (h' := hs σ3) [(.iconst 0, 1, 0, 0, 0, 0, 0, 0)] (by decide +kernel) rfl rfl ?_
            refine XA.drop (ls := [none, none, none, none]) (by simp [leL]) ?_
            simpa only [if_pos c3] using hJ146
          · refine XA.blk (e9 := 154) (ok := true) (ls' := [some (.ref 3), some (.int x1), some (.int x2), some (.int x3)]) (st' := [.int 1]) (h' := hs σ3) [(.iconst 1, 1, 0, 0, 0, 0, 1, 0), (.goto 4, 3, 154, 0, 0, 0, 0, 0)] (by decide +kernel) rfl rfl ?_
            refine XA.drop (ls := [none, none, none, none]) (by simp [leL]) ?_
            simpa only [if_neg c3] using hJ146
      · have H := H.2.2.2.1 e9
        obtain ⟨o1, H⟩ := H
        refine XA.blk (e9 := 165) (ok := inB x1 10 && (true)) (ls' := [some (.ref 3), some (.int x1), some (.int x2), some (.int x3)]) (st' := []) (h' := hs (su σ 7 (Int32.toNatClampNeg x1) (x3 - 97))) [(.aload_n 0, 1, 0, 0, 0, 0, 0, 0), (.getfield 47, 3, 8, 3, 5, 130, 0, 0), (.iload_n 1, 1, 1, 0, 0, 0, 0, 0), (.iload_n 3, 1, 3, 0, 0, 0, 0, 0), (.bipush 97, 2, 0, 0, 0, 0, 97, 0), (.isub, 1, 0, 0, 0, 0, 0, 0), (.iastore, 1, 0, 0, 0, 0, 0, 0)] (by decide +kernel) rfl (by simp only [o1, Bool.and_true, Bool.true_and]) ?_
        obtain ⟨σ4, hσ4⟩ : ∃ s9, s9 = (su σ 7 (Int32.toNatClampNeg x1) (x3 - 97)) := ⟨_, rfl⟩
        rw [← hσ4]
        have H := H σ4 hσ4
        refine XA.blk (e9 := 168) (ok := true) (ls' := [some (.ref 3), some (.int x1), some (.int x2), some (.int x3)]) (st' := [.int 97, .int x3]) (h' := hs σ4) [(.iload_n 3, 1, 3, 0, 0, 0, 0, 0), (.bipush 97, 2, 0, 0, 0, 0, 97, 0)] (by decide +kernel) rfl rfl ?_
        have hJ168 : XA scr 3 mX7_takes 172 4705 182 [none, none, none, none] [.int (if x3 < 97 then 0 else (if 120 < x3 then 0 else 1 : Int32) : Int32)] (hs σ4) (pI P) := by
          exact XA.ret (some (.int (if x3 < 97 then 0 else (if 120 < x3 then 0 else 1 : Int32) : Int32))) rfl (show ckRt mX7_takes 182 .ireturn = true by decide +kernel) H.1 (Nat.le_of_ble_eq_true rfl) (Nat.le_of_ble_eq_true rfl) ⟨_, _, rfl, rfl, H.2⟩
        refine XA.icmp_lt (13) 181 (by decide +kernel) (fun c2 => ?_) (fun c2 => ?_)
        · refine XA.blk (e9 := 182) (ok := true) (ls' := [some (.ref 3), some (.int x1), some (.int x2), some (.int x3)]) (st' := [.int 0]) (h' := hs σ4) [(.iconst 0, 1, 0, 0, 0, 0, 0, 0)] (by decide +kernel) rfl rfl ?_
          refine XA.drop (ls := [none, none, none, none]) (by simp [leL]) ?_
          simpa only [if_pos c2] using hJ168
        · refine XA.blk (e9 := 174) (ok := true) (ls' := [some (.ref 3), some (.int x1), some (.int x2), some (.int x3)]) (st' := [.int 120, .int x3]) (h' := hs σ4) [(.iload_n 3, 1, 3, 0, 0, 0, 0, 0), (.bipush 120, 2, 0, 0, 0, 0, 120, 0)] (by decide +kernel) rfl rfl ?_
          have hJ174 : XA scr 3 mX7_takes 172 4705 182 [none, none, none, none] [.int (if 120 < x3 then 0 else 1 : Int32)] (hs σ4) (pI P) := by
            simpa only [if_neg c2] using hJ168
          refine XA.icmp_gt (7) 181 (by decide +kernel) (fun c3 => ?_) (fun c3 => ?_)
          · refine XA.blk (e9 := 182) (ok := true) (ls' := [some (.ref 3), some (.int x1), some (.int x2), some (.int x3)]) (st' := [.int 0]) (h' := hs σ4) [(.iconst 0, 1, 0, 0, 0, 0, 0, 0)] (by decide +kernel) rfl rfl ?_
            refine XA.drop (ls := [none, none, none, none]) (by simp [leL]) ?_
            simpa only [if_pos c3] using hJ174
          · refine XA.blk (e9 := 182) (ok := true) (ls' := [some (.ref 3), some (.int x1), some (.int x2), some (.int x3)]) (st' := [.int 1]) (h' := hs σ4) [(.iconst 1, 1, 0, 0, 0, 0, 1, 0), (.goto 4, 3, 182, 0, 0, 0, 0, 0)] (by decide +kernel) rfl rfl ?_
            refine XA.drop (ls := [none, none, none, none]) (by simp [leL]) ?_
            simpa only [if_neg c3] using hJ174
      · have H := H.2.2.2.2.1 e9
        refine XA.blk (e9 := 189) (ok := true) (ls' := [some (.ref 3), some (.int x1), some (.int x2), some (.int x3)]) (st' := [.int (x3 - 48), .int x1, .ref 3]) (h' := hs σ) [(.aload_n 0, 1, 0, 0, 0, 0, 0, 0), (.iload_n 1, 1, 1, 0, 0, 0, 0, 0), (.iload_n 3, 1, 3, 0, 0, 0, 0, 0), (.bipush 48, 2, 0, 0, 0, 0, 48, 0), (.isub, 1, 0, 0, 0, 0, 0, 0)] (by decide +kernel) rfl rfl ?_
        refine XA.callS (as := [.ref 3, .int x1, .int (x3 - 48)]) (rest := []) (mc' := 0) (ms' := 0) (idx := 50) (t := 471) cs_X7_takesPlace (by decide +kernel) rfl rfl (Nat.le_of_ble_eq_true rfl) (Nat.le_of_ble_eq_true rfl) (Nat.le_of_ble_eq_true rfl) (Nat.le_of_ble_eq_true rfl) (H) (fun rv h' hp => ?_)
        obtain ⟨r9, s9, rfl, rfl, hK⟩ := hp
        exact ⟨rfl, rfl, XA.drop (by simp [leL]) hK⟩
    · have H := H.2.2.2.2.2 (e9 (0, 48) (by simp)) (e9 (1, 99) (by simp)) (e9 (2, 127) (by simp)) (e9 (3, 155) (by simp)) (e9 (4, 183) (by simp))
      refine XA.blk (e9 := 196) (ok := true) (ls' := [some (.ref 3), some (.int x1), some (.int x2), some (.int x3)]) (st' := [.int 59, .int x3]) (h' := hs σ) [(.iload_n 3, 1, 3, 0, 0, 0, 0, 0), (.bipush 59, 2, 0, 0, 0, 0, 59, 0)] (by decide +kernel) rfl rfl ?_
      have hJ196 : XA scr 3 mX7_takes 172 4705 204 [none, none, none, none] [.int (if ¬ x3 = 59 then 0 else 1 : Int32)] (hs σ) (pI P) := by
        exact XA.ret (some (.int (if ¬ x3 = 59 then 0 else 1 : Int32))) rfl (show ckRt mX7_takes 204 .ireturn = true by decide +kernel) H.1 (Nat.le_of_ble_eq_true rfl) (Nat.le_of_ble_eq_true rfl) ⟨_, _, rfl, rfl, H.2⟩
      refine XA.icmp_ne (7) 203 (by decide +kernel) (fun c2 => ?_) (fun c2 => ?_)
      · refine XA.blk (e9 := 204) (ok := true) (ls' := [some (.ref 3), some (.int x1), some (.int x2), some (.int x3)]) (st' := [.int 0]) (h' := hs σ) [(.iconst 0, 1, 0, 0, 0, 0, 0, 0)] (by decide +kernel) rfl rfl ?_
        refine XA.drop (ls := [none, none, none, none]) (by simp [leL]) ?_
        simpa only [if_pos c2] using hJ196
      · refine XA.blk (e9 := 204) (ok := true) (ls' := [some (.ref 3), some (.int x1), some (.int x2), some (.int x3)]) (st' := [.int 1]) (h' := hs σ) [(.iconst 1, 1, 0, 0, 0, 0, 1, 0), (.goto 4, 3, 204, 0, 0, 0, 0, 0)] (by decide +kernel) rfl rfl ?_
        refine XA.drop (ls := [none, none, none, none]) (by simp [leL]) ?_
        simpa only [if_neg (not_not_intro c2)] using hJ196
  · have H := H.2 c1
    refine XA.blk (e9 := 10) (ok := true) (ls' := [some (.ref 3), some (.int x1), some (.int x2), some (.int x3)]) (st' := [.int 0]) (h' := hs σ) [(.iconst 0, 1, 0, 0, 0, 0, 0, 0)] (by decide +kernel) rfl rfl ?_
    exact XA.ret (some (.int 0)) rfl (show ckRt mX7_takes 10 .ireturn = true by decide +kernel) (Or.inl rfl) (Nat.le_of_ble_eq_true rfl) (Nat.le_of_ble_eq_true rfl) ⟨_, _, rfl, rfl, H⟩
set_option maxRecDepth 20000 in
theorem W_X7_takes_192 {scr : ScA}   {y0 : Int32}  {σ : Nat → Nat → Int32} {P : Int32 → (Nat → Nat → Int32) → Prop} (H : ((y0 : Int32) = 0 ∨ (y0 : Int32) = 1) ∧ P y0 σ) : K_X7_takes_192 scr y0 σ P := by
  show XA scr 3 mX7_takes 172 4705 192 [none, none, none, none] [.int y0] (hs σ) (pI P)
  exact XA.ret (some (.int y0)) rfl (show ckRt mX7_takes 192 .ireturn = true by decide +kernel) H.1 (Nat.le_of_ble_eq_true rfl) (Nat.le_of_ble_eq_true rfl) ⟨_, _, rfl, rfl, H.2⟩
theorem E_X7_takes {scr : ScA}  {x1 : Int32} {x2 : Int32} {x3 : Int32} {σ : Nat → Nat → Int32} {P : Int32 → (Nat → Nat → Int32) → Prop} (h : K_X7_takes_0 scr x1 x2 x3 σ P) : CiA scr 3 mX7_takes [.ref 3, .int x1, .int x2, .int x3] σ P := CtA.of (by decide) (Nat.le_of_ble_eq_true rfl) (XA.drop (by simp [leL, enL]) h)
def K_X7_castInto_0 (scr : ScA)   (σ : Nat → Nat → Int32) (P : Int32 → (Nat → Nat → Int32) → Prop) : Prop := XA scr 4 mX7_castInto 172 4705 0 [some (.ref 1), some (.ref 3), none, none] [] (hs σ) (pI P)
def K_X7_castInto_4 (scr : ScA)   (σ : Nat → Nat → Int32) (P : Int32 → (Nat → Nat → Int32) → Prop) : Prop := XA scr 4 mX7_castInto 172 4705 4 [some (.ref 1), some (.ref 3), none, none] [] (hs σ) (pI P)
def K_X7_castInto_16 (scr : ScA)  (x2 : Int32) (x3 : Int32) (σ : Nat → Nat → Int32) (P : Int32 → (Nat → Nat → Int32) → Prop) : Prop := XA scr 4 mX7_castInto 172 4705 16 [some (.ref 1), some (.ref 3), some (.int x2), some (.int x3)] [] (hs σ) (pI P)
def K_X7_castInto_39 (scr : ScA)  (x2 : Int32) (x3 : Int32) (y0 : Int32) (σ : Nat → Nat → Int32) (P : Int32 → (Nat → Nat → Int32) → Prop) : Prop := XA scr 4 mX7_castInto 172 4705 39 [some (.ref 1), some (.ref 3), some (.int x2), some (.int x3)] [.int y0] (hs σ) (pI P)
def K_X7_castInto_46 (scr : ScA)  (x3 : Int32) (σ : Nat → Nat → Int32) (P : Int32 → (Nat → Nat → Int32) → Prop) : Prop := XA scr 4 mX7_castInto 172 4705 46 [none, none, none, some (.int x3)] [] (hs σ) (pI P)
def K_X7_castInto_80 (scr : ScA)  (x2 : Int32) (σ : Nat → Nat → Int32) (P : Int32 → (Nat → Nat → Int32) → Prop) : Prop := XA scr 4 mX7_castInto 172 4705 80 [none, none, some (.int x2), none] [] (hs σ) (pI P)
set_option maxRecDepth 20000 in
theorem W_X7_castInto_0 {scr : ScA}     {σ : Nat → Nat → Int32} {P : Int32 → (Nat → Nat → Int32) → Prop} (H : CvA scr 1 mX8_dismiss [.ref 3] σ (fun σ' => K_X7_castInto_4 scr σ' P)) : K_X7_castInto_0 scr σ P := by
  show XA scr 4 mX7_castInto 172 4705 0 [some (.ref 1), some (.ref 3), none, none] [] (hs σ) (pI P)
  refine XA.blk (e9 := 1) (ok := true) (ls' := [some (.ref 1), some (.ref 3), none, none]) (st' := [.ref 3]) (h' := hs σ) [(.aload_n 1, 1, 1, 0, 0, 0, 0, 0)] (by decide +kernel) rfl rfl ?_
  refine XA.callV (as := []) (rest := []) (mc' := 0) (ms' := 0) (idx := 19) (t := 460) cv_X8_dismiss (by decide +kernel) rfl rfl rfl (Nat.le_of_ble_eq_true rfl) (Nat.le_of_ble_eq_true rfl) (Nat.le_of_ble_eq_true rfl) (Nat.le_of_ble_eq_true rfl) (H) (fun rv h' hp => ?_)
  obtain ⟨s9, rfl, rfl, hK⟩ := hp
  exact ⟨rfl, rfl, hK⟩
set_option maxRecDepth 20000 in
theorem W_X7_castInto_4 {scr : ScA}     {σ : Nat → Nat → Int32} {P : Int32 → (Nat → Nat → Int32) → Prop} (H : K_X7_castInto_16 scr (if 59 < σ 1 1 then 59 else σ 1 1 : Int32) 0 σ P) : K_X7_castInto_4 scr σ P := by
  show XA scr 4 mX7_castInto 172 4705 4 [some (.ref 1), some (.ref 3), none, none] [] (hs σ) (pI P)
  refine XA.blk (e9 := 16) (ok := true) (ls' := [some (.ref 1), some (.ref 3), some (.int (if 59 < σ 1 1 then 59 else σ 1 1 : Int32)), some (.int 0)]) (st' := []) (h' := hs σ) [(.aload_n 0, 1, 0, 0, 0, 0, 0, 0), (.getfield 15, 3, 7, 1, 0, 96, 0, 0), (.bipush 59, 2, 0, 0, 0, 0, 59, 0), (.invokestatic 24, 3, 1, 0, 0, 464, 0, 0), (.istore_n 2, 1, 2, 0, 0, 0, 0, 0), (.iconst 0, 1, 0, 0, 0, 0, 0, 0), (.istore_n 3, 1, 3, 0, 0, 0, 0, 0)] (by decide +kernel) rfl rfl ?_
  exact H
set_option maxRecDepth 20000 in
theorem W_X7_castInto_16 {scr : ScA}   {x2 : Int32} {x3 : Int32}  {σ : Nat → Nat → Int32} {P : Int32 → (Nat → Nat → Int32) → Prop} (H : (x2 ≤ x3 → (¬ (if x2 = 0 then 1 else (if ¬ (x2 - x2 / 6 * 6) = 5 then 0 else 1 : Int32) : Int32) = 0 → P (-1) σ) ∧ ((if x2 = 0 then 1 else (if ¬ (x2 - x2 / 6 * 6) = 5 then 0 else 1 : Int32) : Int32) = 0 → CvA scr 1 mX8_dismiss [.ref 3] σ (fun σ' => K_X7_castInto_80 scr x2 σ' P))) ∧ (¬ x2 ≤ x3 → (inB x3 59 = true) ∧ (CiA scr 3 mX7_takes [.ref 3, .int (x3 / 6), .int (x3 - x3 / 6 * 6), .int (σ 2 (Int32.toNatClampNeg x3))] σ (fun r9 σ' => K_X7_castInto_39 scr x2 x3 r9 σ' P)))) : K_X7_castInto_16 scr x2 x3 σ P := by
  show XA scr 4 mX7_castInto 172 4705 16 [some (.ref 1), some (.ref 3), some (.int x2), some (.int x3)] [] (hs σ) (pI P)
  refine XA.blk (e9 := 18) (ok := true) (ls' := [some (.ref 1), some (.ref 3), some (.int x2), some (.int x3)]) (st' := [.int x2, .int x3]) (h' := hs σ) [(.iload_n 3, 1, 3, 0, 0, 0, 0, 0), (.iload_n 2, 1, 2, 0, 0, 0, 0, 0)] (by decide +kernel) rfl rfl ?_
  refine XA.icmp_ge (36) 54 (by decide +kernel) (fun c1 => ?_) (fun c1 => ?_)
  · have H := H.1 c1
    refine XA.blk (e9 := 55) (ok := true) (ls' := [some (.ref 1), some (.ref 3), some (.int x2), some (.int x3)]) (st' := [.int x2]) (h' := hs σ) [(.iload_n 2, 1, 2, 0, 0, 0, 0, 0)] (by decide +kernel) rfl rfl ?_
    have hJ55 : XA scr 4 mX7_castInto 172 4705 71 [none, some (.ref 3), some (.int x2), none] [.int (if x2 = 0 then 1 else (if ¬ (x2 - x2 / 6 * 6) = 5 then 0 else 1 : Int32) : Int32)] (hs σ) (pI P) := by
      refine XA.blk (e9 := 73) (ok := true) (ls' := [none, some (.ref 3), some (.int x2), some (.int (if x2 = 0 then 1 else (if ¬ (x2 - x2 / 6 * 6) = 5 then 0 else 1 : Int32) : Int32))]) (st' := [.int (if x2 = 0 then 1 else (if ¬ (x2 - x2 / 6 * 6) = 5 then 0 else 1 : Int32) : Int32)]) (h' := hs σ) [(.istore_n 3, 1, 3, 0, 0, 0, 0, 0), (.iload_n 3, 1, 3, 0, 0, 0, 0, 0)] (by decide +kernel) rfl rfl ?_
      refine XA.if_ne (9) 82 (by decide +kernel) (fun c2 => ?_) (fun c2 => ?_)
      · have H := H.1 c2
        refine XA.blk (e9 := 83) (ok := true) (ls' := [none, some (.ref 3), some (.int x2), some (.int (if x2 = 0 then 1 else (if ¬ (x2 - x2 / 6 * 6) = 5 then 0 else 1 : Int32) : Int32))]) (st' := [.int (-1)]) (h' := hs σ) [(.iconst (-1), 1, 0, 0, 0, 0, (-1), 0)] (by decide +kernel) rfl rfl ?_
        exact XA.ret (some (.int (-1))) rfl (show ckRt mX7_castInto 83 .ireturn = true by decide +kernel) trivial (Nat.le_of_ble_eq_true rfl) (Nat.le_of_ble_eq_true rfl) ⟨_, _, rfl, rfl, H⟩
      · have H := H.2 c2
        refine XA.blk (e9 := 77) (ok := true) (ls' := [none, some (.ref 3), some (.int x2), some (.int (if x2 = 0 then 1 else (if ¬ (x2 - x2 / 6 * 6) = 5 then 0 else 1 : Int32) : Int32))]) (st' := [.ref 3]) (h' := hs σ) [(.aload_n 1, 1, 1, 0, 0, 0, 0, 0)] (by decide +kernel) rfl rfl ?_
        refine XA.callV (as := []) (rest := []) (mc' := 0) (ms' := 0) (idx := 19) (t := 460) cv_X8_dismiss (by decide +kernel) rfl rfl rfl (Nat.le_of_ble_eq_true rfl) (Nat.le_of_ble_eq_true rfl) (Nat.le_of_ble_eq_true rfl) (Nat.le_of_ble_eq_true rfl) (H) (fun rv h' hp => ?_)
        obtain ⟨s9, rfl, rfl, hK⟩ := hp
        exact ⟨rfl, rfl, XA.drop (by simp [leL]) hK⟩
    refine XA.if_eq (11) 66 (by decide +kernel) (fun c2 => ?_) (fun c2 => ?_)
    · refine XA.blk (e9 := 71) (ok := true) (ls' := [some (.ref 1), some (.ref 3), some (.int x2), some (.int x3)]) (st' := [.int 1]) (h' := hs σ) [(.iconst 1, 1, 0, 0, 0, 0, 1, 0), (.goto 4, 3, 71, 0, 0, 0, 0, 0)] (by decide +kernel) rfl rfl ?_
      refine XA.drop (ls := [none, some (.ref 3), some (.int x2), none]) (by simp [leL]) ?_
      simpa only [if_pos c2] using hJ55
    · refine XA.blk (e9 := 63) (ok := true) (ls' := [some (.ref 1), some (.ref 3), some (.int x2), some (.int x3)]) (st' := [.int 5, .int (x2 - x2 / 6 * 6)]) (h' := hs σ) [(.iload_n 2, 1, 2, 0, 0, 0, 0, 0), (.bipush 6, 2, 0, 0, 0, 0, 6, 0), (.irem, 1, 0, 0, 0, 0, 0, 0), (.iconst 5, 1, 0, 0, 0, 0, 5, 0)] (by decide +kernel) rfl rfl ?_
      have hJ63 : XA scr 4 mX7_castInto 172 4705 71 [none, some (.ref 3), some (.int x2), none] [.int (if ¬ (x2 - x2 / 6 * 6) = 5 then 0 else 1 : Int32)] (hs σ) (pI P) := by
        simpa only [if_neg c2] using hJ55
      refine XA.icmp_ne (7) 70 (by decide +kernel) (fun c3 => ?_) (fun c3 => ?_)
      · refine XA.blk (e9 := 71) (ok := true) (ls' := [some (.ref 1), some (.ref 3), some (.int x2), some (.int x3)]) (st' := [.int 0]) (h' := hs σ) [(.iconst 0, 1, 0, 0, 0, 0, 0, 0)] (by decide +kernel) rfl rfl ?_
        refine XA.drop (ls := [none, some (.ref 3), some (.int x2), none]) (by simp [leL]) ?_
        simpa only [if_pos c3] using hJ63
      · refine XA.blk (e9 := 71) (ok := true) (ls' := [some (.ref 1), some (.ref 3), some (.int x2), some (.int x3)]) (st' := [.int 1]) (h' := hs σ) [(.iconst 1, 1, 0, 0, 0, 0, 1, 0), (.goto 4, 3, 71, 0, 0, 0, 0, 0)] (by decide +kernel) rfl rfl ?_
        refine XA.drop (ls := [none, some (.ref 3), some (.int x2), none]) (by simp [leL]) ?_
        simpa only [if_neg (not_not_intro c3)] using hJ63
  · have H := H.2 c1
    obtain ⟨o1, H⟩ := H
    refine XA.blk (e9 := 36) (ok := inB x3 59 && (true)) (ls' := [some (.ref 1), some (.ref 3), some (.int x2), some (.int x3)]) (st' := [.int (σ 2 (Int32.toNatClampNeg x3)), .int (x3 - x3 / 6 * 6), .int (x3 / 6), .ref 3]) (h' := hs σ) [(.aload_n 1, 1, 1, 0, 0, 0, 0, 0), (.iload_n 3, 1, 3, 0, 0, 0, 0, 0), (.bipush 6, 2, 0, 0, 0, 0, 6, 0), (.idiv, 1, 0, 0, 0, 0, 0, 0), (.iload_n 3, 1, 3, 0, 0, 0, 0, 0), (.bipush 6, 2, 0, 0, 0, 0, 6, 0), (.irem, 1, 0, 0, 0, 0, 0, 0), (.aload_n 0, 1, 0, 0, 0, 0, 0, 0), (.getfield 9, 3, 7, 0, 2, 95, 0, 0), (.iload_n 3, 1, 3, 0, 0, 0, 0, 0), (.iaload, 1, 0, 0, 0, 0, 0, 0)] (by decide +kernel) rfl (by simp only [o1, Bool.and_true, Bool.true_and]) ?_
    refine XA.callS (as := [.ref 3, .int (x3 / 6), .int (x3 - x3 / 6 * 6), .int (σ 2 (Int32.toNatClampNeg x3))]) (rest := []) (mc' := 0) (ms' := 0) (idx := 30) (t := 467) cs_X7_takes (by decide +kernel) rfl rfl (Nat.le_of_ble_eq_true rfl) (Nat.le_of_ble_eq_true rfl) (Nat.le_of_ble_eq_true rfl) (Nat.le_of_ble_eq_true rfl) (H) (fun rv h' hp => ?_)
    obtain ⟨r9, s9, rfl, rfl, hK⟩ := hp
    exact ⟨rfl, rfl, hK⟩
set_option maxRecDepth 20000 in
theorem W_X7_castInto_39 {scr : ScA}   {x2 : Int32} {x3 : Int32} {y0 : Int32}  {σ : Nat → Nat → Int32} {P : Int32 → (Nat → Nat → Int32) → Prop} (H : (¬ y0 = 0 → K_X7_castInto_16 scr x2 (x3 + 1) σ P) ∧ (y0 = 0 → CvA scr 1 mX8_dismiss [.ref 3] σ (fun σ' => K_X7_castInto_46 scr x3 σ' P))) : K_X7_castInto_39 scr x2 x3 y0 σ P := by
  show XA scr 4 mX7_castInto 172 4705 39 [some (.ref 1), some (.ref 3), some (.int x2), some (.int x3)] [.int y0] (hs σ) (pI P)
  refine XA.if_ne (9) 48 (by decide +kernel) (fun c1 => ?_) (fun c1 => ?_)
  · have H := H.1 c1
    refine XA.blk (e9 := 16) (ok := true) (ls' := [some (.ref 1), some (.ref 3), some (.int x2), some (.int (x3 + 1))]) (st' := []) (h' := hs σ) [(.iinc 3 1, 3, 3, 0, 0, 0, 1, 0), (.goto (-35), 3, 16, 0, 0, 0, 0, 0)] (by decide +kernel) rfl rfl ?_
    exact H
  · have H := H.2 c1
    refine XA.blk (e9 := 43) (ok := true) (ls' := [some (.ref 1), some (.ref 3), some (.int x2), some (.int x3)]) (st' := [.ref 3]) (h' := hs σ) [(.aload_n 1, 1, 1, 0, 0, 0, 0, 0)] (by decide +kernel) rfl rfl ?_
    refine XA.callV (as := []) (rest := []) (mc' := 0) (ms' := 0) (idx := 19) (t := 460) cv_X8_dismiss (by decide +kernel) rfl rfl rfl (Nat.le_of_ble_eq_true rfl) (Nat.le_of_ble_eq_true rfl) (Nat.le_of_ble_eq_true rfl) (Nat.le_of_ble_eq_true rfl) (H) (fun rv h' hp => ?_)
    obtain ⟨s9, rfl, rfl, hK⟩ := hp
    exact ⟨rfl, rfl, XA.drop (by simp [leL]) hK⟩
set_option maxRecDepth 20000 in
theorem W_X7_castInto_46 {scr : ScA}   {x3 : Int32}  {σ : Nat → Nat → Int32} {P : Int32 → (Nat → Nat → Int32) → Prop} (H : P x3 σ) : K_X7_castInto_46 scr x3 σ P := by
  show XA scr 4 mX7_castInto 172 4705 46 [none, none, none, some (.int x3)] [] (hs σ) (pI P)
  refine XA.blk (e9 := 47) (ok := true) (ls' := [none, none, none, some (.int x3)]) (st' := [.int x3]) (h' := hs σ) [(.iload_n 3, 1, 3, 0, 0, 0, 0, 0)] (by decide +kernel) rfl rfl ?_
  exact XA.ret (some (.int x3)) rfl (show ckRt mX7_castInto 47 .ireturn = true by decide +kernel) trivial (Nat.le_of_ble_eq_true rfl) (Nat.le_of_ble_eq_true rfl) ⟨_, _, rfl, rfl, H⟩
set_option maxRecDepth 20000 in
theorem W_X7_castInto_80 {scr : ScA}   {x2 : Int32}  {σ : Nat → Nat → Int32} {P : Int32 → (Nat → Nat → Int32) → Prop} (H : P x2 σ) : K_X7_castInto_80 scr x2 σ P := by
  show XA scr 4 mX7_castInto 172 4705 80 [none, none, some (.int x2), none] [] (hs σ) (pI P)
  refine XA.blk (e9 := 81) (ok := true) (ls' := [none, none, some (.int x2), none]) (st' := [.int x2]) (h' := hs σ) [(.iload_n 2, 1, 2, 0, 0, 0, 0, 0)] (by decide +kernel) rfl rfl ?_
  exact XA.ret (some (.int x2)) rfl (show ckRt mX7_castInto 81 .ireturn = true by decide +kernel) trivial (Nat.le_of_ble_eq_true rfl) (Nat.le_of_ble_eq_true rfl) ⟨_, _, rfl, rfl, H⟩
theorem E_X7_castInto {scr : ScA}   {σ : Nat → Nat → Int32} {P : Int32 → (Nat → Nat → Int32) → Prop} (h : K_X7_castInto_0 scr σ P) : CiA scr 4 mX7_castInto [.ref 1, .ref 3] σ P := CtA.of (by decide) (Nat.le_of_ble_eq_true rfl) (XA.drop (by simp [leL, enL]) h)
