def K_X5_begin_0 (scr : ScA) (k : Nat)  (σ : Nat → Nat → Int32) (P : (Nat → Nat → Int32) → Prop) : Prop := XA scr 1 mX5_begin 172 4705 0 [some (.ref k)] [] (hs σ) (pV P)
def K_X5_begin_8 (scr : ScA) (k : Nat)  (σ : Nat → Nat → Int32) (P : (Nat → Nat → Int32) → Prop) : Prop := XA scr 1 mX5_begin 172 4705 8 [some (.ref k)] [] (hs σ) (pV P)
def K_X5_begin_16 (scr : ScA) (k : Nat)  (σ : Nat → Nat → Int32) (P : (Nat → Nat → Int32) → Prop) : Prop := XA scr 1 mX5_begin 172 4705 16 [some (.ref k)] [] (hs σ) (pV P)
def K_X5_begin_24 (scr : ScA) (k : Nat)  (σ : Nat → Nat → Int32) (P : (Nat → Nat → Int32) → Prop) : Prop := XA scr 1 mX5_begin 172 4705 24 [some (.ref k)] [] (hs σ) (pV P)
set_option maxRecDepth 20000 in
theorem W_X5_begin_0 {scr : ScA} {k : Nat} (hk : isSw k)   {σ : Nat → Nat → Int32} {P : (Nat → Nat → Int32) → Prop} (H : CvA scr 0 mJ7_fill_53178 [.ref (k + 2), .int 0] σ (fun σ' => K_X5_begin_8 scr k σ' P)) : K_X5_begin_0 scr k σ P := by
  show XA scr 1 mX5_begin 172 4705 0 [some (.ref k)] [] (hs σ) (pV P)
  refine XA.blk (e9 := 5) (ok := (kO 172 S0 k 5 && kR R0 k 2 (k + 2)) && (true)) (ls' := [some (.ref k)]) (st' := [.int 0, .ref (k + 2)]) (h' := hs σ) [(.aload_n 0, 1, 0, 0, 0, 0, 0, 0), (.getfield 15, 3, 5, 2, 3, 218, 0, 0), (.iconst 0, 1, 0, 0, 0, 0, 0, 0)] (by decide +kernel) rfl (by simp only [swO hk, swR2 hk, Bool.and_true, Bool.true_and]) ?_
  refine XA.callS (as := [.ref (k + 2), .int 0]) (rest := []) (mc' := 0) (ms' := 0) (idx := 80) (t := 554) cs_J7_fill_53178 (by decide +kernel) rfl rfl (Nat.le_of_ble_eq_true rfl) (Nat.le_of_ble_eq_true rfl) (Nat.le_of_ble_eq_true rfl) (Nat.le_of_ble_eq_true rfl) (H) (fun rv h' hp => ?_)
  obtain ⟨s9, rfl, rfl, hK⟩ := hp
  exact ⟨rfl, rfl, hK⟩
set_option maxRecDepth 20000 in
theorem W_X5_begin_8 {scr : ScA} {k : Nat} (hk : isSw k)   {σ : Nat → Nat → Int32} {P : (Nat → Nat → Int32) → Prop} (H : CvA scr 0 mJ7_fill_53178 [.ref (k + 3), .int 0] σ (fun σ' => K_X5_begin_16 scr k σ' P)) : K_X5_begin_8 scr k σ P := by
  show XA scr 1 mX5_begin 172 4705 8 [some (.ref k)] [] (hs σ) (pV P)
  refine XA.blk (e9 := 13) (ok := (kO 172 S0 k 5 && kR R0 k 3 (k + 3)) && (true)) (ls' := [some (.ref k)]) (st' := [.int 0, .ref (k + 3)]) (h' := hs σ) [(.aload_n 0, 1, 0, 0, 0, 0, 0, 0), (.getfield 18, 3, 5, 3, 4, 219, 0, 0), (.iconst 0, 1, 0, 0, 0, 0, 0, 0)] (by decide +kernel) rfl (by simp only [swO hk, swR3 hk, Bool.and_true, Bool.true_and]) ?_
  refine XA.callS (as := [.ref (k + 3), .int 0]) (rest := []) (mc' := 0) (ms' := 0) (idx := 80) (t := 554) cs_J7_fill_53178 (by decide +kernel) rfl rfl (Nat.le_of_ble_eq_true rfl) (Nat.le_of_ble_eq_true rfl) (Nat.le_of_ble_eq_true rfl) (Nat.le_of_ble_eq_true rfl) (H) (fun rv h' hp => ?_)
  obtain ⟨s9, rfl, rfl, hK⟩ := hp
  exact ⟨rfl, rfl, hK⟩
set_option maxRecDepth 20000 in
theorem W_X5_begin_16 {scr : ScA} {k : Nat} (hk : isSw k)   {σ : Nat → Nat → Int32} {P : (Nat → Nat → Int32) → Prop} (H : CvA scr 0 mJ7_fill_53178 [.ref (k + 4), .int (-1)] σ (fun σ' => K_X5_begin_24 scr k σ' P)) : K_X5_begin_16 scr k σ P := by
  show XA scr 1 mX5_begin 172 4705 16 [some (.ref k)] [] (hs σ) (pV P)
  refine XA.blk (e9 := 21) (ok := (kO 172 S0 k 5 && kR R0 k 4 (k + 4)) && (true)) (ls' := [some (.ref k)]) (st' := [.int (-1), .ref (k + 4)]) (h' := hs σ) [(.aload_n 0, 1, 0, 0, 0, 0, 0, 0), (.getfield 21, 3, 5, 4, 5, 221, 0, 0), (.iconst (-1), 1, 0, 0, 0, 0, (-1), 0)] (by decide +kernel) rfl (by simp only [swO hk, swR4 hk, Bool.and_true, Bool.true_and]) ?_
  refine XA.callS (as := [.ref (k + 4), .int (-1)]) (rest := []) (mc' := 0) (ms' := 0) (idx := 80) (t := 554) cs_J7_fill_53178 (by decide +kernel) rfl rfl (Nat.le_of_ble_eq_true rfl) (Nat.le_of_ble_eq_true rfl) (Nat.le_of_ble_eq_true rfl) (Nat.le_of_ble_eq_true rfl) (H) (fun rv h' hp => ?_)
  obtain ⟨s9, rfl, rfl, hK⟩ := hp
  exact ⟨rfl, rfl, hK⟩
set_option maxRecDepth 20000 in
theorem W_X5_begin_24 {scr : ScA} {k : Nat} (hk : isSw k)   {σ : Nat → Nat → Int32} {P : (Nat → Nat → Int32) → Prop} (H : ∀ σ1, σ1 = (su σ k 6 0) → ∀ σ2, σ2 = (su σ1 k 10 0) → ∀ σ3, σ3 = (su σ2 k 11 0) → ∀ σ4, σ4 = (su σ3 k 12 24) → P σ4) : K_X5_begin_24 scr k σ P := by
  show XA scr 1 mX5_begin 172 4705 24 [some (.ref k)] [] (hs σ) (pV P)
  refine XA.blk (e9 := 29) (ok := kO 172 S0 k 5 && (true)) (ls' := [some (.ref k)]) (st' := []) (h' := hs (su σ k 6 0)) [(.aload_n 0, 1, 0, 0, 0, 0, 0, 0), (.iconst 0, 1, 0, 0, 0, 0, 0, 0), (.putfield 65, 3, 5, 6, 0, 223, 0, 0)] (by decide +kernel) rfl (by simp only [swO hk, Bool.and_true, Bool.true_and]) ?_
  obtain ⟨σ1, hσ1⟩ : ∃ s9, s9 = (su σ k 6 0) := ⟨_, rfl⟩
  rw [← hσ1]
  have H := H σ1 hσ1
  refine XA.blk (e9 := 34) (ok := kO 172 S0 k 5 && (true)) (ls' := [some (.ref k)]) (st' := []) (h' := hs (su σ1 k 10 0)) [(.aload_n 0, 1, 0, 0, 0, 0, 0, 0), (.iconst 0, 1, 0, 0, 0, 0, 0, 0), (.putfield 68, 3, 5, 10, 0, 227, 0, 0)] (by decide +kernel) rfl (by simp only [swO hk, Bool.and_true, Bool.true_and]) ?_
  obtain ⟨σ2, hσ2⟩ : ∃ s9, s9 = (su σ1 k 10 0) := ⟨_, rfl⟩
  rw [← hσ2]
  have H := H σ2 hσ2
  refine XA.blk (e9 := 39) (ok := kO 172 S0 k 5 && (true)) (ls' := [some (.ref k)]) (st' := []) (h' := hs (su σ2 k 11 0)) [(.aload_n 0, 1, 0, 0, 0, 0, 0, 0), (.iconst 0, 1, 0, 0, 0, 0, 0, 0), (.putfield 61, 3, 5, 11, 0, 230, 0, 0)] (by decide +kernel) rfl (by simp only [swO hk, Bool.and_true, Bool.true_and]) ?_
  obtain ⟨σ3, hσ3⟩ : ∃ s9, s9 = (su σ2 k 11 0) := ⟨_, rfl⟩
  rw [← hσ3]
  have H := H σ3 hσ3
  refine XA.blk (e9 := 45) (ok := kO 172 S0 k 5 && (true)) (ls' := [some (.ref k)]) (st' := []) (h' := hs (su σ3 k 12 24)) [(.aload_n 0, 1, 0, 0, 0, 0, 0, 0), (.bipush 24, 2, 0, 0, 0, 0, 24, 0), (.putfield 86, 3, 5, 12, 0, 232, 0, 0)] (by decide +kernel) rfl (by simp only [swO hk, Bool.and_true, Bool.true_and]) ?_
  obtain ⟨σ4, hσ4⟩ : ∃ s9, s9 = (su σ3 k 12 24) := ⟨_, rfl⟩
  rw [← hσ4]
  have H := H σ4 hσ4
  exact XA.ret none rfl (show ckRt mX5_begin 45 .return_ = true by decide +kernel) trivial (Nat.le_of_ble_eq_true rfl) (Nat.le_of_ble_eq_true rfl) ⟨_, rfl, rfl, H⟩
theorem E_X5_begin {scr : ScA} {k : Nat}  {σ : Nat → Nat → Int32} {P : (Nat → Nat → Int32) → Prop} (h : K_X5_begin_0 scr k σ P) : CvA scr 1 mX5_begin [.ref k] σ P := CtA.of (by decide) (Nat.le_of_ble_eq_true rfl) (XA.drop (by simp [leL, enL]) h)
def K_X5_gather_0 (scr : ScA) (k v : Nat) (x2 : Int32) (x3 : Int32) (σ : Nat → Nat → Int32) (P : (Nat → Nat → Int32) → Prop) : Prop := XA scr 1 mX5_gather 172 4705 0 [some (.ref k), some (.ref v), some (.int x2), some (.int x3), none] [] (hs σ) (pV P)
def K_X5_gather_18 (scr : ScA) (k v : Nat) (x2 : Int32) (x3 : Int32) (x4 : Int32) (σ : Nat → Nat → Int32) (P : (Nat → Nat → Int32) → Prop) : Prop := XA scr 1 mX5_gather 172 4705 18 [some (.ref k), some (.ref v), some (.int x2), some (.int x3), some (.int x4)] [] (hs σ) (pV P)
set_option maxRecDepth 20000 in
theorem W_X5_gather_0 {scr : ScA} {k v : Nat} (hk : isSw k) (hv : isEv v) {x2 : Int32} {x3 : Int32}  {σ : Nat → Nat → Int32} {P : (Nat → Nat → Int32) → Prop} (H : ∀ σ1, σ1 = (su σ k 7 0) → ∀ σ2, σ2 = (su σ1 k 8 0) → ∀ σ3, σ3 = (su σ2 k 9 0) → K_X5_gather_18 scr k v x2 x3 0 σ3 P) : K_X5_gather_0 scr k v x2 x3 σ P := by
  show XA scr 1 mX5_gather 172 4705 0 [some (.ref k), some (.ref v), some (.int x2), some (.int x3), none] [] (hs σ) (pV P)
  refine XA.blk (e9 := 5) (ok := kO 172 S0 k 5 && (true)) (ls' := [some (.ref k), some (.ref v), some (.int x2), some (.int x3), none]) (st' := []) (h' := hs (su σ k 7 0)) [(.aload_n 0, 1, 0, 0, 0, 0, 0, 0), (.iconst 0, 1, 0, 0, 0, 0, 0, 0), (.putfield 89, 3, 5, 7, 0, 224, 0, 0)] (by decide +kernel) rfl (by simp only [swO hk, Bool.and_true, Bool.true_and]) ?_
  obtain ⟨σ1, hσ1⟩ : ∃ s9, s9 = (su σ k 7 0) := ⟨_, rfl⟩
  rw [← hσ1]
  have H := H σ1 hσ1
  refine XA.blk (e9 := 10) (ok := kO 172 S0 k 5 && (true)) (ls' := [some (.ref k), some (.ref v), some (.int x2), some (.int x3), none]) (st' := []) (h' := hs (su σ1 k 8 0)) [(.aload_n 0, 1, 0, 0, 0, 0, 0, 0), (.iconst 0, 1, 0, 0, 0, 0, 0, 0), (.putfield 92, 3, 5, 8, 0, 225, 0, 0)] (by decide +kernel) rfl (by simp only [swO hk, Bool.and_true, Bool.true_and]) ?_
  obtain ⟨σ2, hσ2⟩ : ∃ s9, s9 = (su σ1 k 8 0) := ⟨_, rfl⟩
  rw [← hσ2]
  have H := H σ2 hσ2
  refine XA.blk (e9 := 15) (ok := kO 172 S0 k 5 && (true)) (ls' := [some (.ref k), some (.ref v), some (.int x2), some (.int x3), none]) (st' := []) (h' := hs (su σ2 k 9 0)) [(.aload_n 0, 1, 0, 0, 0, 0, 0, 0), (.iconst 0, 1, 0, 0, 0, 0, 0, 0), (.putfield 95, 3, 5, 9, 0, 226, 0, 0)] (by decide +kernel) rfl (by simp only [swO hk, Bool.and_true, Bool.true_and]) ?_
  obtain ⟨σ3, hσ3⟩ : ∃ s9, s9 = (su σ2 k 9 0) := ⟨_, rfl⟩
  rw [← hσ3]
  have H := H σ3 hσ3
  refine XA.blk (e9 := 18) (ok := true) (ls' := [some (.ref k), some (.ref v), some (.int x2), some (.int x3), some (.int 0)]) (st' := []) (h' := hs σ3) [(.iconst 0, 1, 0, 0, 0, 0, 0, 0), (.istore 4, 2, 4, 0, 0, 0, 0, 0)] (by decide +kernel) rfl rfl ?_
  exact H
set_option maxRecDepth 20000 in
theorem W_X5_gather_18 {scr : ScA} {k v : Nat} (hk : isSw k) (hv : isEv v) {x2 : Int32} {x3 : Int32} {x4 : Int32}  {σ : Nat → Nat → Int32} {P : (Nat → Nat → Int32) → Prop} (H : ((σ v 3) ≤ x4 → P σ) ∧ (¬ (σ v 3) ≤ x4 → (inB x4 8 = true) ∧ ((¬ (σ (v + 2) (Int32.toNatClampNeg x4)) = x3 → K_X5_gather_18 scr k v x2 x3 (x4 + 1) σ P) ∧ ((σ (v + 2) (Int32.toNatClampNeg x4)) = x3 → (¬ (hbV x2 x4) = 0 → ((σ (v + 1) (Int32.toNatClampNeg x4)) = 0 → ∀ σ1, σ1 = (su σ k 7 ((σ k 7) ||| ((1 : Int32) <<< ((σ (v + 3) (Int32.toNatClampNeg x4)) &&& 31)))) → K_X5_gather_18 scr k v x2 x3 (x4 + 1) σ1 P) ∧ ((σ (v + 1) (Int32.toNatClampNeg x4)) = 1 → ∀ σ2, σ2 = (su σ k 9 ((σ k 9) + 3)) → K_X5_gather_18 scr k v x2 x3 (x4 + 1) σ2 P) ∧ (¬ (σ (v + 1) (Int32.toNatClampNeg x4)) = 0 → ¬ (σ (v + 1) (Int32.toNatClampNeg x4)) = 1 → ∀ σ3, σ3 = (su σ k 8 ((σ k 8) ||| ((1 : Int32) <<< ((σ (v + 3) (Int32.toNatClampNeg x4)) &&& 31)))) → K_X5_gather_18 scr k v x2 x3 (x4 + 1) σ3 P)) ∧ ((hbV x2 x4) = 0 → K_X5_gather_18 scr k v x2 x3 (x4 + 1) σ P))))) : K_X5_gather_18 scr k v x2 x3 x4 σ P := by
  show XA scr 1 mX5_gather 172 4705 18 [some (.ref k), some (.ref v), some (.int x2), some (.int x3), some (.int x4)] [] (hs σ) (pV P)
  refine XA.blk (e9 := 24) (ok := kO 172 S0 v 1 && (true)) (ls' := [some (.ref k), some (.ref v), some (.int x2), some (.int x3), some (.int x4)]) (st' := [.int (σ v 3), .int x4]) (h' := hs σ) [(.iload 4, 2, 4, 0, 0, 0, 0, 0), (.aload_n 1, 1, 1, 0, 0, 0, 0, 0), (.getfield 98, 3, 1, 3, 0, 173, 0, 0)] (by decide +kernel) rfl (by simp only [evO hv, Bool.and_true, Bool.true_and]) ?_
  refine XA.icmp_ge (118) 142 (by decide +kernel) (fun c1 => ?_) (fun c1 => ?_)
  · have H := H.1 c1
    exact XA.ret none rfl (show ckRt mX5_gather 142 .return_ = true by decide +kernel) trivial (Nat.le_of_ble_eq_true rfl) (Nat.le_of_ble_eq_true rfl) ⟨_, rfl, rfl, H⟩
  · have H := H.2 c1
    obtain ⟨o1, H⟩ := H
    refine XA.blk (e9 := 35) (ok := (kO 172 S0 v 1 && kR R0 v 1 (v + 2)) && (kA 172 S0 (v + 2) 1 x4 && (true))) (ls' := [some (.ref k), some (.ref v), some (.int x2), some (.int x3), some (.int x4)]) (st' := [.int x3, .int (σ (v + 2) (Int32.toNatClampNeg x4))]) (h' := hs σ) [(.aload_n 1, 1, 1, 0, 0, 0, 0, 0), (.getfield 103, 3, 1, 1, 3, 168, 0, 0), (.iload 4, 2, 4, 0, 0, 0, 0, 0), (.iaload, 1, 0, 0, 0, 0, 0, 0), (.iload_n 3, 1, 3, 0, 0, 0, 0, 0)] (by decide +kernel) rfl (by simp only [evO hv, evR1 hv, evA2 hv x4, o1, Bool.and_true, Bool.true_and]) ?_
    refine XA.icmp_ne (101) 136 (by decide +kernel) (fun c2 => ?_) (fun c2 => ?_)
    · have H := H.1 c2
      refine XA.blk (e9 := 18) (ok := true) (ls' := [some (.ref k), some (.ref v), some (.int x2), some (.int x3), some (.int (x4 + 1))]) (st' := []) (h' := hs σ) [(.iinc 4 1, 3, 4, 0, 0, 0, 1, 0), (.goto (-121), 3, 18, 0, 0, 0, 0, 0)] (by decide +kernel) rfl rfl ?_
      exact H
    · have H := H.2 c2
      refine XA.blk (e9 := 41) (ok := true) (ls' := [some (.ref k), some (.ref v), some (.int x2), some (.int x3), some (.int x4)]) (st' := [.int x4, .int x2]) (h' := hs σ) [(.iload_n 2, 1, 2, 0, 0, 0, 0, 0), (.iload 4, 2, 4, 0, 0, 0, 0, 0)] (by decide +kernel) rfl rfl ?_
      refine XA.callS (as := [.int x2, .int x4]) (rest := []) (mc' := 0) (ms' := 0) (idx := 106) (t := 559) cs_X10_hasBit (by decide +kernel) rfl rfl (Nat.le_of_ble_eq_true rfl) (Nat.le_of_ble_eq_true rfl) (Nat.le_of_ble_eq_true rfl) (Nat.le_of_ble_eq_true rfl) (pu_X10_hasBit scr σ x2 x4) (fun rv h' hp => ?_)
      obtain ⟨rfl, rfl⟩ := hp
      refine ⟨rfl, rfl, ?_⟩
      show XA scr 1 mX5_gather 172 4705 44 [some (.ref k), some (.ref v), some (.int x2), some (.int x3), some (.int x4)] [.int (hbV x2 x4)] (hs σ) (pV P)
      refine XA.if_ne (6) 50 (by decide +kernel) (fun c3 => ?_) (fun c3 => ?_)
      · have H := H.1 c3
        refine XA.blk (e9 := 57) (ok := (kO 172 S0 v 1 && kR R0 v 0 (v + 1)) && (kA 172 S0 (v + 1) 1 x4 && (true))) (ls' := [some (.ref k), some (.ref v), some (.int x2), some (.int x3), some (.int x4)]) (st' := [.int (σ (v + 1) (Int32.toNatClampNeg x4))]) (h' := hs σ) [(.aload_n 1, 1, 1, 0, 0, 0, 0, 0), (.getfield 110, 3, 1, 0, 2, 166, 0, 0), (.iload 4, 2, 4, 0, 0, 0, 0, 0), (.iaload, 1, 0, 0, 0, 0, 0, 0)] (by decide +kernel) rfl (by simp only [evO hv, evR0 hv, evA1 hv x4, o1, Bool.and_true, Bool.true_and]) ?_
        refine XA.lsw (61) [(0, 27), (1, 48)] 27 [(0, 84), (1, 105)] 118 (by decide +kernel) (fun q9 hq9 e9 => ?_) (fun e9 => ?_)
        · simp only [List.mem_cons, List.not_mem_nil, or_false] at hq9
          rcases hq9 with rfl | rfl
          · have H := H.1 e9
            refine XA.blk (e9 := 102) (ok := kO 172 S0 k 5 && ((kO 172 S0 v 1 && kR R0 v 2 (v + 3)) && (kA 172 S0 (v + 3) 1 x4 && (kO 172 S0 k 5 && (true))))) (ls' := [some (.ref k), some (.ref v), some (.int x2), some (.int x3), some (.int x4)]) (st' := []) (h' := hs (su σ k 7 ((σ k 7) ||| ((1 : Int32) <<< ((σ (v + 3) (Int32.toNatClampNeg x4)) &&& 31))))) [(.aload_n 0, 1, 0, 0, 0, 0, 0, 0), (.dup, 1, 0, 0, 0, 0, 0, 0), (.getfield 89, 3, 5, 7, 0, 224, 0, 0), (.iconst 1, 1, 0, 0, 0, 0, 1, 0), (.aload_n 1, 1, 1, 0, 0, 0, 0, 0), (.getfield 113, 3, 1, 2, 4, 170, 0, 0), (.iload 4, 2, 4, 0, 0, 0, 0, 0), (.iaload, 1, 0, 0, 0, 0, 0, 0), (.ishl, 1, 0, 0, 0, 0, 0, 0), (.ior, 1, 0, 0, 0, 0, 0, 0), (.putfield 89, 3, 5, 7, 0, 224, 0, 0)] (by decide +kernel) rfl (by simp only [swO hk, evO hv, evR2 hv, evA3 hv x4, o1, Bool.and_true, Bool.true_and]) ?_
            obtain ⟨σ1, hσ1⟩ : ∃ s9, s9 = (su σ k 7 ((σ k 7) ||| ((1 : Int32) <<< ((σ (v + 3) (Int32.toNatClampNeg x4)) &&& 31)))) := ⟨_, rfl⟩
            rw [← hσ1]
            have H := H σ1 hσ1
            refine XA.blk (e9 := 18) (ok := true) (ls' := [some (.ref k), some (.ref v), some (.int x2), some (.int x3), some (.int (x4 + 1))]) (st' := []) (h' := hs σ1) [(.goto 34, 3, 136, 0, 0, 0, 0, 0), (.iinc 4 1, 3, 4, 0, 0, 0, 1, 0), (.goto (-121), 3, 18, 0, 0, 0, 0, 0)] (by decide +kernel) rfl rfl ?_
            exact H
          · have H := H.2.1 e9
            refine XA.blk (e9 := 115) (ok := kO 172 S0 k 5 && (kO 172 S0 k 5 && (true))) (ls' := [some (.ref k), some (.ref v), some (.int x2), some (.int x3), some (.int x4)]) (st' := []) (h' := hs (su σ k 9 ((σ k 9) + 3))) [(.aload_n 0, 1, 0, 0, 0, 0, 0, 0), (.dup, 1, 0, 0, 0, 0, 0, 0), (.getfield 95, 3, 5, 9, 0, 226, 0, 0), (.iconst 3, 1, 0, 0, 0, 0, 3, 0), (.iadd, 1, 0, 0, 0, 0, 0, 0), (.putfield 95, 3, 5, 9, 0, 226, 0, 0)] (by decide +kernel) rfl (by simp only [swO hk, Bool.and_true, Bool.true_and]) ?_
            obtain ⟨σ2, hσ2⟩ : ∃ s9, s9 = (su σ k 9 ((σ k 9) + 3)) := ⟨_, rfl⟩
            rw [← hσ2]
            have H := H σ2 hσ2
            refine XA.blk (e9 := 18) (ok := true) (ls' := [some (.ref k), some (.ref v), some (.int x2), some (.int x3), some (.int (x4 + 1))]) (st' := []) (h' := hs σ2) [(.goto 21, 3, 136, 0, 0, 0, 0, 0), (.iinc 4 1, 3, 4, 0, 0, 0, 1, 0), (.goto (-121), 3, 18, 0, 0, 0, 0, 0)] (by decide +kernel) rfl rfl ?_
            exact H
        · have H := H.2.2 (e9 (0, 84) (by simp)) (e9 (1, 105) (by simp))
          refine XA.blk (e9 := 136) (ok := kO 172 S0 k 5 && ((kO 172 S0 v 1 && kR R0 v 2 (v + 3)) && (kA 172 S0 (v + 3) 1 x4 && (kO 172 S0 k 5 && (true))))) (ls' := [some (.ref k), some (.ref v), some (.int x2), some (.int x3), some (.int x4)]) (st' := []) (h' := hs (su σ k 8 ((σ k 8) ||| ((1 : Int32) <<< ((σ (v + 3) (Int32.toNatClampNeg x4)) &&& 31))))) [(.aload_n 0, 1, 0, 0, 0, 0, 0, 0), (.dup, 1, 0, 0, 0, 0, 0, 0), (.getfield 92, 3, 5, 8, 0, 225, 0, 0), (.iconst 1, 1, 0, 0, 0, 0, 1, 0), (.aload_n 1, 1, 1, 0, 0, 0, 0, 0), (.getfield 113, 3, 1, 2, 4, 170, 0, 0), (.iload 4, 2, 4, 0, 0, 0, 0, 0), (.iaload, 1, 0, 0, 0, 0, 0, 0), (.ishl, 1, 0, 0, 0, 0, 0, 0), (.ior, 1, 0, 0, 0, 0, 0, 0), (.putfield 92, 3, 5, 8, 0, 225, 0, 0)] (by decide +kernel) rfl (by simp only [swO hk, evO hv, evR2 hv, evA3 hv x4, o1, Bool.and_true, Bool.true_and]) ?_
          obtain ⟨σ3, hσ3⟩ : ∃ s9, s9 = (su σ k 8 ((σ k 8) ||| ((1 : Int32) <<< ((σ (v + 3) (Int32.toNatClampNeg x4)) &&& 31)))) := ⟨_, rfl⟩
          rw [← hσ3]
          have H := H σ3 hσ3
          refine XA.blk (e9 := 18) (ok := true) (ls' := [some (.ref k), some (.ref v), some (.int x2), some (.int x3), some (.int (x4 + 1))]) (st' := []) (h' := hs σ3) [(.iinc 4 1, 3, 4, 0, 0, 0, 1, 0), (.goto (-121), 3, 18, 0, 0, 0, 0, 0)] (by decide +kernel) rfl rfl ?_
          exact H
      · have H := H.2 c3
        refine XA.blk (e9 := 18) (ok := true) (ls' := [some (.ref k), some (.ref v), some (.int x2), some (.int x3), some (.int (x4 + 1))]) (st' := []) (h' := hs σ) [(.goto 89, 3, 136, 0, 0, 0, 0, 0), (.iinc 4 1, 3, 4, 0, 0, 0, 1, 0), (.goto (-121), 3, 18, 0, 0, 0, 0, 0)] (by decide +kernel) rfl rfl ?_
        exact H
theorem E_X5_gather {scr : ScA} {k v : Nat} {x2 : Int32} {x3 : Int32} {σ : Nat → Nat → Int32} {P : (Nat → Nat → Int32) → Prop} (h : K_X5_gather_0 scr k v x2 x3 σ P) : CvA scr 1 mX5_gather [.ref k, .ref v, .int x2, .int x3] σ P := CtA.of (by decide) (Nat.le_of_ble_eq_true rfl) (XA.drop (by simp [leL, enL]) h)
def K_X5_sneezing_0 (scr : ScA) (k q : Nat)  (σ : Nat → Nat → Int32) (P : Int32 → (Nat → Nat → Int32) → Prop) : Prop := XA scr 1 mX5_sneezing 172 4705 0 [some (.ref k), some (.ref q), none, none] [] (hs σ) (pI P)
def K_X5_sneezing_4 (scr : ScA) (k q : Nat) (x2 : Int32) (x3 : Int32) (σ : Nat → Nat → Int32) (P : Int32 → (Nat → Nat → Int32) → Prop) : Prop := XA scr 1 mX5_sneezing 172 4705 4 [some (.ref k), some (.ref q), some (.int x2), some (.int x3)] [] (hs σ) (pI P)
set_option maxRecDepth 20000 in
theorem W_X5_sneezing_0 {scr : ScA} {k q : Nat} (hk : isSw k) (hq : isTr q)   {σ : Nat → Nat → Int32} {P : Int32 → (Nat → Nat → Int32) → Prop} (H : K_X5_sneezing_4 scr k q 0 0 σ P) : K_X5_sneezing_0 scr k q σ P := by
  show XA scr 1 mX5_sneezing 172 4705 0 [some (.ref k), some (.ref q), none, none] [] (hs σ) (pI P)
  refine XA.blk (e9 := 4) (ok := true) (ls' := [some (.ref k), some (.ref q), some (.int 0), some (.int 0)]) (st' := []) (h' := hs σ) [(.iconst 0, 1, 0, 0, 0, 0, 0, 0), (.istore_n 2, 1, 2, 0, 0, 0, 0, 0), (.iconst 0, 1, 0, 0, 0, 0, 0, 0), (.istore_n 3, 1, 3, 0, 0, 0, 0, 0)] (by decide +kernel) rfl rfl ?_
  exact H
set_option maxRecDepth 20000 in
theorem W_X5_sneezing_4 {scr : ScA} {k q : Nat} (hk : isSw k) (hq : isTr q) {x2 : Int32} {x3 : Int32}  {σ : Nat → Nat → Int32} {P : Int32 → (Nat → Nat → Int32) → Prop} (H : ((σ k 7) = 0 → P x2 σ) ∧ (¬ (σ k 7) = 0 → ((σ q 6) ≤ x3 → P x2 σ) ∧ (¬ (σ q 6) ≤ x3 → (¬ (hbV (σ k 7) x3) = 0 → (inB x3 10 = true)) ∧ (K_X5_sneezing_4 scr k q (if (hbV (σ k 7) x3) = 0 then x2 else x2 ||| ((1 : Int32) <<< ((σ (q + 5) (Int32.toNatClampNeg x3)) &&& 31)) : Int32) (x3 + 1) σ P)))) : K_X5_sneezing_4 scr k q x2 x3 σ P := by
  show XA scr 1 mX5_sneezing 172 4705 4 [some (.ref k), some (.ref q), some (.int x2), some (.int x3)] [] (hs σ) (pI P)
  refine XA.blk (e9 := 8) (ok := kO 172 S0 k 5 && (true)) (ls' := [some (.ref k), some (.ref q), some (.int x2), some (.int x3)]) (st' := [.int (σ k 7)]) (h' := hs σ) [(.aload_n 0, 1, 0, 0, 0, 0, 0, 0), (.getfield 89, 3, 5, 7, 0, 224, 0, 0)] (by decide +kernel) rfl (by simp only [swO hk, Bool.and_true, Bool.true_and]) ?_
  refine XA.if_eq (39) 47 (by decide +kernel) (fun c1 => ?_) (fun c1 => ?_)
  · have H := H.1 c1
    refine XA.blk (e9 := 48) (ok := true) (ls' := [some (.ref k), some (.ref q), some (.int x2), some (.int x3)]) (st' := [.int x2]) (h' := hs σ) [(.iload_n 2, 1, 2, 0, 0, 0, 0, 0)] (by decide +kernel) rfl rfl ?_
    exact XA.ret (some (.int x2)) rfl (show ckRt mX5_sneezing 48 .ireturn = true by decide +kernel) trivial (Nat.le_of_ble_eq_true rfl) (Nat.le_of_ble_eq_true rfl) ⟨_, _, rfl, rfl, H⟩
  · have H := H.2 c1
    refine XA.blk (e9 := 16) (ok := kO 172 S0 q 8 && (true)) (ls' := [some (.ref k), some (.ref q), some (.int x2), some (.int x3)]) (st' := [.int (σ q 6), .int x3]) (h' := hs σ) [(.iload_n 3, 1, 3, 0, 0, 0, 0, 0), (.aload_n 1, 1, 1, 0, 0, 0, 0, 0), (.getfield 116, 3, 8, 6, 0, 141, 0, 0)] (by decide +kernel) rfl (by simp only [trO hq, Bool.and_true, Bool.true_and]) ?_
    refine XA.icmp_ge (31) 47 (by decide +kernel) (fun c2 => ?_) (fun c2 => ?_)
    · have H := H.1 c2
      refine XA.blk (e9 := 48) (ok := true) (ls' := [some (.ref k), some (.ref q), some (.int x2), some (.int x3)]) (st' := [.int x2]) (h' := hs σ) [(.iload_n 2, 1, 2, 0, 0, 0, 0, 0)] (by decide +kernel) rfl rfl ?_
      exact XA.ret (some (.int x2)) rfl (show ckRt mX5_sneezing 48 .ireturn = true by decide +kernel) trivial (Nat.le_of_ble_eq_true rfl) (Nat.le_of_ble_eq_true rfl) ⟨_, _, rfl, rfl, H⟩
    · have H := H.2 c2
      refine XA.blk (e9 := 24) (ok := kO 172 S0 k 5 && (true)) (ls' := [some (.ref k), some (.ref q), some (.int x2), some (.int x3)]) (st' := [.int x3, .int (σ k 7)]) (h' := hs σ) [(.aload_n 0, 1, 0, 0, 0, 0, 0, 0), (.getfield 89, 3, 5, 7, 0, 224, 0, 0), (.iload_n 3, 1, 3, 0, 0, 0, 0, 0)] (by decide +kernel) rfl (by simp only [swO hk, Bool.and_true, Bool.true_and]) ?_
      refine XA.callS (as := [.int (σ k 7), .int x3]) (rest := []) (mc' := 0) (ms' := 0) (idx := 106) (t := 559) cs_X10_hasBit (by decide +kernel) rfl rfl (Nat.le_of_ble_eq_true rfl) (Nat.le_of_ble_eq_true rfl) (Nat.le_of_ble_eq_true rfl) (Nat.le_of_ble_eq_true rfl) (pu_X10_hasBit scr σ (σ k 7) x3) (fun rv h' hp => ?_)
      obtain ⟨rfl, rfl⟩ := hp
      refine ⟨rfl, rfl, ?_⟩
      show XA scr 1 mX5_sneezing 172 4705 27 [some (.ref k), some (.ref q), some (.int x2), some (.int x3)] [.int (hbV (σ k 7) x3)] (hs σ) (pI P)
      obtain ⟨hF27, H⟩ := H
      have hJ27 : XA scr 1 mX5_sneezing 172 4705 41 [some (.ref k), some (.ref q), some (.int (if (hbV (σ k 7) x3) = 0 then x2 else x2 ||| ((1 : Int32) <<< ((σ (q + 5) (Int32.toNatClampNeg x3)) &&& 31)) : Int32)), some (.int x3)] [] (hs σ) (pI P) := by
        refine XA.blk (e9 := 4) (ok := true) (ls' := [some (.ref k), some (.ref q), some (.int (if (hbV (σ k 7) x3) = 0 then x2 else x2 ||| ((1 : Int32) <<< ((σ (q + 5) (Int32.toNatClampNeg x3)) &&& 31)) : Int32)), some (.int (x3 + 1))]) (st' := []) (h' := hs σ) [(.iinc 3 1, 3, 3, 0, 0, 0, 1, 0), (.goto (-40), 3, 4, 0, 0, 0, 0, 0)] (by decide +kernel) rfl rfl ?_
        exact H
      refine XA.if_eq (14) 41 (by decide +kernel) (fun c3 => ?_) (fun c3 => ?_)
      · simpa only [if_pos c3] using hJ27
      · have H := hF27 c3
        have o1 := H
        refine XA.blk (e9 := 41) (ok := (kO 172 S0 q 8 && kR R0 q 4 (q + 5)) && (kA 172 S0 (q + 5) 1 x3 && (true))) (ls' := [some (.ref k), some (.ref q), some (.int (x2 ||| ((1 : Int32) <<< ((σ (q + 5) (Int32.toNatClampNeg x3)) &&& 31)))), some (.int x3)]) (st' := []) (h' := hs σ) [(.iload_n 2, 1, 2, 0, 0, 0, 0, 0), (.iconst 1, 1, 0, 0, 0, 0, 1, 0), (.aload_n 1, 1, 1, 0, 0, 0, 0, 0), (.getfield 119, 3, 8, 4, 6, 134, 0, 0), (.iload_n 3, 1, 3, 0, 0, 0, 0, 0), (.iaload, 1, 0, 0, 0, 0, 0, 0), (.ishl, 1, 0, 0, 0, 0, 0, 0), (.ior, 1, 0, 0, 0, 0, 0, 0), (.istore_n 2, 1, 2, 0, 0, 0, 0, 0)] (by decide +kernel) rfl (by simp only [trO hq, trR4 hq, trA5 hq x3, o1, Bool.and_true, Bool.true_and]) ?_
        simpa only [if_neg c3] using hJ27
theorem E_X5_sneezing {scr : ScA} {k q : Nat}  {σ : Nat → Nat → Int32} {P : Int32 → (Nat → Nat → Int32) → Prop} (h : K_X5_sneezing_0 scr k q σ P) : CiA scr 1 mX5_sneezing [.ref k, .ref q] σ P := CtA.of (by decide) (Nat.le_of_ble_eq_true rfl) (XA.drop (by simp [leL, enL]) h)
def K_X5_climb_0 (scr : ScA) (k q : Nat) (x2 : Int32) (σ : Nat → Nat → Int32) (P : (Nat → Nat → Int32) → Prop) : Prop := XA scr 1 mX5_climb 172 4705 0 [some (.ref k), some (.ref q), some (.int x2), none, none, none] [] (hs σ) (pV P)
def K_X5_climb_2 (scr : ScA) (k q : Nat) (x2 : Int32) (x3 : Int32) (σ : Nat → Nat → Int32) (P : (Nat → Nat → Int32) → Prop) : Prop := XA scr 1 mX5_climb 172 4705 2 [some (.ref k), some (.ref q), some (.int x2), some (.int x3), none, none] [] (hs σ) (pV P)
set_option maxRecDepth 20000 in
theorem W_X5_climb_0 {scr : ScA} {k q : Nat} (hk : isSw k) (hq : isTr q) {x2 : Int32}  {σ : Nat → Nat → Int32} {P : (Nat → Nat → Int32) → Prop} (H : K_X5_climb_2 scr k q x2 0 σ P) : K_X5_climb_0 scr k q x2 σ P := by
  show XA scr 1 mX5_climb 172 4705 0 [some (.ref k), some (.ref q), some (.int x2), none, none, none] [] (hs σ) (pV P)
  refine XA.blk (e9 := 2) (ok := true) (ls' := [some (.ref k), some (.ref q), some (.int x2), some (.int 0), none, none]) (st' := []) (h' := hs σ) [(.iconst 0, 1, 0, 0, 0, 0, 0, 0), (.istore_n 3, 1, 3, 0, 0, 0, 0, 0)] (by decide +kernel) rfl rfl ?_
  exact H
set_option maxRecDepth 20000 in
theorem W_X5_climb_2 {scr : ScA} {k q : Nat} (hk : isSw k) (hq : isTr q) {x2 : Int32} {x3 : Int32}  {σ : Nat → Nat → Int32} {P : (Nat → Nat → Int32) → Prop} (H : ((σ q 6) ≤ x3 → P σ) ∧ (¬ (σ q 6) ≤ x3 → (inB x3 10 = true) ∧ (((if x2 < (σ (q + 4) (Int32.toNatClampNeg x3)) then 0 else (if x2 ≤ (σ (k + 4) (Int32.toNatClampNeg x3)) then 0 else (if ¬ (hbV (σ k 8) x3) = 0 then 0 else 1 : Int32) : Int32) : Int32) = 0 → K_X5_climb_2 scr k q x2 (x3 + 1) σ P) ∧ (¬ (if x2 < (σ (q + 4) (Int32.toNatClampNeg x3)) then 0 else (if x2 ≤ (σ (k + 4) (Int32.toNatClampNeg x3)) then 0 else (if ¬ (hbV (σ k 8) x3) = 0 then 0 else 1 : Int32) : Int32) : Int32) = 0 → ((isW (σ (q + 5) (Int32.toNatClampNeg x3)) 10) = 0 → K_X5_climb_2 scr k q x2 (x3 + 1) σ P) ∧ (¬ (isW (σ (q + 5) (Int32.toNatClampNeg x3)) 10) = 0 → (inB (σ (q + 5) (Int32.toNatClampNeg x3)) 10 = true) ∧ ((¬ ((σ k 6) &&& (tbV scr 1 (Int32.toNatClampNeg (σ (q + 5) (Int32.toNatClampNeg x3))))) = (tbV scr 1 (Int32.toNatClampNeg (σ (q + 5) (Int32.toNatClampNeg x3)))) → K_X5_climb_2 scr k q x2 (x3 + 1) σ P) ∧ (((σ k 6) &&& (tbV scr 1 (Int32.toNatClampNeg (σ (q + 5) (Int32.toNatClampNeg x3))))) = (tbV scr 1 (Int32.toNatClampNeg (σ (q + 5) (Int32.toNatClampNeg x3)))) → ∀ σ1, σ1 = (su σ k 6 ((σ k 6) ||| ((1 : Int32) <<< ((σ (q + 5) (Int32.toNatClampNeg x3)) &&& 31)))) → K_X5_climb_2 scr k q x2 (x3 + 1) σ1 P))))))) : K_X5_climb_2 scr k q x2 x3 σ P := by
  show XA scr 1 mX5_climb 172 4705 2 [some (.ref k), some (.ref q), some (.int x2), some (.int x3), none, none] [] (hs σ) (pV P)
  refine XA.blk (e9 := 7) (ok := kO 172 S0 q 8 && (true)) (ls' := [some (.ref k), some (.ref q), some (.int x2), some (.int x3), none, none]) (st' := [.int (σ q 6), .int x3]) (h' := hs σ) [(.iload_n 3, 1, 3, 0, 0, 0, 0, 0), (.aload_n 1, 1, 1, 0, 0, 0, 0, 0), (.getfield 116, 3, 8, 6, 0, 141, 0, 0)] (by decide +kernel) rfl (by simp only [trO hq, Bool.and_true, Bool.true_and]) ?_
  refine XA.icmp_ge (103) 110 (by decide +kernel) (fun c1 => ?_) (fun c1 => ?_)
  · have H := H.1 c1
    exact XA.ret none rfl (show ckRt mX5_climb 110 .return_ = true by decide +kernel) trivial (Nat.le_of_ble_eq_true rfl) (Nat.le_of_ble_eq_true rfl) ⟨_, rfl, rfl, H⟩
  · have H := H.2 c1
    obtain ⟨o1, H⟩ := H
    refine XA.blk (e9 := 25) (ok := (kO 172 S0 q 8 && kR R0 q 4 (q + 5)) && (kA 172 S0 (q + 5) 1 x3 && ((kO 172 S0 q 8 && kR R0 q 3 (q + 4)) && (kA 172 S0 (q + 4) 1 x3 && (true))))) (ls' := [some (.ref k), some (.ref q), some (.int x2), some (.int x3), some (.int (σ (q + 5) (Int32.toNatClampNeg x3))), none]) (st' := [.int (σ (q + 4) (Int32.toNatClampNeg x3)), .int x2]) (h' := hs σ) [(.aload_n 1, 1, 1, 0, 0, 0, 0, 0), (.getfield 119, 3, 8, 4, 6, 134, 0, 0), (.iload_n 3, 1, 3, 0, 0, 0, 0, 0), (.iaload, 1, 0, 0, 0, 0, 0, 0), (.istore 4, 2, 4, 0, 0, 0, 0, 0), (.iload_n 2, 1, 2, 0, 0, 0, 0, 0), (.aload_n 1, 1, 1, 0, 0, 0, 0, 0), (.getfield 128, 3, 8, 3, 5, 132, 0, 0), (.iload_n 3, 1, 3, 0, 0, 0, 0, 0), (.iaload, 1, 0, 0, 0, 0, 0, 0)] (by decide +kernel) rfl (by simp only [trO hq, trR4 hq, trA5 hq x3, trR3 hq, trA4 hq x3, o1, Bool.and_true, Bool.true_and]) ?_
    have hJ25 : XA scr 1 mX5_climb 172 4705 54 [some (.ref k), some (.ref q), some (.int x2), some (.int x3), some (.int (σ (q + 5) (Int32.toNatClampNeg x3))), none] [.int (if x2 < (σ (q + 4) (Int32.toNatClampNeg x3)) then 0 else (if x2 ≤ (σ (k + 4) (Int32.toNatClampNeg x3)) then 0 else (if ¬ (hbV (σ k 8) x3) = 0 then 0 else 1 : Int32) : Int32) : Int32)] (hs σ) (pV P) := by
      refine XA.blk (e9 := 58) (ok := true) (ls' := [some (.ref k), some (.ref q), some (.int x2), some (.int x3), some (.int (σ (q + 5) (Int32.toNatClampNeg x3))), some (.int (if x2 < (σ (q + 4) (Int32.toNatClampNeg x3)) then 0 else (if x2 ≤ (σ (k + 4) (Int32.toNatClampNeg x3)) then 0 else (if ¬ (hbV (σ k 8) x3) = 0 then 0 else 1 : Int32) : Int32) : Int32))]) (st' := [.int (if x2 < (σ (q + 4) (Int32.toNatClampNeg x3)) then 0 else (if x2 ≤ (σ (k + 4) (Int32.toNatClampNeg x3)) then 0 else (if ¬ (hbV (σ k 8) x3) = 0 then 0 else 1 : Int32) : Int32) : Int32)]) (h' := hs σ) [(.istore 5, 2, 5, 0, 0, 0, 0, 0), (.iload 5, 2, 5, 0, 0, 0, 0, 0)] (by decide +kernel) rfl rfl ?_
      refine XA.if_eq (46) 104 (by decide +kernel) (fun c2 => ?_) (fun c2 => ?_)
      · have H := H.1 c2
        refine XA.blk (e9 := 2) (ok := true) (ls' := [some (.ref k), some (.ref q), some (.int x2), some (.int (x3 + 1)), some (.int (σ (q + 5) (Int32.toNatClampNeg x3))), some (.int (if x2 < (σ (q + 4) (Int32.toNatClampNeg x3)) then 0 else (if x2 ≤ (σ (k + 4) (Int32.toNatClampNeg x3)) then 0 else (if ¬ (hbV (σ k 8) x3) = 0 then 0 else 1 : Int32) : Int32) : Int32))]) (st' := []) (h' := hs σ) [(.iinc 3 1, 3, 3, 0, 0, 0, 1, 0), (.goto (-105), 3, 2, 0, 0, 0, 0, 0)] (by decide +kernel) rfl rfl ?_
        exact XA.drop (by simp [leL]) H
      · have H := H.2 c2
        refine XA.blk (e9 := 65) (ok := true) (ls' := [some (.ref k), some (.ref q), some (.int x2), some (.int x3), some (.int (σ (q + 5) (Int32.toNatClampNeg x3))), some (.int (if x2 < (σ (q + 4) (Int32.toNatClampNeg x3)) then 0 else (if x2 ≤ (σ (k + 4) (Int32.toNatClampNeg x3)) then 0 else (if ¬ (hbV (σ k 8) x3) = 0 then 0 else 1 : Int32) : Int32) : Int32))]) (st' := [.int 10, .int (σ (q + 5) (Int32.toNatClampNeg x3))]) (h' := hs σ) [(.iload 4, 2, 4, 0, 0, 0, 0, 0), (.bipush 10, 2, 0, 0, 0, 0, 10, 0)] (by decide +kernel) rfl rfl ?_
        refine XA.callS (as := [.int (σ (q + 5) (Int32.toNatClampNeg x3)), .int 10]) (rest := []) (mc' := 0) (ms' := 0) (idx := 129) (t := 590) cs_X10_isWithin (by decide +kernel) rfl rfl (Nat.le_of_ble_eq_true rfl) (Nat.le_of_ble_eq_true rfl) (Nat.le_of_ble_eq_true rfl) (Nat.le_of_ble_eq_true rfl) (pu_X10_isWithin scr σ (σ (q + 5) (Int32.toNatClampNeg x3)) 10) (fun rv h' hp => ?_)
        obtain ⟨rfl, rfl⟩ := hp
        refine ⟨rfl, rfl, ?_⟩
        show XA scr 1 mX5_climb 172 4705 68 [some (.ref k), some (.ref q), some (.int x2), some (.int x3), some (.int (σ (q + 5) (Int32.toNatClampNeg x3))), some (.int (if x2 < (σ (q + 4) (Int32.toNatClampNeg x3)) then 0 else (if x2 ≤ (σ (k + 4) (Int32.toNatClampNeg x3)) then 0 else (if ¬ (hbV (σ k 8) x3) = 0 then 0 else 1 : Int32) : Int32) : Int32))] [.int (isW (σ (q + 5) (Int32.toNatClampNeg x3)) 10)] (hs σ) (pV P)
        refine XA.if_eq (36) 104 (by decide +kernel) (fun c3 => ?_) (fun c3 => ?_)
        · have H := H.1 c3
          refine XA.blk (e9 := 2) (ok := true) (ls' := [some (.ref k), some (.ref q), some (.int x2), some (.int (x3 + 1)), some (.int (σ (q + 5) (Int32.toNatClampNeg x3))), some (.int (if x2 < (σ (q + 4) (Int32.toNatClampNeg x3)) then 0 else (if x2 ≤ (σ (k + 4) (Int32.toNatClampNeg x3)) then 0 else (if ¬ (hbV (σ k 8) x3) = 0 then 0 else 1 : Int32) : Int32) : Int32))]) (st' := []) (h' := hs σ) [(.iinc 3 1, 3, 3, 0, 0, 0, 1, 0), (.goto (-105), 3, 2, 0, 0, 0, 0, 0)] (by decide +kernel) rfl rfl ?_
          exact XA.drop (by simp [leL]) H
        · have H := H.2 c3
          obtain ⟨o2, H⟩ := H
          refine XA.blk (e9 := 88) (ok := kO 172 S0 k 5 && (inB (σ (q + 5) (Int32.toNatClampNeg x3)) 10 && (inB (σ (q + 5) (Int32.toNatClampNeg x3)) 10 && (true)))) (ls' := [some (.ref k), some (.ref q), some (.int x2), some (.int x3), some (.int (σ (q + 5) (Int32.toNatClampNeg x3))), some (.int (if x2 < (σ (q + 4) (Int32.toNatClampNeg x3)) then 0 else (if x2 ≤ (σ (k + 4) (Int32.toNatClampNeg x3)) then 0 else (if ¬ (hbV (σ k 8) x3) = 0 then 0 else 1 : Int32) : Int32) : Int32))]) (st' := [.int (tbV scr 1 (Int32.toNatClampNeg (σ (q + 5) (Int32.toNatClampNeg x3)))), .int ((σ k 6) &&& (tbV scr 1 (Int32.toNatClampNeg (σ (q + 5) (Int32.toNatClampNeg x3)))))]) (h' := hs σ) [(.aload_n 0, 1, 0, 0, 0, 0, 0, 0), (.getfield 65, 3, 5, 6, 0, 223, 0, 0), (.getstatic 132, 3, 1, 0, 0, 570, 0, 0), (.iload 4, 2, 4, 0, 0, 0, 0, 0), (.iaload, 1, 0, 0, 0, 0, 0, 0), (.iand, 1, 0, 0, 0, 0, 0, 0), (.getstatic 132, 3, 1, 0, 0, 570, 0, 0), (.iload 4, 2, 4, 0, 0, 0, 0, 0), (.iaload, 1, 0, 0, 0, 0, 0, 0)] (by decide +kernel) rfl (by simp only [swO hk, o2, Bool.and_true, Bool.true_and]) ?_
          refine XA.icmp_ne (16) 104 (by decide +kernel) (fun c4 => ?_) (fun c4 => ?_)
          · have H := H.1 c4
            refine XA.blk (e9 := 2) (ok := true) (ls' := [some (.ref k), some (.ref q), some (.int x2), some (.int (x3 + 1)), some (.int (σ (q + 5) (Int32.toNatClampNeg x3))), some (.int (if x2 < (σ (q + 4) (Int32.toNatClampNeg x3)) then 0 else (if x2 ≤ (σ (k + 4) (Int32.toNatClampNeg x3)) then 0 else (if ¬ (hbV (σ k 8) x3) = 0 then 0 else 1 : Int32) : Int32) : Int32))]) (st' := []) (h' := hs σ) [(.iinc 3 1, 3, 3, 0, 0, 0, 1, 0), (.goto (-105), 3, 2, 0, 0, 0, 0, 0)] (by decide +kernel) rfl rfl ?_
            exact XA.drop (by simp [leL]) H
          · have H := H.2 c4
            refine XA.blk (e9 := 104) (ok := kO 172 S0 k 5 && (kO 172 S0 k 5 && (true))) (ls' := [some (.ref k), some (.ref q), some (.int x2), some (.int x3), some (.int (σ (q + 5) (Int32.toNatClampNeg x3))), some (.int (if x2 < (σ (q + 4) (Int32.toNatClampNeg x3)) then 0 else (if x2 ≤ (σ (k + 4) (Int32.toNatClampNeg x3)) then 0 else (if ¬ (hbV (σ k 8) x3) = 0 then 0 else 1 : Int32) : Int32) : Int32))]) (st' := []) (h' := hs (su σ k 6 ((σ k 6) ||| ((1 : Int32) <<< ((σ (q + 5) (Int32.toNatClampNeg x3)) &&& 31))))) [(.aload_n 0, 1, 0, 0, 0, 0, 0, 0), (.dup, 1, 0, 0, 0, 0, 0, 0), (.getfield 65, 3, 5, 6, 0, 223, 0, 0), (.iconst 1, 1, 0, 0, 0, 0, 1, 0), (.iload 4, 2, 4, 0, 0, 0, 0, 0), (.ishl, 1, 0, 0, 0, 0, 0, 0), (.ior, 1, 0, 0, 0, 0, 0, 0), (.putfield 65, 3, 5, 6, 0, 223, 0, 0)] (by decide +kernel) rfl (by simp only [swO hk, Bool.and_true, Bool.true_and]) ?_
            obtain ⟨σ1, hσ1⟩ : ∃ s9, s9 = (su σ k 6 ((σ k 6) ||| ((1 : Int32) <<< ((σ (q + 5) (Int32.toNatClampNeg x3)) &&& 31)))) := ⟨_, rfl⟩
            rw [← hσ1]
            have H := H σ1 hσ1
            refine XA.blk (e9 := 2) (ok := true) (ls' := [some (.ref k), some (.ref q), some (.int x2), some (.int (x3 + 1)), some (.int (σ (q + 5) (Int32.toNatClampNeg x3))), some (.int (if x2 < (σ (q + 4) (Int32.toNatClampNeg x3)) then 0 else (if x2 ≤ (σ (k + 4) (Int32.toNatClampNeg x3)) then 0 else (if ¬ (hbV (σ k 8) x3) = 0 then 0 else 1 : Int32) : Int32) : Int32))]) (st' := []) (h' := hs σ1) [(.iinc 3 1, 3, 3, 0, 0, 0, 1, 0), (.goto (-105), 3, 2, 0, 0, 0, 0, 0)] (by decide +kernel) rfl rfl ?_
            exact XA.drop (by simp [leL]) H
    refine XA.icmp_lt (28) 53 (by decide +kernel) (fun c2 => ?_) (fun c2 => ?_)
    · refine XA.blk (e9 := 54) (ok := true) (ls' := [some (.ref k), some (.ref q), some (.int x2), some (.int x3), some (.int (σ (q + 5) (Int32.toNatClampNeg x3))), none]) (st' := [.int 0]) (h' := hs σ) [(.iconst 0, 1, 0, 0, 0, 0, 0, 0)] (by decide +kernel) rfl rfl ?_
      simpa only [if_pos c2] using hJ25
    · refine XA.blk (e9 := 35) (ok := (kO 172 S0 k 5 && kR R0 k 4 (k + 4)) && (kA 172 S0 (k + 4) 1 x3 && (true))) (ls' := [some (.ref k), some (.ref q), some (.int x2), some (.int x3), some (.int (σ (q + 5) (Int32.toNatClampNeg x3))), none]) (st' := [.int (σ (k + 4) (Int32.toNatClampNeg x3)), .int x2]) (h' := hs σ) [(.iload_n 2, 1, 2, 0, 0, 0, 0, 0), (.aload_n 0, 1, 0, 0, 0, 0, 0, 0), (.getfield 21, 3, 5, 4, 5, 221, 0, 0), (.iload_n 3, 1, 3, 0, 0, 0, 0, 0), (.iaload, 1, 0, 0, 0, 0, 0, 0)] (by decide +kernel) rfl (by simp only [swO hk, swR4 hk, swA4 hk x3, o1, Bool.and_true, Bool.true_and]) ?_
      have hJ35 : XA scr 1 mX5_climb 172 4705 54 [some (.ref k), some (.ref q), some (.int x2), some (.int x3), some (.int (σ (q + 5) (Int32.toNatClampNeg x3))), none] [.int (if x2 ≤ (σ (k + 4) (Int32.toNatClampNeg x3)) then 0 else (if ¬ (hbV (σ k 8) x3) = 0 then 0 else 1 : Int32) : Int32)] (hs σ) (pV P) := by
        simpa only [if_neg c2] using hJ25
      refine XA.icmp_le (18) 53 (by decide +kernel) (fun c3 => ?_) (fun c3 => ?_)
      · refine XA.blk (e9 := 54) (ok := true) (ls' := [some (.ref k), some (.ref q), some (.int x2), some (.int x3), some (.int (σ (q + 5) (Int32.toNatClampNeg x3))), none]) (st' := [.int 0]) (h' := hs σ) [(.iconst 0, 1, 0, 0, 0, 0, 0, 0)] (by decide +kernel) rfl rfl ?_
        simpa only [if_pos c3] using hJ35
      · refine XA.blk (e9 := 43) (ok := kO 172 S0 k 5 && (true)) (ls' := [some (.ref k), some (.ref q), some (.int x2), some (.int x3), some (.int (σ (q + 5) (Int32.toNatClampNeg x3))), none]) (st' := [.int x3, .int (σ k 8)]) (h' := hs σ) [(.aload_n 0, 1, 0, 0, 0, 0, 0, 0), (.getfield 92, 3, 5, 8, 0, 225, 0, 0), (.iload_n 3, 1, 3, 0, 0, 0, 0, 0)] (by decide +kernel) rfl (by simp only [swO hk, Bool.and_true, Bool.true_and]) ?_
        refine XA.callS (as := [.int (σ k 8), .int x3]) (rest := []) (mc' := 0) (ms' := 0) (idx := 106) (t := 559) cs_X10_hasBit (by decide +kernel) rfl rfl (Nat.le_of_ble_eq_true rfl) (Nat.le_of_ble_eq_true rfl) (Nat.le_of_ble_eq_true rfl) (Nat.le_of_ble_eq_true rfl) (pu_X10_hasBit scr σ (σ k 8) x3) (fun rv h' hp => ?_)
        obtain ⟨rfl, rfl⟩ := hp
        refine ⟨rfl, rfl, ?_⟩
        show XA scr 1 mX5_climb 172 4705 46 [some (.ref k), some (.ref q), some (.int x2), some (.int x3), some (.int (σ (q + 5) (Int32.toNatClampNeg x3))), none] [.int (hbV (σ k 8) x3)] (hs σ) (pV P)
        have hJ46 : XA scr 1 mX5_climb 172 4705 54 [some (.ref k), some (.ref q), some (.int x2), some (.int x3), some (.int (σ (q + 5) (Int32.toNatClampNeg x3))), none] [.int (if ¬ (hbV (σ k 8) x3) = 0 then 0 else 1 : Int32)] (hs σ) (pV P) := by
          simpa only [if_neg c3] using hJ35
        refine XA.if_ne (7) 53 (by decide +kernel) (fun c4 => ?_) (fun c4 => ?_)
        · refine XA.blk (e9 := 54) (ok := true) (ls' := [some (.ref k), some (.ref q), some (.int x2), some (.int x3), some (.int (σ (q + 5) (Int32.toNatClampNeg x3))), none]) (st' := [.int 0]) (h' := hs σ) [(.iconst 0, 1, 0, 0, 0, 0, 0, 0)] (by decide +kernel) rfl rfl ?_
          simpa only [if_pos c4] using hJ46
        · refine XA.blk (e9 := 54) (ok := true) (ls' := [some (.ref k), some (.ref q), some (.int x2), some (.int x3), some (.int (σ (q + 5) (Int32.toNatClampNeg x3))), none]) (st' := [.int 1]) (h' := hs σ) [(.iconst 1, 1, 0, 0, 0, 0, 1, 0), (.goto 4, 3, 54, 0, 0, 0, 0, 0)] (by decide +kernel) rfl rfl ?_
          simpa only [if_neg (not_not_intro c4)] using hJ46
theorem E_X5_climb {scr : ScA} {k q : Nat} {x2 : Int32} {σ : Nat → Nat → Int32} {P : (Nat → Nat → Int32) → Prop} (h : K_X5_climb_0 scr k q x2 σ P) : CvA scr 1 mX5_climb [.ref k, .ref q, .int x2] σ P := CtA.of (by decide) (Nat.le_of_ble_eq_true rfl) (XA.drop (by simp [leL, enL]) h)
def K_X5_bear_0 (scr : ScA) (k q : Nat)  (σ : Nat → Nat → Int32) (P : (Nat → Nat → Int32) → Prop) : Prop := XA scr 1 mX5_bear 172 4705 0 [some (.ref k), some (.ref q), none, none, none] [] (hs σ) (pV P)
def K_X5_bear_8 (scr : ScA) (k q : Nat)  (σ : Nat → Nat → Int32) (P : (Nat → Nat → Int32) → Prop) : Prop := XA scr 1 mX5_bear 172 4705 8 [some (.ref k), some (.ref q), none, none, none] [] (hs σ) (pV P)
def K_X5_bear_11 (scr : ScA) (k q : Nat) (x2 : Int32) (σ : Nat → Nat → Int32) (P : (Nat → Nat → Int32) → Prop) : Prop := XA scr 1 mX5_bear 172 4705 11 [some (.ref k), some (.ref q), some (.int x2), none, none] [] (hs σ) (pV P)
set_option maxRecDepth 20000 in
theorem W_X5_bear_0 {scr : ScA} {k q : Nat} (hk : isSw k) (hq : isTr q)   {σ : Nat → Nat → Int32} {P : (Nat → Nat → Int32) → Prop} (H : CvA scr 0 mJ7_fill_53178 [.ref (k + 5), .int 0] σ (fun σ' => K_X5_bear_8 scr k q σ' P)) : K_X5_bear_0 scr k q σ P := by
  show XA scr 1 mX5_bear 172 4705 0 [some (.ref k), some (.ref q), none, none, none] [] (hs σ) (pV P)
  refine XA.blk (e9 := 5) (ok := (kO 172 S0 k 5 && kR R0 k 5 (k + 5)) && (true)) (ls' := [some (.ref k), some (.ref q), none, none, none]) (st' := [.int 0, .ref (k + 5)]) (h' := hs σ) [(.aload_n 0, 1, 0, 0, 0, 0, 0, 0), (.getfield 24, 3, 5, 5, 6, 222, 0, 0), (.iconst 0, 1, 0, 0, 0, 0, 0, 0)] (by decide +kernel) rfl (by simp only [swO hk, swR5 hk, Bool.and_true, Bool.true_and]) ?_
  refine XA.callS (as := [.ref (k + 5), .int 0]) (rest := []) (mc' := 0) (ms' := 0) (idx := 80) (t := 554) cs_J7_fill_53178 (by decide +kernel) rfl rfl (Nat.le_of_ble_eq_true rfl) (Nat.le_of_ble_eq_true rfl) (Nat.le_of_ble_eq_true rfl) (Nat.le_of_ble_eq_true rfl) (H) (fun rv h' hp => ?_)
  obtain ⟨s9, rfl, rfl, hK⟩ := hp
  exact ⟨rfl, rfl, hK⟩
set_option maxRecDepth 20000 in
theorem W_X5_bear_8 {scr : ScA} {k q : Nat} (hk : isSw k) (hq : isTr q)   {σ : Nat → Nat → Int32} {P : (Nat → Nat → Int32) → Prop} (H : K_X5_bear_11 scr k q 9 σ P) : K_X5_bear_8 scr k q σ P := by
  show XA scr 1 mX5_bear 172 4705 8 [some (.ref k), some (.ref q), none, none, none] [] (hs σ) (pV P)
  refine XA.blk (e9 := 11) (ok := true) (ls' := [some (.ref k), some (.ref q), some (.int 9), none, none]) (st' := []) (h' := hs σ) [(.bipush 9, 2, 0, 0, 0, 0, 9, 0), (.istore_n 2, 1, 2, 0, 0, 0, 0, 0)] (by decide +kernel) rfl rfl ?_
  exact H
set_option maxRecDepth 20000 in
theorem W_X5_bear_11 {scr : ScA} {k q : Nat} (hk : isSw k) (hq : isTr q) {x2 : Int32}  {σ : Nat → Nat → Int32} {P : (Nat → Nat → Int32) → Prop} (H : (x2 < 4 → P σ) ∧ (¬ x2 < 4 → (inB x2 10 = true) ∧ (((hbV (σ k 6) x2) = 0 → K_X5_bear_11 scr k q (x2 + (-1)) σ P) ∧ (¬ (hbV (σ k 6) x2) = 0 → ((isW (σ (q + 6) (Int32.toNatClampNeg x2)) (σ q 6)) = 0 → K_X5_bear_11 scr k q (x2 + (-1)) σ P) ∧ (¬ (isW (σ (q + 6) (Int32.toNatClampNeg x2)) (σ q 6)) = 0 → (inB (σ (q + 6) (Int32.toNatClampNeg x2)) 10 = true) ∧ (inB (tbV scr 0 (Int32.toNatClampNeg x2)) 10 = true) ∧ (∀ σ1, σ1 = (su σ (k + 5) (Int32.toNatClampNeg (tbV scr 0 (Int32.toNatClampNeg x2))) ((σ (k + 5) (Int32.toNatClampNeg (tbV scr 0 (Int32.toNatClampNeg x2)))) + (((8 * (σ (q + 2) (Int32.toNatClampNeg (σ (q + 6) (Int32.toNatClampNeg x2))))) + (σ (k + 5) (Int32.toNatClampNeg x2))) / 2))) → (inB ((tbV scr 0 (Int32.toNatClampNeg x2)) + 1) 10 = true) ∧ (∀ σ2, σ2 = (su σ1 (k + 5) (Int32.toNatClampNeg ((tbV scr 0 (Int32.toNatClampNeg x2)) + 1)) ((σ1 (k + 5) (Int32.toNatClampNeg ((tbV scr 0 (Int32.toNatClampNeg x2)) + 1))) + (((8 * (σ (q + 2) (Int32.toNatClampNeg (σ (q + 6) (Int32.toNatClampNeg x2))))) + (σ (k + 5) (Int32.toNatClampNeg x2))) / 2))) → K_X5_bear_11 scr k q (x2 + (-1)) σ2 P))))))) : K_X5_bear_11 scr k q x2 σ P := by
  show XA scr 1 mX5_bear 172 4705 11 [some (.ref k), some (.ref q), some (.int x2), none, none] [] (hs σ) (pV P)
  refine XA.blk (e9 := 13) (ok := true) (ls' := [some (.ref k), some (.ref q), some (.int x2), none, none]) (st' := [.int 4, .int x2]) (h' := hs σ) [(.iload_n 2, 1, 2, 0, 0, 0, 0, 0), (.iconst 4, 1, 0, 0, 0, 0, 4, 0)] (by decide +kernel) rfl rfl ?_
  refine XA.icmp_lt (90) 103 (by decide +kernel) (fun c1 => ?_) (fun c1 => ?_)
  · have H := H.1 c1
    exact XA.ret none rfl (show ckRt mX5_bear 103 .return_ = true by decide +kernel) trivial (Nat.le_of_ble_eq_true rfl) (Nat.le_of_ble_eq_true rfl) ⟨_, rfl, rfl, H⟩
  · have H := H.2 c1
    obtain ⟨o1, H⟩ := H
    refine XA.blk (e9 := 28) (ok := (kO 172 S0 q 8 && kR R0 q 5 (q + 6)) && (kA 172 S0 (q + 6) 1 x2 && (kO 172 S0 k 5 && (true)))) (ls' := [some (.ref k), some (.ref q), some (.int x2), some (.int (σ (q + 6) (Int32.toNatClampNeg x2))), none]) (st' := [.int x2, .int (σ k 6)]) (h' := hs σ) [(.aload_n 1, 1, 1, 0, 0, 0, 0, 0), (.getfield 135, 3, 8, 5, 7, 138, 0, 0), (.iload_n 2, 1, 2, 0, 0, 0, 0, 0), (.iaload, 1, 0, 0, 0, 0, 0, 0), (.istore_n 3, 1, 3, 0, 0, 0, 0, 0), (.aload_n 0, 1, 0, 0, 0, 0, 0, 0), (.getfield 65, 3, 5, 6, 0, 223, 0, 0), (.iload_n 2, 1, 2, 0, 0, 0, 0, 0)] (by decide +kernel) rfl (by simp only [trO hq, trR5 hq, trA6 hq x2, swO hk, o1, Bool.and_true, Bool.true_and]) ?_
    refine XA.callS (as := [.int (σ k 6), .int x2]) (rest := []) (mc' := 0) (ms' := 0) (idx := 106) (t := 559) cs_X10_hasBit (by decide +kernel) rfl rfl (Nat.le_of_ble_eq_true rfl) (Nat.le_of_ble_eq_true rfl) (Nat.le_of_ble_eq_true rfl) (Nat.le_of_ble_eq_true rfl) (pu_X10_hasBit scr σ (σ k 6) x2) (fun rv h' hp => ?_)
    obtain ⟨rfl, rfl⟩ := hp
    refine ⟨rfl, rfl, ?_⟩
    show XA scr 1 mX5_bear 172 4705 31 [some (.ref k), some (.ref q), some (.int x2), some (.int (σ (q + 6) (Int32.toNatClampNeg x2))), none] [.int (hbV (σ k 6) x2)] (hs σ) (pV P)
    refine XA.if_eq (66) 97 (by decide +kernel) (fun c2 => ?_) (fun c2 => ?_)
    · have H := H.1 c2
      refine XA.blk (e9 := 11) (ok := true) (ls' := [some (.ref k), some (.ref q), some (.int (x2 + (-1))), some (.int (σ (q + 6) (Int32.toNatClampNeg x2))), none]) (st' := []) (h' := hs σ) [(.iinc 2 (-1), 3, 2, 0, 0, 0, (-1), 0), (.goto (-89), 3, 11, 0, 0, 0, 0, 0)] (by decide +kernel) rfl rfl ?_
      exact XA.drop (by simp [leL]) H
    · have H := H.2 c2
      refine XA.blk (e9 := 39) (ok := kO 172 S0 q 8 && (true)) (ls' := [some (.ref k), some (.ref q), some (.int x2), some (.int (σ (q + 6) (Int32.toNatClampNeg x2))), none]) (st' := [.int (σ q 6), .int (σ (q + 6) (Int32.toNatClampNeg x2))]) (h' := hs σ) [(.iload_n 3, 1, 3, 0, 0, 0, 0, 0), (.aload_n 1, 1, 1, 0, 0, 0, 0, 0), (.getfield 116, 3, 8, 6, 0, 141, 0, 0)] (by decide +kernel) rfl (by simp only [trO hq, Bool.and_true, Bool.true_and]) ?_
      refine XA.callS (as := [.int (σ (q + 6) (Int32.toNatClampNeg x2)), .int (σ q 6)]) (rest := []) (mc' := 0) (ms' := 0) (idx := 129) (t := 590) cs_X10_isWithin (by decide +kernel) rfl rfl (Nat.le_of_ble_eq_true rfl) (Nat.le_of_ble_eq_true rfl) (Nat.le_of_ble_eq_true rfl) (Nat.le_of_ble_eq_true rfl) (pu_X10_isWithin scr σ (σ (q + 6) (Int32.toNatClampNeg x2)) (σ q 6)) (fun rv h' hp => ?_)
      obtain ⟨rfl, rfl⟩ := hp
      refine ⟨rfl, rfl, ?_⟩
      show XA scr 1 mX5_bear 172 4705 42 [some (.ref k), some (.ref q), some (.int x2), some (.int (σ (q + 6) (Int32.toNatClampNeg x2))), none] [.int (isW (σ (q + 6) (Int32.toNatClampNeg x2)) (σ q 6))] (hs σ) (pV P)
      refine XA.if_eq (55) 97 (by decide +kernel) (fun c3 => ?_) (fun c3 => ?_)
      · have H := H.1 c3
        refine XA.blk (e9 := 11) (ok := true) (ls' := [some (.ref k), some (.ref q), some (.int (x2 + (-1))), some (.int (σ (q + 6) (Int32.toNatClampNeg x2))), none]) (st' := []) (h' := hs σ) [(.iinc 2 (-1), 3, 2, 0, 0, 0, (-1), 0), (.goto (-89), 3, 11, 0, 0, 0, 0, 0)] (by decide +kernel) rfl rfl ?_
        exact XA.drop (by simp [leL]) H
      · have H := H.2 c3
        obtain ⟨o2, o3, H⟩ := H
        refine XA.blk (e9 := 80) (ok := (kO 172 S0 q 8 && kR R0 q 1 (q + 2)) && (kA 172 S0 (q + 2) 1 (σ (q + 6) (Int32.toNatClampNeg x2)) && ((kO 172 S0 k 5 && kR R0 k 5 (k + 5)) && (kA 172 S0 (k + 5) 1 x2 && ((kO 172 S0 k 5 && kR R0 k 5 (k + 5)) && (inB x2 10 && (kA 172 S0 (k + 5) 1 (tbV scr 0 (Int32.toNatClampNeg x2)) && (kA 172 S0 (k + 5) 1 (tbV scr 0 (Int32.toNatClampNeg x2)) && (true))))))))) (ls' := [some (.ref k), some (.ref q), some (.int x2), some (.int (σ (q + 6) (Int32.toNatClampNeg x2))), some (.int (((8 * (σ (q + 2) (Int32.toNatClampNeg (σ (q + 6) (Int32.toNatClampNeg x2))))) + (σ (k + 5) (Int32.toNatClampNeg x2))) / 2))]) (st' := []) (h' := hs (su σ (k + 5) (Int32.toNatClampNeg (tbV scr 0 (Int32.toNatClampNeg x2))) ((σ (k + 5) (Int32.toNatClampNeg (tbV scr 0 (Int32.toNatClampNeg x2)))) + (((8 * (σ (q + 2) (Int32.toNatClampNeg (σ (q + 6) (Int32.toNatClampNeg x2))))) + (σ (k + 5) (Int32.toNatClampNeg x2))) / 2)))) [(.bipush 8, 2, 0, 0, 0, 0, 8, 0), (.aload_n 1, 1, 1, 0, 0, 0, 0, 0), (.getfield 138, 3, 8, 1, 3, 121, 0, 0), (.iload_n 3, 1, 3, 0, 0, 0, 0, 0), (.iaload, 1, 0, 0, 0, 0, 0, 0), (.imul, 1, 0, 0, 0, 0, 0, 0), (.aload_n 0, 1, 0, 0, 0, 0, 0, 0), (.getfield 24, 3, 5, 5, 6, 222, 0, 0), (.iload_n 2, 1, 2, 0, 0, 0, 0, 0), (.iaload, 1, 0, 0, 0, 0, 0, 0), (.iadd, 1, 0, 0, 0, 0, 0, 0), (.iconst 2, 1, 0, 0, 0, 0, 2, 0), (.idiv, 1, 0, 0, 0, 0, 0, 0), (.istore 4, 2, 4, 0, 0, 0, 0, 0), (.aload_n 0, 1, 0, 0, 0, 0, 0, 0), (.getfield 24, 3, 5, 5, 6, 222, 0, 0), (.getstatic 141, 3, 0, 0, 0, 595, 0, 0), (.iload_n 2, 1, 2, 0, 0, 0, 0, 0), (.iaload, 1, 0, 0, 0, 0, 0, 0), (.dup2, 1, 0, 0, 0, 0, 0, 0), (.iaload, 1, 0, 0, 0, 0, 0, 0), (.iload 4, 2, 4, 0, 0, 0, 0, 0), (.iadd, 1, 0, 0, 0, 0, 0, 0), (.iastore, 1, 0, 0, 0, 0, 0, 0)] (by decide +kernel) rfl (by simp only [trO hq, trR1 hq, trA2 hq (σ (q + 6) (Int32.toNatClampNeg x2)), swO hk, swR5 hk, swA5 hk x2, swA5 hk (tbV scr 0 (Int32.toNatClampNeg x2)), o2, o1, o3, Bool.and_true, Bool.true_and]) ?_
        obtain ⟨σ1, hσ1⟩ : ∃ s9, s9 = (su σ (k + 5) (Int32.toNatClampNeg (tbV scr 0 (Int32.toNatClampNeg x2))) ((σ (k + 5) (Int32.toNatClampNeg (tbV scr 0 (Int32.toNatClampNeg x2)))) + (((8 * (σ (q + 2) (Int32.toNatClampNeg (σ (q + 6) (Int32.toNatClampNeg x2))))) + (σ (k + 5) (Int32.toNatClampNeg x2))) / 2))) := ⟨_, rfl⟩
        rw [← hσ1]
        have H := H σ1 hσ1
        obtain ⟨o4, H⟩ := H
        refine XA.blk (e9 := 97) (ok := (kO 172 S0 k 5 && kR R0 k 5 (k + 5)) && (inB x2 10 && (kA 172 S0 (k + 5) 1 ((tbV scr 0 (Int32.toNatClampNeg x2)) + 1) && (kA 172 S0 (k + 5) 1 ((tbV scr 0 (Int32.toNatClampNeg x2)) + 1) && (true))))) (ls' := [some (.ref k), some (.ref q), some (.int x2), some (.int (σ (q + 6) (Int32.toNatClampNeg x2))), some (.int (((8 * (σ (q + 2) (Int32.toNatClampNeg (σ (q + 6) (Int32.toNatClampNeg x2))))) + (σ (k + 5) (Int32.toNatClampNeg x2))) / 2))]) (st' := []) (h' := hs (su σ1 (k + 5) (Int32.toNatClampNeg ((tbV scr 0 (Int32.toNatClampNeg x2)) + 1)) ((σ1 (k + 5) (Int32.toNatClampNeg ((tbV scr 0 (Int32.toNatClampNeg x2)) + 1))) + (((8 * (σ (q + 2) (Int32.toNatClampNeg (σ (q + 6) (Int32.toNatClampNeg x2))))) + (σ (k + 5) (Int32.toNatClampNeg x2))) / 2)))) [(.aload_n 0, 1, 0, 0, 0, 0, 0, 0), (.getfield 24, 3, 5, 5, 6, 222, 0, 0), (.getstatic 141, 3, 0, 0, 0, 595, 0, 0), (.iload_n 2, 1, 2, 0, 0, 0, 0, 0), (.iaload, 1, 0, 0, 0, 0, 0, 0), (.iconst 1, 1, 0, 0, 0, 0, 1, 0), (.iadd, 1, 0, 0, 0, 0, 0, 0), (.dup2, 1, 0, 0, 0, 0, 0, 0), (.iaload, 1, 0, 0, 0, 0, 0, 0), (.iload 4, 2, 4, 0, 0, 0, 0, 0), (.iadd, 1, 0, 0, 0, 0, 0, 0), (.iastore, 1, 0, 0, 0, 0, 0, 0)] (by decide +kernel) rfl (by simp only [swO hk, swR5 hk, swA5 hk ((tbV scr 0 (Int32.toNatClampNeg x2)) + 1), o1, o4, Bool.and_true, Bool.true_and]) ?_
        obtain ⟨σ2, hσ2⟩ : ∃ s9, s9 = (su σ1 (k + 5) (Int32.toNatClampNeg ((tbV scr 0 (Int32.toNatClampNeg x2)) + 1)) ((σ1 (k + 5) (Int32.toNatClampNeg ((tbV scr 0 (Int32.toNatClampNeg x2)) + 1))) + (((8 * (σ (q + 2) (Int32.toNatClampNeg (σ (q + 6) (Int32.toNatClampNeg x2))))) + (σ (k + 5) (Int32.toNatClampNeg x2))) / 2))) := ⟨_, rfl⟩
        rw [← hσ2]
        have H := H σ2 hσ2
        refine XA.blk (e9 := 11) (ok := true) (ls' := [some (.ref k), some (.ref q), some (.int (x2 + (-1))), some (.int (σ (q + 6) (Int32.toNatClampNeg x2))), some (.int (((8 * (σ (q + 2) (Int32.toNatClampNeg (σ (q + 6) (Int32.toNatClampNeg x2))))) + (σ (k + 5) (Int32.toNatClampNeg x2))) / 2))]) (st' := []) (h' := hs σ2) [(.iinc 2 (-1), 3, 2, 0, 0, 0, (-1), 0), (.goto (-89), 3, 11, 0, 0, 0, 0, 0)] (by decide +kernel) rfl rfl ?_
        exact XA.drop (by simp [leL]) H
theorem E_X5_bear {scr : ScA} {k q : Nat}  {σ : Nat → Nat → Int32} {P : (Nat → Nat → Int32) → Prop} (h : K_X5_bear_0 scr k q σ P) : CvA scr 1 mX5_bear [.ref k, .ref q] σ P := CtA.of (by decide) (Nat.le_of_ble_eq_true rfl) (XA.drop (by simp [leL, enL]) h)
def K_X5_tire_0 (scr : ScA) (k q : Nat)  (σ : Nat → Nat → Int32) (P : Int32 → (Nat → Nat → Int32) → Prop) : Prop := XA scr 1 mX5_tire 172 4705 0 [some (.ref k), some (.ref q), none, none, none] [] (hs σ) (pI P)
def K_X5_tire_4 (scr : ScA) (k q : Nat) (x2 : Int32) (x3 : Int32) (σ : Nat → Nat → Int32) (P : Int32 → (Nat → Nat → Int32) → Prop) : Prop := XA scr 1 mX5_tire 172 4705 4 [some (.ref k), some (.ref q), some (.int x2), some (.int x3), none] [] (hs σ) (pI P)
set_option maxRecDepth 20000 in
theorem W_X5_tire_0 {scr : ScA} {k q : Nat} (hk : isSw k) (hq : isTr q)   {σ : Nat → Nat → Int32} {P : Int32 → (Nat → Nat → Int32) → Prop} (H : K_X5_tire_4 scr k q 0 0 σ P) : K_X5_tire_0 scr k q σ P := by
  show XA scr 1 mX5_tire 172 4705 0 [some (.ref k), some (.ref q), none, none, none] [] (hs σ) (pI P)
  refine XA.blk (e9 := 4) (ok := true) (ls' := [some (.ref k), some (.ref q), some (.int 0), some (.int 0), none]) (st' := []) (h' := hs σ) [(.iconst 0, 1, 0, 0, 0, 0, 0, 0), (.istore_n 2, 1, 2, 0, 0, 0, 0, 0), (.iconst 0, 1, 0, 0, 0, 0, 0, 0), (.istore_n 3, 1, 3, 0, 0, 0, 0, 0)] (by decide +kernel) rfl rfl ?_
  exact H
set_option maxRecDepth 20000 in
theorem W_X5_tire_4 {scr : ScA} {k q : Nat} (hk : isSw k) (hq : isTr q) {x2 : Int32} {x3 : Int32}  {σ : Nat → Nat → Int32} {P : Int32 → (Nat → Nat → Int32) → Prop} (H : ((σ q 6) ≤ x3 → P x2 σ) ∧ (¬ (σ q 6) ≤ x3 → (inB x3 10 = true) ∧ (((isW (σ (q + 5) (Int32.toNatClampNeg x3)) 10) = 0 → K_X5_tire_4 scr k q x2 (x3 + 1) σ P) ∧ (¬ (isW (σ (q + 5) (Int32.toNatClampNeg x3)) 10) = 0 → (¬ (hbV (σ k 6) (σ (q + 5) (Int32.toNatClampNeg x3))) = 0 → (inB (σ (q + 5) (Int32.toNatClampNeg x3)) 10 = true) ∧ (∀ σ1, σ1 = (su σ (k + 2) (Int32.toNatClampNeg x3) ((σ (k + 2) (Int32.toNatClampNeg x3)) + (tiV (σ (q + 1) (Int32.toNatClampNeg x3)) (σ (k + 5) (Int32.toNatClampNeg (σ (q + 5) (Int32.toNatClampNeg x3))))))) → K_X5_tire_4 scr k q (if (4 * (σ1 (q + 3) (Int32.toNatClampNeg x3))) < (σ1 (k + 2) (Int32.toNatClampNeg x3)) then x2 ||| ((1 : Int32) <<< ((σ (q + 5) (Int32.toNatClampNeg x3)) &&& 31)) else (if (σ1 (k + 5) (Int32.toNatClampNeg (σ (q + 5) (Int32.toNatClampNeg x3)))) ≤ (16 * (σ1 (q + 3) (Int32.toNatClampNeg x3))) then x2 else x2 ||| ((1 : Int32) <<< ((σ (q + 5) (Int32.toNatClampNeg x3)) &&& 31)) : Int32) : Int32) (x3 + 1) σ1 P)) ∧ ((hbV (σ k 6) (σ (q + 5) (Int32.toNatClampNeg x3))) = 0 → K_X5_tire_4 scr k q x2 (x3 + 1) σ P))))) : K_X5_tire_4 scr k q x2 x3 σ P := by
  show XA scr 1 mX5_tire 172 4705 4 [some (.ref k), some (.ref q), some (.int x2), some (.int x3), none] [] (hs σ) (pI P)
  refine XA.blk (e9 := 9) (ok := kO 172 S0 q 8 && (true)) (ls' := [some (.ref k), some (.ref q), some (.int x2), some (.int x3), none]) (st' := [.int (σ q 6), .int x3]) (h' := hs σ) [(.iload_n 3, 1, 3, 0, 0, 0, 0, 0), (.aload_n 1, 1, 1, 0, 0, 0, 0, 0), (.getfield 116, 3, 8, 6, 0, 141, 0, 0)] (by decide +kernel) rfl (by simp only [trO hq, Bool.and_true, Bool.true_and]) ?_
  refine XA.icmp_ge (110) 119 (by decide +kernel) (fun c1 => ?_) (fun c1 => ?_)
  · have H := H.1 c1
    refine XA.blk (e9 := 120) (ok := true) (ls' := [some (.ref k), some (.ref q), some (.int x2), some (.int x3), none]) (st' := [.int x2]) (h' := hs σ) [(.iload_n 2, 1, 2, 0, 0, 0, 0, 0)] (by decide +kernel) rfl rfl ?_
    exact XA.ret (some (.int x2)) rfl (show ckRt mX5_tire 120 .ireturn = true by decide +kernel) trivial (Nat.le_of_ble_eq_true rfl) (Nat.le_of_ble_eq_true rfl) ⟨_, _, rfl, rfl, H⟩
  · have H := H.2 c1
    obtain ⟨o1, H⟩ := H
    refine XA.blk (e9 := 24) (ok := (kO 172 S0 q 8 && kR R0 q 4 (q + 5)) && (kA 172 S0 (q + 5) 1 x3 && (true))) (ls' := [some (.ref k), some (.ref q), some (.int x2), some (.int x3), some (.int (σ (q + 5) (Int32.toNatClampNeg x3)))]) (st' := [.int 10, .int (σ (q + 5) (Int32.toNatClampNeg x3))]) (h' := hs σ) [(.aload_n 1, 1, 1, 0, 0, 0, 0, 0), (.getfield 119, 3, 8, 4, 6, 134, 0, 0), (.iload_n 3, 1, 3, 0, 0, 0, 0, 0), (.iaload, 1, 0, 0, 0, 0, 0, 0), (.istore 4, 2, 4, 0, 0, 0, 0, 0), (.iload 4, 2, 4, 0, 0, 0, 0, 0), (.bipush 10, 2, 0, 0, 0, 0, 10, 0)] (by decide +kernel) rfl (by simp only [trO hq, trR4 hq, trA5 hq x3, o1, Bool.and_true, Bool.true_and]) ?_
    refine XA.callS (as := [.int (σ (q + 5) (Int32.toNatClampNeg x3)), .int 10]) (rest := []) (mc' := 0) (ms' := 0) (idx := 129) (t := 590) cs_X10_isWithin (by decide +kernel) rfl rfl (Nat.le_of_ble_eq_true rfl) (Nat.le_of_ble_eq_true rfl) (Nat.le_of_ble_eq_true rfl) (Nat.le_of_ble_eq_true rfl) (pu_X10_isWithin scr σ (σ (q + 5) (Int32.toNatClampNeg x3)) 10) (fun rv h' hp => ?_)
    obtain ⟨rfl, rfl⟩ := hp
    refine ⟨rfl, rfl, ?_⟩
    show XA scr 1 mX5_tire 172 4705 27 [some (.ref k), some (.ref q), some (.int x2), some (.int x3), some (.int (σ (q + 5) (Int32.toNatClampNeg x3)))] [.int (isW (σ (q + 5) (Int32.toNatClampNeg x3)) 10)] (hs σ) (pI P)
    refine XA.if_eq (86) 113 (by decide +kernel) (fun c2 => ?_) (fun c2 => ?_)
    · have H := H.1 c2
      refine XA.blk (e9 := 4) (ok := true) (ls' := [some (.ref k), some (.ref q), some (.int x2), some (.int (x3 + 1)), some (.int (σ (q + 5) (Int32.toNatClampNeg x3)))]) (st' := []) (h' := hs σ) [(.iinc 3 1, 3, 3, 0, 0, 0, 1, 0), (.goto (-112), 3, 4, 0, 0, 0, 0, 0)] (by decide +kernel) rfl rfl ?_
      exact XA.drop (by simp [leL]) H
    · have H := H.2 c2
      refine XA.blk (e9 := 36) (ok := kO 172 S0 k 5 && (true)) (ls' := [some (.ref k), some (.ref q), some (.int x2), some (.int x3), some (.int (σ (q + 5) (Int32.toNatClampNeg x3)))]) (st' := [.int (σ (q + 5) (Int32.toNatClampNeg x3)), .int (σ k 6)]) (h' := hs σ) [(.aload_n 0, 1, 0, 0, 0, 0, 0, 0), (.getfield 65, 3, 5, 6, 0, 223, 0, 0), (.iload 4, 2, 4, 0, 0, 0, 0, 0)] (by decide +kernel) rfl (by simp only [swO hk, Bool.and_true, Bool.true_and]) ?_
      refine XA.callS (as := [.int (σ k 6), .int (σ (q + 5) (Int32.toNatClampNeg x3))]) (rest := []) (mc' := 0) (ms' := 0) (idx := 106) (t := 559) cs_X10_hasBit (by decide +kernel) rfl rfl (Nat.le_of_ble_eq_true rfl) (Nat.le_of_ble_eq_true rfl) (Nat.le_of_ble_eq_true rfl) (Nat.le_of_ble_eq_true rfl) (pu_X10_hasBit scr σ (σ k 6) (σ (q + 5) (Int32.toNatClampNeg x3))) (fun rv h' hp => ?_)
      obtain ⟨rfl, rfl⟩ := hp
      refine ⟨rfl, rfl, ?_⟩
      show XA scr 1 mX5_tire 172 4705 39 [some (.ref k), some (.ref q), some (.int x2), some (.int x3), some (.int (σ (q + 5) (Int32.toNatClampNeg x3)))] [.int (hbV (σ k 6) (σ (q + 5) (Int32.toNatClampNeg x3)))] (hs σ) (pI P)
      refine XA.if_ne (6) 45 (by decide +kernel) (fun c3 => ?_) (fun c3 => ?_)
      · have H := H.1 c3
        obtain ⟨o2, H⟩ := H
        refine XA.blk (e9 := 65) (ok := (kO 172 S0 k 5 && kR R0 k 2 (k + 2)) && (kA 172 S0 (k + 2) 1 x3 && ((kO 172 S0 q 8 && kR R0 q 0 (q + 1)) && (kA 172 S0 (q + 1) 1 x3 && ((kO 172 S0 k 5 && kR R0 k 5 (k + 5)) && (kA 172 S0 (k + 5) 1 (σ (q + 5) (Int32.toNatClampNeg x3)) && (true))))))) (ls' := [some (.ref k), some (.ref q), some (.int x2), some (.int x3), some (.int (σ (q + 5) (Int32.toNatClampNeg x3)))]) (st' := [.int (σ (k + 5) (Int32.toNatClampNeg (σ (q + 5) (Int32.toNatClampNeg x3)))), .int (σ (q + 1) (Int32.toNatClampNeg x3)), .int (σ (k + 2) (Int32.toNatClampNeg x3)), .int x3, .ref (k + 2)]) (h' := hs σ) [(.aload_n 0, 1, 0, 0, 0, 0, 0, 0), (.getfield 15, 3, 5, 2, 3, 218, 0, 0), (.iload_n 3, 1, 3, 0, 0, 0, 0, 0), (.dup2, 1, 0, 0, 0, 0, 0, 0), (.iaload, 1, 0, 0, 0, 0, 0, 0), (.aload_n 1, 1, 1, 0, 0, 0, 0, 0), (.getfield 144, 3, 8, 0, 2, 116, 0, 0), (.iload_n 3, 1, 3, 0, 0, 0, 0, 0), (.iaload, 1, 0, 0, 0, 0, 0, 0), (.aload_n 0, 1, 0, 0, 0, 0, 0, 0), (.getfield 24, 3, 5, 5, 6, 222, 0, 0), (.iload 4, 2, 4, 0, 0, 0, 0, 0), (.iaload, 1, 0, 0, 0, 0, 0, 0)] (by decide +kernel) rfl (by simp only [swO hk, swR2 hk, swA2 hk x3, trO hq, trR0 hq, trA1 hq x3, swR5 hk, swA5 hk (σ (q + 5) (Int32.toNatClampNeg x3)), o1, o2, Bool.and_true, Bool.true_and]) ?_
        refine XA.callS (as := [.int (σ (q + 1) (Int32.toNatClampNeg x3)), .int (σ (k + 5) (Int32.toNatClampNeg (σ (q + 5) (Int32.toNatClampNeg x3))))]) (rest := [.int (σ (k + 2) (Int32.toNatClampNeg x3)), .int x3, .ref (k + 2)]) (mc' := 0) (ms' := 0) (idx := 147) (t := 601) cs_X5_tiring (by decide +kernel) rfl rfl (Nat.le_of_ble_eq_true rfl) (Nat.le_of_ble_eq_true rfl) (Nat.le_of_ble_eq_true rfl) (Nat.le_of_ble_eq_true rfl) (pu_X5_tiring scr σ (σ (q + 1) (Int32.toNatClampNeg x3)) (σ (k + 5) (Int32.toNatClampNeg (σ (q + 5) (Int32.toNatClampNeg x3))))) (fun rv h' hp => ?_)
        obtain ⟨rfl, rfl⟩ := hp
        refine ⟨rfl, rfl, ?_⟩
        show XA scr 1 mX5_tire 172 4705 68 [some (.ref k), some (.ref q), some (.int x2), some (.int x3), some (.int (σ (q + 5) (Int32.toNatClampNeg x3)))] [.int (tiV (σ (q + 1) (Int32.toNatClampNeg x3)) (σ (k + 5) (Int32.toNatClampNeg (σ (q + 5) (Int32.toNatClampNeg x3))))), .int (σ (k + 2) (Int32.toNatClampNeg x3)), .int x3, .ref (k + 2)] (hs σ) (pI P)
        refine XA.blk (e9 := 70) (ok := kA 172 S0 (k + 2) 1 x3 && (true)) (ls' := [some (.ref k), some (.ref q), some (.int x2), some (.int x3), some (.int (σ (q + 5) (Int32.toNatClampNeg x3)))]) (st' := []) (h' := hs (su σ (k + 2) (Int32.toNatClampNeg x3) ((σ (k + 2) (Int32.toNatClampNeg x3)) + (tiV (σ (q + 1) (Int32.toNatClampNeg x3)) (σ (k + 5) (Int32.toNatClampNeg (σ (q + 5) (Int32.toNatClampNeg x3)))))))) [(.iadd, 1, 0, 0, 0, 0, 0, 0), (.iastore, 1, 0, 0, 0, 0, 0, 0)] (by decide +kernel) rfl (by simp only [swA2 hk x3, o1, Bool.and_true, Bool.true_and]) ?_
        obtain ⟨σ1, hσ1⟩ : ∃ s9, s9 = (su σ (k + 2) (Int32.toNatClampNeg x3) ((σ (k + 2) (Int32.toNatClampNeg x3)) + (tiV (σ (q + 1) (Int32.toNatClampNeg x3)) (σ (k + 5) (Int32.toNatClampNeg (σ (q + 5) (Int32.toNatClampNeg x3))))))) := ⟨_, rfl⟩
        rw [← hσ1]
        have H := H σ1 hσ1
        refine XA.blk (e9 := 84) (ok := (kO 172 S0 k 5 && kR R0 k 2 (k + 2)) && (kA 172 S0 (k + 2) 1 x3 && ((kO 172 S0 q 8 && kR R0 q 2 (q + 3)) && (kA 172 S0 (q + 3) 1 x3 && (true))))) (ls' := [some (.ref k), some (.ref q), some (.int x2), some (.int x3), some (.int (σ (q + 5) (Int32.toNatClampNeg x3)))]) (st' := [.int (4 * (σ1 (q + 3) (Int32.toNatClampNeg x3))), .int (σ1 (k + 2) (Int32.toNatClampNeg x3))]) (h' := hs σ1) [(.aload_n 0, 1, 0, 0, 0, 0, 0, 0), (.getfield 15, 3, 5, 2, 3, 218, 0, 0), (.iload_n 3, 1, 3, 0, 0, 0, 0, 0), (.iaload, 1, 0, 0, 0, 0, 0, 0), (.iconst 4, 1, 0, 0, 0, 0, 4, 0), (.aload_n 1, 1, 1, 0, 0, 0, 0, 0), (.getfield 150, 3, 8, 2, 4, 127, 0, 0), (.iload_n 3, 1, 3, 0, 0, 0, 0, 0), (.iaload, 1, 0, 0, 0, 0, 0, 0), (.imul, 1, 0, 0, 0, 0, 0, 0)] (by decide +kernel) rfl (by simp only [swO hk, swR2 hk, swA2 hk x3, trO hq, trR2 hq, trA3 hq x3, o1, Bool.and_true, Bool.true_and]) ?_
        have hJ84 : XA scr 1 mX5_tire 172 4705 113 [some (.ref k), some (.ref q), some (.int (if (4 * (σ1 (q + 3) (Int32.toNatClampNeg x3))) < (σ1 (k + 2) (Int32.toNatClampNeg x3)) then x2 ||| ((1 : Int32) <<< ((σ (q + 5) (Int32.toNatClampNeg x3)) &&& 31)) else (if (σ1 (k + 5) (Int32.toNatClampNeg (σ (q + 5) (Int32.toNatClampNeg x3)))) ≤ (16 * (σ1 (q + 3) (Int32.toNatClampNeg x3))) then x2 else x2 ||| ((1 : Int32) <<< ((σ (q + 5) (Int32.toNatClampNeg x3)) &&& 31)) : Int32) : Int32)), some (.int x3), none] [] (hs σ1) (pI P) := by
          refine XA.blk (e9 := 4) (ok := true) (ls' := [some (.ref k), some (.ref q), some (.int (if (4 * (σ1 (q + 3) (Int32.toNatClampNeg x3))) < (σ1 (k + 2) (Int32.toNatClampNeg x3)) then x2 ||| ((1 : Int32) <<< ((σ (q + 5) (Int32.toNatClampNeg x3)) &&& 31)) else (if (σ1 (k + 5) (Int32.toNatClampNeg (σ (q + 5) (Int32.toNatClampNeg x3)))) ≤ (16 * (σ1 (q + 3) (Int32.toNatClampNeg x3))) then x2 else x2 ||| ((1 : Int32) <<< ((σ (q + 5) (Int32.toNatClampNeg x3)) &&& 31)) : Int32) : Int32)), some (.int (x3 + 1)), none]) (st' := []) (h' := hs σ1) [(.iinc 3 1, 3, 3, 0, 0, 0, 1, 0), (.goto (-112), 3, 4, 0, 0, 0, 0, 0)] (by decide +kernel) rfl rfl ?_
          exact H
        refine XA.icmp_gt (22) 106 (by decide +kernel) (fun c4 => ?_) (fun c4 => ?_)
        · refine XA.blk (e9 := 113) (ok := true) (ls' := [some (.ref k), some (.ref q), some (.int (x2 ||| ((1 : Int32) <<< ((σ (q + 5) (Int32.toNatClampNeg x3)) &&& 31)))), some (.int x3), some (.int (σ (q + 5) (Int32.toNatClampNeg x3)))]) (st' := []) (h' := hs σ1) [(.iload_n 2, 1, 2, 0, 0, 0, 0, 0), (.iconst 1, 1, 0, 0, 0, 0, 1, 0), (.iload 4, 2, 4, 0, 0, 0, 0, 0), (.ishl, 1, 0, 0, 0, 0, 0, 0), (.ior, 1, 0, 0, 0, 0, 0, 0), (.istore_n 2, 1, 2, 0, 0, 0, 0, 0)] (by decide +kernel) rfl rfl ?_
          refine XA.drop (ls := [some (.ref k), some (.ref q), some (.int (x2 ||| ((1 : Int32) <<< ((σ (q + 5) (Int32.toNatClampNeg x3)) &&& 31)))), some (.int x3), none]) (by simp [leL]) ?_
          simpa only [if_pos c4] using hJ84
        · refine XA.blk (e9 := 103) (ok := (kO 172 S0 k 5 && kR R0 k 5 (k + 5)) && (kA 172 S0 (k + 5) 1 (σ (q + 5) (Int32.toNatClampNeg x3)) && ((kO 172 S0 q 8 && kR R0 q 2 (q + 3)) && (kA 172 S0 (q + 3) 1 x3 && (true))))) (ls' := [some (.ref k), some (.ref q), some (.int x2), some (.int x3), some (.int (σ (q + 5) (Int32.toNatClampNeg x3)))]) (st' := [.int (16 * (σ1 (q + 3) (Int32.toNatClampNeg x3))), .int (σ1 (k + 5) (Int32.toNatClampNeg (σ (q + 5) (Int32.toNatClampNeg x3))))]) (h' := hs σ1) [(.aload_n 0, 1, 0, 0, 0, 0, 0, 0), (.getfield 24, 3, 5, 5, 6, 222, 0, 0), (.iload 4, 2, 4, 0, 0, 0, 0, 0), (.iaload, 1, 0, 0, 0, 0, 0, 0), (.bipush 16, 2, 0, 0, 0, 0, 16, 0), (.aload_n 1, 1, 1, 0, 0, 0, 0, 0), (.getfield 150, 3, 8, 2, 4, 127, 0, 0), (.iload_n 3, 1, 3, 0, 0, 0, 0, 0), (.iaload, 1, 0, 0, 0, 0, 0, 0), (.imul, 1, 0, 0, 0, 0, 0, 0)] (by decide +kernel) rfl (by simp only [swO hk, swR5 hk, swA5 hk (σ (q + 5) (Int32.toNatClampNeg x3)), trO hq, trR2 hq, trA3 hq x3, o2, o1, Bool.and_true, Bool.true_and]) ?_
          have hJ103 : XA scr 1 mX5_tire 172 4705 113 [some (.ref k), some (.ref q), some (.int (if (σ1 (k + 5) (Int32.toNatClampNeg (σ (q + 5) (Int32.toNatClampNeg x3)))) ≤ (16 * (σ1 (q + 3) (Int32.toNatClampNeg x3))) then x2 else x2 ||| ((1 : Int32) <<< ((σ (q + 5) (Int32.toNatClampNeg x3)) &&& 31)) : Int32)), some (.int x3), none] [] (hs σ1) (pI P) := by
            simpa only [if_neg c4] using hJ84
          refine XA.icmp_le (10) 113 (by decide +kernel) (fun c5 => ?_) (fun c5 => ?_)
          · refine XA.drop (ls := [some (.ref k), some (.ref q), some (.int x2), some (.int x3), none]) (by simp [leL]) ?_
            simpa only [if_pos c5] using hJ103
          · refine XA.blk (e9 := 113) (ok := true) (ls' := [some (.ref k), some (.ref q), some (.int (x2 ||| ((1 : Int32) <<< ((σ (q + 5) (Int32.toNatClampNeg x3)) &&& 31)))), some (.int x3), some (.int (σ (q + 5) (Int32.toNatClampNeg x3)))]) (st' := []) (h' := hs σ1) [(.iload_n 2, 1, 2, 0, 0, 0, 0, 0), (.iconst 1, 1, 0, 0, 0, 0, 1, 0), (.iload 4, 2, 4, 0, 0, 0, 0, 0), (.ishl, 1, 0, 0, 0, 0, 0, 0), (.ior, 1, 0, 0, 0, 0, 0, 0), (.istore_n 2, 1, 2, 0, 0, 0, 0, 0)] (by decide +kernel) rfl rfl ?_
            refine XA.drop (ls := [some (.ref k), some (.ref q), some (.int (x2 ||| ((1 : Int32) <<< ((σ (q + 5) (Int32.toNatClampNeg x3)) &&& 31)))), some (.int x3), none]) (by simp [leL]) ?_
            simpa only [if_neg c5] using hJ103
      · have H := H.2 c3
        refine XA.blk (e9 := 4) (ok := true) (ls' := [some (.ref k), some (.ref q), some (.int x2), some (.int (x3 + 1)), some (.int (σ (q + 5) (Int32.toNatClampNeg x3)))]) (st' := []) (h' := hs σ) [(.goto 71, 3, 113, 0, 0, 0, 0, 0), (.iinc 3 1, 3, 3, 0, 0, 0, 1, 0), (.goto (-112), 3, 4, 0, 0, 0, 0, 0)] (by decide +kernel) rfl rfl ?_
        exact XA.drop (by simp [leL]) H
theorem E_X5_tire {scr : ScA} {k q : Nat}  {σ : Nat → Nat → Int32} {P : Int32 → (Nat → Nat → Int32) → Prop} (h : K_X5_tire_0 scr k q σ P) : CiA scr 1 mX5_tire [.ref k, .ref q] σ P := CtA.of (by decide) (Nat.le_of_ble_eq_true rfl) (XA.drop (by simp [leL, enL]) h)
def K_X5_topple_0 (scr : ScA) (k q : Nat) (x2 : Int32) (x3 : Int32) (σ : Nat → Nat → Int32) (P : (Nat → Nat → Int32) → Prop) : Prop := XA scr 1 mX5_topple 172 4705 0 [some (.ref k), some (.ref q), some (.int x2), some (.int x3), none, none] [] (hs σ) (pV P)
def K_X5_topple_17 (scr : ScA) (k q : Nat) (x3 : Int32) (x4 : Int32) (x5 : Int32) (σ : Nat → Nat → Int32) (P : (Nat → Nat → Int32) → Prop) : Prop := XA scr 1 mX5_topple 172 4705 17 [some (.ref k), some (.ref q), none, some (.int x3), some (.int x4), some (.int x5)] [] (hs σ) (pV P)
def K_X5_topple_105 (scr : ScA) (k q : Nat) (x3 : Int32) (x4 : Int32) (x5 : Int32) (σ : Nat → Nat → Int32) (P : (Nat → Nat → Int32) → Prop) : Prop := XA scr 1 mX5_topple 172 4705 105 [some (.ref k), some (.ref q), none, some (.int x3), some (.int x4), some (.int x5)] [] (hs σ) (pV P)
set_option maxRecDepth 20000 in
theorem W_X5_topple_0 {scr : ScA} {k q : Nat} (hk : isSw k) (hq : isTr q) {x2 : Int32} {x3 : Int32}  {σ : Nat → Nat → Int32} {P : (Nat → Nat → Int32) → Prop} (H : (¬ (x2 &&& (σ k 6)) = 0 → K_X5_topple_17 scr k q x3 (x2 &&& (σ k 6)) 4 σ P) ∧ ((x2 &&& (σ k 6)) = 0 → P σ)) : K_X5_topple_0 scr k q x2 x3 σ P := by
  show XA scr 1 mX5_topple 172 4705 0 [some (.ref k), some (.ref q), some (.int x2), some (.int x3), none, none] [] (hs σ) (pV P)
  refine XA.blk (e9 := 10) (ok := kO 172 S0 k 5 && (true)) (ls' := [some (.ref k), some (.ref q), some (.int x2), some (.int x3), some (.int (x2 &&& (σ k 6))), none]) (st' := [.int (x2 &&& (σ k 6))]) (h' := hs σ) [(.iload_n 2, 1, 2, 0, 0, 0, 0, 0), (.aload_n 0, 1, 0, 0, 0, 0, 0, 0), (.getfield 65, 3, 5, 6, 0, 223, 0, 0), (.iand, 1, 0, 0, 0, 0, 0, 0), (.istore 4, 2, 4, 0, 0, 0, 0, 0), (.iload 4, 2, 4, 0, 0, 0, 0, 0)] (by decide +kernel) rfl (by simp only [swO hk, Bool.and_true, Bool.true_and]) ?_
  refine XA.if_ne (4) 14 (by decide +kernel) (fun c1 => ?_) (fun c1 => ?_)
  · have H := H.1 c1
    refine XA.blk (e9 := 17) (ok := true) (ls' := [some (.ref k), some (.ref q), some (.int x2), some (.int x3), some (.int (x2 &&& (σ k 6))), some (.int 4)]) (st' := []) (h' := hs σ) [(.iconst 4, 1, 0, 0, 0, 0, 4, 0), (.istore 5, 2, 5, 0, 0, 0, 0, 0)] (by decide +kernel) rfl rfl ?_
    exact XA.drop (by simp [leL]) H
  · have H := H.2 c1
    exact XA.ret none rfl (show ckRt mX5_topple 13 .return_ = true by decide +kernel) trivial (Nat.le_of_ble_eq_true rfl) (Nat.le_of_ble_eq_true rfl) ⟨_, rfl, rfl, H⟩
set_option maxRecDepth 20000 in
theorem W_X5_topple_17 {scr : ScA} {k q : Nat} (hk : isSw k) (hq : isTr q) {x3 : Int32} {x4 : Int32} {x5 : Int32}  {σ : Nat → Nat → Int32} {P : (Nat → Nat → Int32) → Prop} (H : (10 ≤ x5 → ∀ σ1, σ1 = (su σ k 6 ((σ k 6) &&& (x4 ^^^ (-1)))) → ∀ σ2, σ2 = (su σ1 k 11 ((σ1 k 11) + (bcV x4))) → ∀ σ3, σ3 = (su σ2 k 12 (if x3 < σ2 k 12 then x3 else σ2 k 12 : Int32)) → K_X5_topple_105 scr k q x3 x4 0 σ3 P) ∧ (¬ 10 ≤ x5 → (¬ (hbV (σ k 6) x5) = 0 → (inB x5 10 = true)) ∧ (K_X5_topple_17 scr k q x3 (if (hbV (σ k 6) x5) = 0 then x4 else (if (x4 &&& (tbV scr 1 (Int32.toNatClampNeg x5))) = 0 then x4 else x4 ||| ((1 : Int32) <<< (x5 &&& 31)) : Int32) : Int32) (x5 + 1) σ P))) : K_X5_topple_17 scr k q x3 x4 x5 σ P := by
  show XA scr 1 mX5_topple 172 4705 17 [some (.ref k), some (.ref q), none, some (.int x3), some (.int x4), some (.int x5)] [] (hs σ) (pV P)
  refine XA.blk (e9 := 21) (ok := true) (ls' := [some (.ref k), some (.ref q), none, some (.int x3), some (.int x4), some (.int x5)]) (st' := [.int 10, .int x5]) (h' := hs σ) [(.iload 5, 2, 5, 0, 0, 0, 0, 0), (.bipush 10, 2, 0, 0, 0, 0, 10, 0)] (by decide +kernel) rfl rfl ?_
  refine XA.icmp_ge (42) 63 (by decide +kernel) (fun c1 => ?_) (fun c1 => ?_)
  · have H := H.1 c1
    refine XA.blk (e9 := 76) (ok := kO 172 S0 k 5 && (kO 172 S0 k 5 && (true))) (ls' := [some (.ref k), some (.ref q), none, some (.int x3), some (.int x4), some (.int x5)]) (st' := []) (h' := hs (su σ k 6 ((σ k 6) &&& (x4 ^^^ (-1))))) [(.aload_n 0, 1, 0, 0, 0, 0, 0, 0), (.dup, 1, 0, 0, 0, 0, 0, 0), (.getfield 65, 3, 5, 6, 0, 223, 0, 0), (.iload 4, 2, 4, 0, 0, 0, 0, 0), (.iconst (-1), 1, 0, 0, 0, 0, (-1), 0), (.ixor, 1, 0, 0, 0, 0, 0, 0), (.iand, 1, 0, 0, 0, 0, 0, 0), (.putfield 65, 3, 5, 6, 0, 223, 0, 0)] (by decide +kernel) rfl (by simp only [swO hk, Bool.and_true, Bool.true_and]) ?_
    obtain ⟨σ1, hσ1⟩ : ∃ s9, s9 = (su σ k 6 ((σ k 6) &&& (x4 ^^^ (-1)))) := ⟨_, rfl⟩
    rw [← hσ1]
    have H := H σ1 hσ1
    refine XA.blk (e9 := 83) (ok := kO 172 S0 k 5 && (true)) (ls' := [some (.ref k), some (.ref q), none, some (.int x3), some (.int x4), some (.int x5)]) (st' := [.int x4, .int (σ1 k 11), .ref k]) (h' := hs σ1) [(.aload_n 0, 1, 0, 0, 0, 0, 0, 0), (.dup, 1, 0, 0, 0, 0, 0, 0), (.getfield 61, 3, 5, 11, 0, 230, 0, 0), (.iload 4, 2, 4, 0, 0, 0, 0, 0)] (by decide +kernel) rfl (by simp only [swO hk, Bool.and_true, Bool.true_and]) ?_
    refine XA.callS (as := [.int x4]) (rest := [.int (σ1 k 11), .ref k]) (mc' := 0) (ms' := 0) (idx := 71) (t := 572) cs_J6_bitCount_0f7a4 (by decide +kernel) rfl rfl (Nat.le_of_ble_eq_true rfl) (Nat.le_of_ble_eq_true rfl) (Nat.le_of_ble_eq_true rfl) (Nat.le_of_ble_eq_true rfl) (pu_J6_bitCount_0f7a4 scr σ1 x4) (fun rv h' hp => ?_)
    obtain ⟨rfl, rfl⟩ := hp
    refine ⟨rfl, rfl, ?_⟩
    show XA scr 1 mX5_topple 172 4705 86 [some (.ref k), some (.ref q), none, some (.int x3), some (.int x4), some (.int x5)] [.int (bcV x4), .int (σ1 k 11), .ref k] (hs σ1) (pV P)
    refine XA.blk (e9 := 90) (ok := kO 172 S0 k 5 && (true)) (ls' := [some (.ref k), some (.ref q), none, some (.int x3), some (.int x4), some (.int x5)]) (st' := []) (h' := hs (su σ1 k 11 ((σ1 k 11) + (bcV x4)))) [(.iadd, 1, 0, 0, 0, 0, 0, 0), (.putfield 61, 3, 5, 11, 0, 230, 0, 0)] (by decide +kernel) rfl (by simp only [swO hk, Bool.and_true, Bool.true_and]) ?_
    obtain ⟨σ2, hσ2⟩ : ∃ s9, s9 = (su σ1 k 11 ((σ1 k 11) + (bcV x4))) := ⟨_, rfl⟩
    rw [← hσ2]
    have H := H σ2 hσ2
    refine XA.blk (e9 := 102) (ok := kO 172 S0 k 5 && (kO 172 S0 k 5 && (true))) (ls' := [some (.ref k), some (.ref q), none, some (.int x3), some (.int x4), some (.int x5)]) (st' := []) (h' := hs (su σ2 k 12 (if x3 < σ2 k 12 then x3 else σ2 k 12 : Int32))) [(.aload_n 0, 1, 0, 0, 0, 0, 0, 0), (.aload_n 0, 1, 0, 0, 0, 0, 0, 0), (.getfield 86, 3, 5, 12, 0, 232, 0, 0), (.iload_n 3, 1, 3, 0, 0, 0, 0, 0), (.invokestatic 153, 3, 1, 0, 0, 578, 0, 0), (.putfield 86, 3, 5, 12, 0, 232, 0, 0)] (by decide +kernel) rfl (by simp only [swO hk, Bool.and_true, Bool.true_and]) ?_
    obtain ⟨σ3, hσ3⟩ : ∃ s9, s9 = (su σ2 k 12 (if x3 < σ2 k 12 then x3 else σ2 k 12 : Int32)) := ⟨_, rfl⟩
    rw [← hσ3]
    have H := H σ3 hσ3
    refine XA.blk (e9 := 105) (ok := true) (ls' := [some (.ref k), some (.ref q), none, some (.int x3), some (.int x4), some (.int 0)]) (st' := []) (h' := hs σ3) [(.iconst 0, 1, 0, 0, 0, 0, 0, 0), (.istore 5, 2, 5, 0, 0, 0, 0, 0)] (by decide +kernel) rfl rfl ?_
    exact H
  · have H := H.2 c1
    refine XA.blk (e9 := 30) (ok := kO 172 S0 k 5 && (true)) (ls' := [some (.ref k), some (.ref q), none, some (.int x3), some (.int x4), some (.int x5)]) (st' := [.int x5, .int (σ k 6)]) (h' := hs σ) [(.aload_n 0, 1, 0, 0, 0, 0, 0, 0), (.getfield 65, 3, 5, 6, 0, 223, 0, 0), (.iload 5, 2, 5, 0, 0, 0, 0, 0)] (by decide +kernel) rfl (by simp only [swO hk, Bool.and_true, Bool.true_and]) ?_
    refine XA.callS (as := [.int (σ k 6), .int x5]) (rest := []) (mc' := 0) (ms' := 0) (idx := 106) (t := 559) cs_X10_hasBit (by decide +kernel) rfl rfl (Nat.le_of_ble_eq_true rfl) (Nat.le_of_ble_eq_true rfl) (Nat.le_of_ble_eq_true rfl) (Nat.le_of_ble_eq_true rfl) (pu_X10_hasBit scr σ (σ k 6) x5) (fun rv h' hp => ?_)
    obtain ⟨rfl, rfl⟩ := hp
    refine ⟨rfl, rfl, ?_⟩
    show XA scr 1 mX5_topple 172 4705 33 [some (.ref k), some (.ref q), none, some (.int x3), some (.int x4), some (.int x5)] [.int (hbV (σ k 6) x5)] (hs σ) (pV P)
    obtain ⟨hF33, H⟩ := H
    have hJ33 : XA scr 1 mX5_topple 172 4705 57 [some (.ref k), some (.ref q), none, some (.int x3), some (.int (if (hbV (σ k 6) x5) = 0 then x4 else (if (x4 &&& (tbV scr 1 (Int32.toNatClampNeg x5))) = 0 then x4 else x4 ||| ((1 : Int32) <<< (x5 &&& 31)) : Int32) : Int32)), some (.int x5)] [] (hs σ) (pV P) := by
      refine XA.blk (e9 := 17) (ok := true) (ls' := [some (.ref k), some (.ref q), none, some (.int x3), some (.int (if (hbV (σ k 6) x5) = 0 then x4 else (if (x4 &&& (tbV scr 1 (Int32.toNatClampNeg x5))) = 0 then x4 else x4 ||| ((1 : Int32) <<< (x5 &&& 31)) : Int32) : Int32)), some (.int (x5 + 1))]) (st' := []) (h' := hs σ) [(.iinc 5 1, 3, 5, 0, 0, 0, 1, 0), (.goto (-43), 3, 17, 0, 0, 0, 0, 0)] (by decide +kernel) rfl rfl ?_
      exact H
    refine XA.if_eq (24) 57 (by decide +kernel) (fun c2 => ?_) (fun c2 => ?_)
    · simpa only [if_pos c2] using hJ33
    · have H := hF33 c2
      have o1 := H
      refine XA.blk (e9 := 45) (ok := inB x5 10 && (true)) (ls' := [some (.ref k), some (.ref q), none, some (.int x3), some (.int x4), some (.int x5)]) (st' := [.int (x4 &&& (tbV scr 1 (Int32.toNatClampNeg x5)))]) (h' := hs σ) [(.iload 4, 2, 4, 0, 0, 0, 0, 0), (.getstatic 132, 3, 1, 0, 0, 570, 0, 0), (.iload 5, 2, 5, 0, 0, 0, 0, 0), (.iaload, 1, 0, 0, 0, 0, 0, 0), (.iand, 1, 0, 0, 0, 0, 0, 0)] (by decide +kernel) rfl (by simp only [o1, Bool.and_true, Bool.true_and]) ?_
      have hJ45 : XA scr 1 mX5_topple 172 4705 57 [some (.ref k), some (.ref q), none, some (.int x3), some (.int (if (x4 &&& (tbV scr 1 (Int32.toNatClampNeg x5))) = 0 then x4 else x4 ||| ((1 : Int32) <<< (x5 &&& 31)) : Int32)), some (.int x5)] [] (hs σ) (pV P) := by
        simpa only [if_neg c2] using hJ33
      refine XA.if_eq (12) 57 (by decide +kernel) (fun c3 => ?_) (fun c3 => ?_)
      · simpa only [if_pos c3] using hJ45
      · refine XA.blk (e9 := 57) (ok := true) (ls' := [some (.ref k), some (.ref q), none, some (.int x3), some (.int (x4 ||| ((1 : Int32) <<< (x5 &&& 31)))), some (.int x5)]) (st' := []) (h' := hs σ) [(.iload 4, 2, 4, 0, 0, 0, 0, 0), (.iconst 1, 1, 0, 0, 0, 0, 1, 0), (.iload 5, 2, 5, 0, 0, 0, 0, 0), (.ishl, 1, 0, 0, 0, 0, 0, 0), (.ior, 1, 0, 0, 0, 0, 0, 0), (.istore 4, 2, 4, 0, 0, 0, 0, 0)] (by decide +kernel) rfl rfl ?_
        simpa only [if_neg c3] using hJ45
set_option maxRecDepth 20000 in
theorem W_X5_topple_105 {scr : ScA} {k q : Nat} (hk : isSw k) (hq : isTr q) {x3 : Int32} {x4 : Int32} {x5 : Int32}  {σ : Nat → Nat → Int32} {P : (Nat → Nat → Int32) → Prop} (H : ((σ q 6) ≤ x5 → P σ) ∧ (¬ (σ q 6) ≤ x5 → (inB x5 10 = true) ∧ (((hbV x4 (σ (q + 5) (Int32.toNatClampNeg x5))) = 0 → K_X5_topple_105 scr k q x3 x4 (x5 + 1) σ P) ∧ (¬ (hbV x4 (σ (q + 5) (Int32.toNatClampNeg x5))) = 0 → ∀ σ1, σ1 = (su σ (k + 2) (Int32.toNatClampNeg x5) 0) → ∀ σ2, σ2 = (su σ1 (k + 3) (Int32.toNatClampNeg x5) ((σ1 (k + 3) (Int32.toNatClampNeg x5)) + 1)) → ∀ σ3, σ3 = (su σ2 (k + 4) (Int32.toNatClampNeg x5) (x3 + 2)) → K_X5_topple_105 scr k q x3 x4 (x5 + 1) σ3 P)))) : K_X5_topple_105 scr k q x3 x4 x5 σ P := by
  show XA scr 1 mX5_topple 172 4705 105 [some (.ref k), some (.ref q), none, some (.int x3), some (.int x4), some (.int x5)] [] (hs σ) (pV P)
  refine XA.blk (e9 := 111) (ok := kO 172 S0 q 8 && (true)) (ls' := [some (.ref k), some (.ref q), none, some (.int x3), some (.int x4), some (.int x5)]) (st' := [.int (σ q 6), .int x5]) (h' := hs σ) [(.iload 5, 2, 5, 0, 0, 0, 0, 0), (.aload_n 1, 1, 1, 0, 0, 0, 0, 0), (.getfield 116, 3, 8, 6, 0, 141, 0, 0)] (by decide +kernel) rfl (by simp only [trO hq, Bool.and_true, Bool.true_and]) ?_
  refine XA.icmp_ge (53) 164 (by decide +kernel) (fun c1 => ?_) (fun c1 => ?_)
  · have H := H.1 c1
    exact XA.ret none rfl (show ckRt mX5_topple 164 .return_ = true by decide +kernel) trivial (Nat.le_of_ble_eq_true rfl) (Nat.le_of_ble_eq_true rfl) ⟨_, rfl, rfl, H⟩
  · have H := H.2 c1
    obtain ⟨o1, H⟩ := H
    refine XA.blk (e9 := 123) (ok := (kO 172 S0 q 8 && kR R0 q 4 (q + 5)) && (kA 172 S0 (q + 5) 1 x5 && (true))) (ls' := [some (.ref k), some (.ref q), none, some (.int x3), some (.int x4), some (.int x5)]) (st' := [.int (σ (q + 5) (Int32.toNatClampNeg x5)), .int x4]) (h' := hs σ) [(.iload 4, 2, 4, 0, 0, 0, 0, 0), (.aload_n 1, 1, 1, 0, 0, 0, 0, 0), (.getfield 119, 3, 8, 4, 6, 134, 0, 0), (.iload 5, 2, 5, 0, 0, 0, 0, 0), (.iaload, 1, 0, 0, 0, 0, 0, 0)] (by decide +kernel) rfl (by simp only [trO hq, trR4 hq, trA5 hq x5, o1, Bool.and_true, Bool.true_and]) ?_
    refine XA.callS (as := [.int x4, .int (σ (q + 5) (Int32.toNatClampNeg x5))]) (rest := []) (mc' := 0) (ms' := 0) (idx := 106) (t := 559) cs_X10_hasBit (by decide +kernel) rfl rfl (Nat.le_of_ble_eq_true rfl) (Nat.le_of_ble_eq_true rfl) (Nat.le_of_ble_eq_true rfl) (Nat.le_of_ble_eq_true rfl) (pu_X10_hasBit scr σ x4 (σ (q + 5) (Int32.toNatClampNeg x5))) (fun rv h' hp => ?_)
    obtain ⟨rfl, rfl⟩ := hp
    refine ⟨rfl, rfl, ?_⟩
    show XA scr 1 mX5_topple 172 4705 126 [some (.ref k), some (.ref q), none, some (.int x3), some (.int x4), some (.int x5)] [.int (hbV x4 (σ (q + 5) (Int32.toNatClampNeg x5)))] (hs σ) (pV P)
    refine XA.if_eq (32) 158 (by decide +kernel) (fun c2 => ?_) (fun c2 => ?_)
    · have H := H.1 c2
      refine XA.blk (e9 := 105) (ok := true) (ls' := [some (.ref k), some (.ref q), none, some (.int x3), some (.int x4), some (.int (x5 + 1))]) (st' := []) (h' := hs σ) [(.iinc 5 1, 3, 5, 0, 0, 0, 1, 0), (.goto (-56), 3, 105, 0, 0, 0, 0, 0)] (by decide +kernel) rfl rfl ?_
      exact H
    · have H := H.2 c2
      refine XA.blk (e9 := 137) (ok := (kO 172 S0 k 5 && kR R0 k 2 (k + 2)) && (kA 172 S0 (k + 2) 1 x5 && (true))) (ls' := [some (.ref k), some (.ref q), none, some (.int x3), some (.int x4), some (.int x5)]) (st' := []) (h' := hs (su σ (k + 2) (Int32.toNatClampNeg x5) 0)) [(.aload_n 0, 1, 0, 0, 0, 0, 0, 0), (.getfield 15, 3, 5, 2, 3, 218, 0, 0), (.iload 5, 2, 5, 0, 0, 0, 0, 0), (.iconst 0, 1, 0, 0, 0, 0, 0, 0), (.iastore, 1, 0, 0, 0, 0, 0, 0)] (by decide +kernel) rfl (by simp only [swO hk, swR2 hk, swA2 hk x5, o1, Bool.and_true, Bool.true_and]) ?_
      obtain ⟨σ1, hσ1⟩ : ∃ s9, s9 = (su σ (k + 2) (Int32.toNatClampNeg x5) 0) := ⟨_, rfl⟩
      rw [← hσ1]
      have H := H σ1 hσ1
      refine XA.blk (e9 := 148) (ok := (kO 172 S0 k 5 && kR R0 k 3 (k + 3)) && (kA 172 S0 (k + 3) 1 x5 && (kA 172 S0 (k + 3) 1 x5 && (true)))) (ls' := [some (.ref k), some (.ref q), none, some (.int x3), some (.int x4), some (.int x5)]) (st' := []) (h' := hs (su σ1 (k + 3) (Int32.toNatClampNeg x5) ((σ1 (k + 3) (Int32.toNatClampNeg x5)) + 1))) [(.aload_n 0, 1, 0, 0, 0, 0, 0, 0), (.getfield 18, 3, 5, 3, 4, 219, 0, 0), (.iload 5, 2, 5, 0, 0, 0, 0, 0), (.dup2, 1, 0, 0, 0, 0, 0, 0), (.iaload, 1, 0, 0, 0, 0, 0, 0), (.iconst 1, 1, 0, 0, 0, 0, 1, 0), (.iadd, 1, 0, 0, 0, 0, 0, 0), (.iastore, 1, 0, 0, 0, 0, 0, 0)] (by decide +kernel) rfl (by simp only [swO hk, swR3 hk, swA3 hk x5, o1, Bool.and_true, Bool.true_and]) ?_
      obtain ⟨σ2, hσ2⟩ : ∃ s9, s9 = (su σ1 (k + 3) (Int32.toNatClampNeg x5) ((σ1 (k + 3) (Int32.toNatClampNeg x5)) + 1)) := ⟨_, rfl⟩
      rw [← hσ2]
      have H := H σ2 hσ2
      refine XA.blk (e9 := 158) (ok := (kO 172 S0 k 5 && kR R0 k 4 (k + 4)) && (kA 172 S0 (k + 4) 1 x5 && (true))) (ls' := [some (.ref k), some (.ref q), none, some (.int x3), some (.int x4), some (.int x5)]) (st' := []) (h' := hs (su σ2 (k + 4) (Int32.toNatClampNeg x5) (x3 + 2))) [(.aload_n 0, 1, 0, 0, 0, 0, 0, 0), (.getfield 21, 3, 5, 4, 5, 221, 0, 0), (.iload 5, 2, 5, 0, 0, 0, 0, 0), (.iload_n 3, 1, 3, 0, 0, 0, 0, 0), (.iconst 2, 1, 0, 0, 0, 0, 2, 0), (.iadd, 1, 0, 0, 0, 0, 0, 0), (.iastore, 1, 0, 0, 0, 0, 0, 0)] (by decide +kernel) rfl (by simp only [swO hk, swR4 hk, swA4 hk x5, o1, Bool.and_true, Bool.true_and]) ?_
      obtain ⟨σ3, hσ3⟩ : ∃ s9, s9 = (su σ2 (k + 4) (Int32.toNatClampNeg x5) (x3 + 2)) := ⟨_, rfl⟩
      rw [← hσ3]
      have H := H σ3 hσ3
      refine XA.blk (e9 := 105) (ok := true) (ls' := [some (.ref k), some (.ref q), none, some (.int x3), some (.int x4), some (.int (x5 + 1))]) (st' := []) (h' := hs σ3) [(.iinc 5 1, 3, 5, 0, 0, 0, 1, 0), (.goto (-56), 3, 105, 0, 0, 0, 0, 0)] (by decide +kernel) rfl rfl ?_
      exact H
theorem E_X5_topple {scr : ScA} {k q : Nat} {x2 : Int32} {x3 : Int32} {σ : Nat → Nat → Int32} {P : (Nat → Nat → Int32) → Prop} (h : K_X5_topple_0 scr k q x2 x3 σ P) : CvA scr 1 mX5_topple [.ref k, .ref q, .int x2, .int x3] σ P := CtA.of (by decide) (Nat.le_of_ble_eq_true rfl) (XA.drop (by simp [leL, enL]) h)
def K_X5_keepFacts_0 (scr : ScA) (q : Nat) (x2 : Int32) (σ : Nat → Nat → Int32) (P : (Nat → Nat → Int32) → Prop) : Prop := XA scr 2 mX5_keepFacts 172 4705 0 [some (.ref 18), some (.ref q), some (.int x2), none, none, none] [] (hs σ) (pV P)
def K_X5_keepFacts_10 (scr : ScA) (q : Nat) (x2 : Int32) (u3 : Nat) (x4 : Int32) (σ : Nat → Nat → Int32) (P : (Nat → Nat → Int32) → Prop) : Prop := XA scr 2 mX5_keepFacts 172 4705 10 [some (.ref 18), some (.ref q), some (.int x2), some (.ref u3), some (.int x4), none] [] (hs σ) (pV P)
set_option maxRecDepth 20000 in
theorem W_X5_keepFacts_0 {scr : ScA} {q : Nat} (hq : isTr q) {x2 : Int32}  {σ : Nat → Nat → Int32} {P : (Nat → Nat → Int32) → Prop} (H : (inB x2 24 = true) ∧ (K_X5_keepFacts_10 scr q x2 (24 + 1 + 1 * Int32.toNatClampNeg x2) 0 σ P)) : K_X5_keepFacts_0 scr q x2 σ P := by
  show XA scr 2 mX5_keepFacts 172 4705 0 [some (.ref 18), some (.ref q), some (.int x2), none, none, none] [] (hs σ) (pV P)
  obtain ⟨o1, H⟩ := H
  refine XA.blk (e9 := 10) (ok := (inB x2 24 && (true && kR R0 24 (Int32.toNatClampNeg x2) (24 + 1 + 1 * Int32.toNatClampNeg x2))) && (true)) (ls' := [some (.ref 18), some (.ref q), some (.int x2), some (.ref (24 + 1 + 1 * Int32.toNatClampNeg x2)), some (.int 0), none]) (st' := []) (h' := hs σ) [(.aload_n 0, 1, 0, 0, 0, 0, 0, 0), (.getfield 29, 3, 5, 1, 7, 216, 0, 0), (.iload_n 2, 1, 2, 0, 0, 0, 0, 0), (.aaload, 1, 1, 1, 2, 0, 0, 0), (.astore_n 3, 1, 3, 0, 0, 0, 0, 0), (.iconst 0, 1, 0, 0, 0, 0, 0, 0), (.istore 4, 2, 4, 0, 0, 0, 0, 0)] (by decide +kernel) rfl (by simp only [dyK o1, o1, Bool.and_true, Bool.true_and]) ?_
  exact H
set_option maxRecDepth 20000 in
theorem W_X5_keepFacts_10 {scr : ScA} {q : Nat} (hq : isTr q) {x2 : Int32} {u3 : Nat} {x4 : Int32} (hu3 : isAr u3 40) {σ : Nat → Nat → Int32} {P : (Nat → Nat → Int32) → Prop} (H : ((σ q 6) ≤ x4 → P σ) ∧ (¬ (σ q 6) ≤ x4 → (inB x4 10 = true) ∧ ((inB (x4 * 4) 40 = true) ∧ (∀ σ1, σ1 = (su σ u3 (Int32.toNatClampNeg (x4 * 4)) (soV σ 18 q x4 x2)) → (¬ (isW (σ (q + 5) (Int32.toNatClampNeg x4)) 10) = 0 → (inB (σ (q + 5) (Int32.toNatClampNeg x4)) 10 = true)) ∧ ((inB ((x4 * 4) + 1) 40 = true) ∧ (∀ σ2, σ2 = (su σ1 u3 (Int32.toNatClampNeg ((x4 * 4) + 1)) (if (isW (σ (q + 5) (Int32.toNatClampNeg x4)) 10) = 0 then 0 else σ1 23 (Int32.toNatClampNeg (σ (q + 5) (Int32.toNatClampNeg x4))) : Int32)) → (inB ((x4 * 4) + 2) 40 = true) ∧ (∀ σ3, σ3 = (su σ2 u3 (Int32.toNatClampNeg ((x4 * 4) + 2)) (σ2 20 (Int32.toNatClampNeg x4))) → (inB ((x4 * 4) + 3) 40 = true) ∧ (∀ σ4, σ4 = (su σ3 u3 (Int32.toNatClampNeg ((x4 * 4) + 3)) (σ3 21 (Int32.toNatClampNeg x4))) → K_X5_keepFacts_10 scr q x2 u3 (x4 + 1) σ4 P)))))))) : K_X5_keepFacts_10 scr q x2 u3 x4 σ P := by
  show XA scr 2 mX5_keepFacts 172 4705 10 [some (.ref 18), some (.ref q), some (.int x2), some (.ref u3), some (.int x4), none] [] (hs σ) (pV P)
  refine XA.blk (e9 := 16) (ok := kO 172 S0 q 8 && (true)) (ls' := [some (.ref 18), some (.ref q), some (.int x2), some (.ref u3), some (.int x4), none]) (st' := [.int (σ q 6), .int x4]) (h' := hs σ) [(.iload 4, 2, 4, 0, 0, 0, 0, 0), (.aload_n 1, 1, 1, 0, 0, 0, 0, 0), (.getfield 116, 3, 8, 6, 0, 141, 0, 0)] (by decide +kernel) rfl (by simp only [trO hq, Bool.and_true, Bool.true_and]) ?_
  refine XA.icmp_ge (91) 107 (by decide +kernel) (fun c1 => ?_) (fun c1 => ?_)
  · have H := H.1 c1
    exact XA.ret none rfl (show ckRt mX5_keepFacts 107 .return_ = true by decide +kernel) trivial (Nat.le_of_ble_eq_true rfl) (Nat.le_of_ble_eq_true rfl) ⟨_, rfl, rfl, H⟩
  · have H := H.2 c1
    obtain ⟨o1, H⟩ := H
    refine XA.blk (e9 := 38) (ok := (kO 172 S0 q 8 && kR R0 q 4 (q + 5)) && (kA 172 S0 (q + 5) 1 x4 && (true))) (ls' := [some (.ref 18), some (.ref q), some (.int x2), some (.ref u3), some (.int x4), some (.int (σ (q + 5) (Int32.toNatClampNeg x4)))]) (st' := [.int x2, .int x4, .ref q, .ref 18, .int (x4 * 4), .ref u3]) (h' := hs σ) [(.aload_n 1, 1, 1, 0, 0, 0, 0, 0), (.getfield 119, 3, 8, 4, 6, 134, 0, 0), (.iload 4, 2, 4, 0, 0, 0, 0, 0), (.iaload, 1, 0, 0, 0, 0, 0, 0), (.istore 5, 2, 5, 0, 0, 0, 0, 0), (.aload_n 3, 1, 3, 0, 0, 0, 0, 0), (.iload 4, 2, 4, 0, 0, 0, 0, 0), (.iconst 4, 1, 0, 0, 0, 0, 4, 0), (.imul, 1, 0, 0, 0, 0, 0, 0), (.aload_n 0, 1, 0, 0, 0, 0, 0, 0), (.aload_n 1, 1, 1, 0, 0, 0, 0, 0), (.iload 4, 2, 4, 0, 0, 0, 0, 0), (.iload_n 2, 1, 2, 0, 0, 0, 0, 0)] (by decide +kernel) rfl (by simp only [trO hq, trR4 hq, trA5 hq x4, o1, Bool.and_true, Bool.true_and]) ?_
    refine XA.callV (as := [.ref q, .int x4, .int x2]) (rest := [.int (x4 * 4), .ref u3]) (mc' := 0) (ms' := 0) (idx := 156) (t := 608) cv_X5_stateOf (by decide +kernel) rfl rfl rfl (Nat.le_of_ble_eq_true rfl) (Nat.le_of_ble_eq_true rfl) (Nat.le_of_ble_eq_true rfl) (Nat.le_of_ble_eq_true rfl) (pu_X5_stateOf scr σ (by unfold isSw; omega) hq x4 x2 o1) (fun rv h' hp => ?_)
    obtain ⟨rfl, rfl⟩ := hp
    refine ⟨rfl, rfl, ?_⟩
    show XA scr 2 mX5_keepFacts 172 4705 41 [some (.ref 18), some (.ref q), some (.int x2), some (.ref u3), some (.int x4), some (.int (σ (q + 5) (Int32.toNatClampNeg x4)))] [.int (soV σ 18 q x4 x2), .int (x4 * 4), .ref u3] (hs σ) (pV P)
    obtain ⟨o2, H⟩ := H
    refine XA.blk (e9 := 42) (ok := kA 172 S0 u3 1 (x4 * 4) && (true)) (ls' := [some (.ref 18), some (.ref q), some (.int x2), some (.ref u3), some (.int x4), some (.int (σ (q + 5) (Int32.toNatClampNeg x4)))]) (st' := []) (h' := hs (su σ u3 (Int32.toNatClampNeg (x4 * 4)) (soV σ 18 q x4 x2))) [(.iastore, 1, 0, 0, 0, 0, 0, 0)] (by decide +kernel) rfl (by simp only [arA hu3 (x4 * 4), o2, Bool.and_true, Bool.true_and]) ?_
    obtain ⟨σ1, hσ1⟩ : ∃ s9, s9 = (su σ u3 (Int32.toNatClampNeg (x4 * 4)) (soV σ 18 q x4 x2)) := ⟨_, rfl⟩
    rw [← hσ1]
    have H := H σ1 hσ1
    refine XA.blk (e9 := 53) (ok := true) (ls' := [some (.ref 18), some (.ref q), some (.int x2), some (.ref u3), some (.int x4), some (.int (σ (q + 5) (Int32.toNatClampNeg x4)))]) (st' := [.int 10, .int (σ (q + 5) (Int32.toNatClampNeg x4)), .int ((x4 * 4) + 1), .ref u3]) (h' := hs σ1) [(.aload_n 3, 1, 3, 0, 0, 0, 0, 0), (.iload 4, 2, 4, 0, 0, 0, 0, 0), (.iconst 4, 1, 0, 0, 0, 0, 4, 0), (.imul, 1, 0, 0, 0, 0, 0, 0), (.iconst 1, 1, 0, 0, 0, 0, 1, 0), (.iadd, 1, 0, 0, 0, 0, 0, 0), (.iload 5, 2, 5, 0, 0, 0, 0, 0), (.bipush 10, 2, 0, 0, 0, 0, 10, 0)] (by decide +kernel) rfl rfl ?_
    refine XA.callS (as := [.int (σ (q + 5) (Int32.toNatClampNeg x4)), .int 10]) (rest := [.int ((x4 * 4) + 1), .ref u3]) (mc' := 0) (ms' := 0) (idx := 129) (t := 590) cs_X10_isWithin (by decide +kernel) rfl rfl (Nat.le_of_ble_eq_true rfl) (Nat.le_of_ble_eq_true rfl) (Nat.le_of_ble_eq_true rfl) (Nat.le_of_ble_eq_true rfl) (pu_X10_isWithin scr σ1 (σ (q + 5) (Int32.toNatClampNeg x4)) 10) (fun rv h' hp => ?_)
    obtain ⟨rfl, rfl⟩ := hp
    refine ⟨rfl, rfl, ?_⟩
    show XA scr 2 mX5_keepFacts 172 4705 56 [some (.ref 18), some (.ref q), some (.int x2), some (.ref u3), some (.int x4), some (.int (σ (q + 5) (Int32.toNatClampNeg x4)))] [.int (isW (σ (q + 5) (Int32.toNatClampNeg x4)) 10), .int ((x4 * 4) + 1), .ref u3] (hs σ1) (pV P)
    obtain ⟨hF56, H⟩ := H
    have hJ56 : XA scr 2 mX5_keepFacts 172 4705 70 [some (.ref 18), some (.ref q), some (.int x2), some (.ref u3), some (.int x4), none] [.int (if (isW (σ (q + 5) (Int32.toNatClampNeg x4)) 10) = 0 then 0 else σ1 23 (Int32.toNatClampNeg (σ (q + 5) (Int32.toNatClampNeg x4))) : Int32), .int ((x4 * 4) + 1), .ref u3] (hs σ1) (pV P) := by
      obtain ⟨o3, H⟩ := H
      refine XA.blk (e9 := 71) (ok := kA 172 S0 u3 1 ((x4 * 4) + 1) && (true)) (ls' := [some (.ref 18), some (.ref q), some (.int x2), some (.ref u3), some (.int x4), none]) (st' := []) (h' := hs (su σ1 u3 (Int32.toNatClampNeg ((x4 * 4) + 1)) (if (isW (σ (q + 5) (Int32.toNatClampNeg x4)) 10) = 0 then 0 else σ1 23 (Int32.toNatClampNeg (σ (q + 5) (Int32.toNatClampNeg x4))) : Int32))) [(.iastore, 1, 0, 0, 0, 0, 0, 0)] (by decide +kernel) rfl (by simp only [arA hu3 ((x4 * 4) + 1), o3, Bool.and_true, Bool.true_and]) ?_
      obtain ⟨σ2, hσ2⟩ : ∃ s9, s9 = (su σ1 u3 (Int32.toNatClampNeg ((x4 * 4) + 1)) (if (isW (σ (q + 5) (Int32.toNatClampNeg x4)) 10) = 0 then 0 else σ1 23 (Int32.toNatClampNeg (σ (q + 5) (Int32.toNatClampNeg x4))) : Int32)) := ⟨_, rfl⟩
      rw [← hσ2]
      have H := H σ2 hσ2
      obtain ⟨o4, H⟩ := H
      refine XA.blk (e9 := 86) (ok := inB x4 10 && (kA 172 S0 u3 1 ((x4 * 4) + 2) && (true))) (ls' := [some (.ref 18), some (.ref q), some (.int x2), some (.ref u3), some (.int x4), none]) (st' := []) (h' := hs (su σ2 u3 (Int32.toNatClampNeg ((x4 * 4) + 2)) (σ2 20 (Int32.toNatClampNeg x4)))) [(.aload_n 3, 1, 3, 0, 0, 0, 0, 0), (.iload 4, 2, 4, 0, 0, 0, 0, 0), (.iconst 4, 1, 0, 0, 0, 0, 4, 0), (.imul, 1, 0, 0, 0, 0, 0, 0), (.iconst 2, 1, 0, 0, 0, 0, 2, 0), (.iadd, 1, 0, 0, 0, 0, 0, 0), (.aload_n 0, 1, 0, 0, 0, 0, 0, 0), (.getfield 15, 3, 5, 2, 3, 218, 0, 0), (.iload 4, 2, 4, 0, 0, 0, 0, 0), (.iaload, 1, 0, 0, 0, 0, 0, 0), (.iastore, 1, 0, 0, 0, 0, 0, 0)] (by decide +kernel) rfl (by simp only [arA hu3 ((x4 * 4) + 2), o1, o4, Bool.and_true, Bool.true_and]) ?_
      obtain ⟨σ3, hσ3⟩ : ∃ s9, s9 = (su σ2 u3 (Int32.toNatClampNeg ((x4 * 4) + 2)) (σ2 20 (Int32.toNatClampNeg x4))) := ⟨_, rfl⟩
      rw [← hσ3]
      have H := H σ3 hσ3
      obtain ⟨o5, H⟩ := H
      refine XA.blk (e9 := 101) (ok := inB x4 10 && (kA 172 S0 u3 1 ((x4 * 4) + 3) && (true))) (ls' := [some (.ref 18), some (.ref q), some (.int x2), some (.ref u3), some (.int x4), none]) (st' := []) (h' := hs (su σ3 u3 (Int32.toNatClampNeg ((x4 * 4) + 3)) (σ3 21 (Int32.toNatClampNeg x4)))) [(.aload_n 3, 1, 3, 0, 0, 0, 0, 0), (.iload 4, 2, 4, 0, 0, 0, 0, 0), (.iconst 4, 1, 0, 0, 0, 0, 4, 0), (.imul, 1, 0, 0, 0, 0, 0, 0), (.iconst 3, 1, 0, 0, 0, 0, 3, 0), (.iadd, 1, 0, 0, 0, 0, 0, 0), (.aload_n 0, 1, 0, 0, 0, 0, 0, 0), (.getfield 18, 3, 5, 3, 4, 219, 0, 0), (.iload 4, 2, 4, 0, 0, 0, 0, 0), (.iaload, 1, 0, 0, 0, 0, 0, 0), (.iastore, 1, 0, 0, 0, 0, 0, 0)] (by decide +kernel) rfl (by simp only [arA hu3 ((x4 * 4) + 3), o1, o5, Bool.and_true, Bool.true_and]) ?_
      obtain ⟨σ4, hσ4⟩ : ∃ s9, s9 = (su σ3 u3 (Int32.toNatClampNeg ((x4 * 4) + 3)) (σ3 21 (Int32.toNatClampNeg x4))) := ⟨_, rfl⟩
      rw [← hσ4]
      have H := H σ4 hσ4
      refine XA.blk (e9 := 10) (ok := true) (ls' := [some (.ref 18), some (.ref q), some (.int x2), some (.ref u3), some (.int (x4 + 1)), none]) (st' := []) (h' := hs σ4) [(.iinc 4 1, 3, 4, 0, 0, 0, 1, 0), (.goto (-94), 3, 10, 0, 0, 0, 0, 0)] (by decide +kernel) rfl rfl ?_
      exact H
    refine XA.if_eq (13) 69 (by decide +kernel) (fun c2 => ?_) (fun c2 => ?_)
    · refine XA.blk (e9 := 70) (ok := true) (ls' := [some (.ref 18), some (.ref q), some (.int x2), some (.ref u3), some (.int x4), some (.int (σ (q + 5) (Int32.toNatClampNeg x4)))]) (st' := [.int 0, .int ((x4 * 4) + 1), .ref u3]) (h' := hs σ1) [(.iconst 0, 1, 0, 0, 0, 0, 0, 0)] (by decide +kernel) rfl rfl ?_
      refine XA.drop (ls := [some (.ref 18), some (.ref q), some (.int x2), some (.ref u3), some (.int x4), none]) (by simp [leL]) ?_
      simpa only [if_pos c2] using hJ56
    · have H := hF56 c2
      have o3 := H
      refine XA.blk (e9 := 70) (ok := inB (σ (q + 5) (Int32.toNatClampNeg x4)) 10 && (true)) (ls' := [some (.ref 18), some (.ref q), some (.int x2), some (.ref u3), some (.int x4), some (.int (σ (q + 5) (Int32.toNatClampNeg x4)))]) (st' := [.int (σ1 23 (Int32.toNatClampNeg (σ (q + 5) (Int32.toNatClampNeg x4)))), .int ((x4 * 4) + 1), .ref u3]) (h' := hs σ1) [(.aload_n 0, 1, 0, 0, 0, 0, 0, 0), (.getfield 24, 3, 5, 5, 6, 222, 0, 0), (.iload 5, 2, 5, 0, 0, 0, 0, 0), (.iaload, 1, 0, 0, 0, 0, 0, 0), (.goto 4, 3, 70, 0, 0, 0, 0, 0)] (by decide +kernel) rfl (by simp only [o3, Bool.and_true, Bool.true_and]) ?_
      refine XA.drop (ls := [some (.ref 18), some (.ref q), some (.int x2), some (.ref u3), some (.int x4), none]) (by simp [leL]) ?_
      simpa only [if_neg c2] using hJ56
theorem E_X5_keepFacts {scr : ScA} {q : Nat} {x2 : Int32} {σ : Nat → Nat → Int32} {P : (Nat → Nat → Int32) → Prop} (h : K_X5_keepFacts_0 scr q x2 σ P) : CvA scr 2 mX5_keepFacts [.ref 18, .ref q, .int x2] σ P := CtA.of (by decide) (Nat.le_of_ble_eq_true rfl) (XA.drop (by simp [leL, enL]) h)
def K_X5_play_0 (scr : ScA) (k q v : Nat) (x3 : Int32) (x4 : Int32) (σ : Nat → Nat → Int32) (P : (Nat → Nat → Int32) → Prop) : Prop := XA scr 3 mX5_play 172 4705 0 [some (.ref k), some (.ref q), some (.ref v), some (.int x3), some (.int x4), none] [] (hs σ) (pV P)
def K_X5_play_4 (scr : ScA) (k q v : Nat) (x3 : Int32) (x4 : Int32) (σ : Nat → Nat → Int32) (P : (Nat → Nat → Int32) → Prop) : Prop := XA scr 3 mX5_play 172 4705 4 [some (.ref k), some (.ref q), some (.ref v), some (.int x3), some (.int x4), none] [] (hs σ) (pV P)
def K_X5_play_7 (scr : ScA) (k q v : Nat) (x3 : Int32) (x4 : Int32) (x5 : Int32) (σ : Nat → Nat → Int32) (P : (Nat → Nat → Int32) → Prop) : Prop := XA scr 3 mX5_play 172 4705 7 [some (.ref k), some (.ref q), some (.ref v), some (.int x3), some (.int x4), some (.int x5)] [] (hs σ) (pV P)
def K_X5_play_22 (scr : ScA) (k q v : Nat) (x3 : Int32) (x4 : Int32) (x5 : Int32) (σ : Nat → Nat → Int32) (P : (Nat → Nat → Int32) → Prop) : Prop := XA scr 3 mX5_play 172 4705 22 [some (.ref k), some (.ref q), some (.ref v), some (.int x3), some (.int x4), some (.int x5)] [] (hs σ) (pV P)
def K_X5_play_29 (scr : ScA) (k q v : Nat) (x3 : Int32) (x4 : Int32) (x5 : Int32) (y2 : Int32) (σ : Nat → Nat → Int32) (P : (Nat → Nat → Int32) → Prop) : Prop := XA scr 3 mX5_play 172 4705 29 [some (.ref k), some (.ref q), some (.ref v), some (.int x3), some (.int x4), some (.int x5)] [.int y2, .ref q, .ref k] (hs σ) (pV P)
def K_X5_play_34 (scr : ScA) (k q v : Nat) (x3 : Int32) (x4 : Int32) (x5 : Int32) (σ : Nat → Nat → Int32) (P : (Nat → Nat → Int32) → Prop) : Prop := XA scr 3 mX5_play 172 4705 34 [some (.ref k), some (.ref q), some (.ref v), some (.int x3), some (.int x4), some (.int x5)] [] (hs σ) (pV P)
def K_X5_play_39 (scr : ScA) (k q v : Nat) (x3 : Int32) (x4 : Int32) (x5 : Int32) (σ : Nat → Nat → Int32) (P : (Nat → Nat → Int32) → Prop) : Prop := XA scr 3 mX5_play 172 4705 39 [some (.ref k), some (.ref q), some (.ref v), some (.int x3), some (.int x4), some (.int x5)] [] (hs σ) (pV P)
def K_X5_play_46 (scr : ScA) (k q v : Nat) (x3 : Int32) (x4 : Int32) (x5 : Int32) (σ : Nat → Nat → Int32) (P : (Nat → Nat → Int32) → Prop) : Prop := XA scr 3 mX5_play 172 4705 46 [some (.ref k), some (.ref q), some (.ref v), some (.int x3), some (.int x4), some (.int x5)] [] (hs σ) (pV P)
def K_X5_play_51 (scr : ScA) (k q v : Nat) (x3 : Int32) (x4 : Int32) (x5 : Int32) (σ : Nat → Nat → Int32) (P : (Nat → Nat → Int32) → Prop) : Prop := XA scr 3 mX5_play 172 4705 51 [some (.ref k), some (.ref q), some (.ref v), some (.int x3), some (.int x4), some (.int x5)] [] (hs σ) (pV P)
def K_X5_play_58 (scr : ScA) (k q v : Nat) (x3 : Int32) (x4 : Int32) (x5 : Int32) (y2 : Int32) (σ : Nat → Nat → Int32) (P : (Nat → Nat → Int32) → Prop) : Prop := XA scr 3 mX5_play 172 4705 58 [some (.ref k), some (.ref q), some (.ref v), some (.int x3), some (.int x4), some (.int x5)] [.int y2, .ref q, .ref k] (hs σ) (pV P)
def K_X5_play_63 (scr : ScA) (k q v : Nat) (x3 : Int32) (x4 : Int32) (x5 : Int32) (σ : Nat → Nat → Int32) (P : (Nat → Nat → Int32) → Prop) : Prop := XA scr 3 mX5_play 172 4705 63 [some (.ref k), some (.ref q), some (.ref v), some (.int x3), some (.int x4), some (.int x5)] [] (hs σ) (pV P)
def K_X5_play_120 (scr : ScA) (k q v : Nat) (x3 : Int32) (x4 : Int32) (x5 : Int32) (σ : Nat → Nat → Int32) (P : (Nat → Nat → Int32) → Prop) : Prop := XA scr 3 mX5_play 172 4705 120 [some (.ref k), some (.ref q), some (.ref v), some (.int x3), some (.int x4), some (.int x5)] [] (hs σ) (pV P)
set_option maxRecDepth 20000 in
theorem W_X5_play_0 {scr : ScA} {k q v : Nat} (hk : isSw k) (hq : isTr q) (hv : isEv v) {x3 : Int32} {x4 : Int32}  {σ : Nat → Nat → Int32} {P : (Nat → Nat → Int32) → Prop} (H : CvA scr 1 mX5_begin [.ref k] σ (fun σ' => K_X5_play_4 scr k q v x3 x4 σ' P)) : K_X5_play_0 scr k q v x3 x4 σ P := by
  show XA scr 3 mX5_play 172 4705 0 [some (.ref k), some (.ref q), some (.ref v), some (.int x3), some (.int x4), none] [] (hs σ) (pV P)
  refine XA.blk (e9 := 1) (ok := true) (ls' := [some (.ref k), some (.ref q), some (.ref v), some (.int x3), some (.int x4), none]) (st' := [.ref k]) (h' := hs σ) [(.aload_n 0, 1, 0, 0, 0, 0, 0, 0)] (by decide +kernel) rfl rfl ?_
  refine XA.callV (as := []) (rest := []) (mc' := 0) (ms' := 0) (idx := 32) (t := 550) cv_X5_begin (by decide +kernel) (swO hk) rfl rfl (Nat.le_of_ble_eq_true rfl) (Nat.le_of_ble_eq_true rfl) (Nat.le_of_ble_eq_true rfl) (Nat.le_of_ble_eq_true rfl) (H) (fun rv h' hp => ?_)
  obtain ⟨s9, rfl, rfl, hK⟩ := hp
  exact ⟨rfl, rfl, hK⟩
set_option maxRecDepth 20000 in
theorem W_X5_play_4 {scr : ScA} {k q v : Nat} (hk : isSw k) (hq : isTr q) (hv : isEv v) {x3 : Int32} {x4 : Int32}  {σ : Nat → Nat → Int32} {P : (Nat → Nat → Int32) → Prop} (H : K_X5_play_7 scr k q v x3 x4 0 σ P) : K_X5_play_4 scr k q v x3 x4 σ P := by
  show XA scr 3 mX5_play 172 4705 4 [some (.ref k), some (.ref q), some (.ref v), some (.int x3), some (.int x4), none] [] (hs σ) (pV P)
  refine XA.blk (e9 := 7) (ok := true) (ls' := [some (.ref k), some (.ref q), some (.ref v), some (.int x3), some (.int x4), some (.int 0)]) (st' := []) (h' := hs σ) [(.iconst 0, 1, 0, 0, 0, 0, 0, 0), (.istore 5, 2, 5, 0, 0, 0, 0, 0)] (by decide +kernel) rfl rfl ?_
  exact H
set_option maxRecDepth 20000 in
theorem W_X5_play_7 {scr : ScA} {k q v : Nat} (hk : isSw k) (hq : isTr q) (hv : isEv v) {x3 : Int32} {x4 : Int32} {x5 : Int32}  {σ : Nat → Nat → Int32} {P : (Nat → Nat → Int32) → Prop} (H : (24 ≤ x5 → P σ) ∧ (¬ 24 ≤ x5 → CvA scr 1 mX5_gather [.ref k, .ref v, .int x3, .int x5] σ (fun σ' => K_X5_play_22 scr k q v x3 x4 x5 σ' P))) : K_X5_play_7 scr k q v x3 x4 x5 σ P := by
  show XA scr 3 mX5_play 172 4705 7 [some (.ref k), some (.ref q), some (.ref v), some (.int x3), some (.int x4), some (.int x5)] [] (hs σ) (pV P)
  refine XA.blk (e9 := 11) (ok := true) (ls' := [some (.ref k), some (.ref q), some (.ref v), some (.int x3), some (.int x4), some (.int x5)]) (st' := [.int 24, .int x5]) (h' := hs σ) [(.iload 5, 2, 5, 0, 0, 0, 0, 0), (.bipush 24, 2, 0, 0, 0, 0, 24, 0)] (by decide +kernel) rfl rfl ?_
  refine XA.icmp_ge (115) 126 (by decide +kernel) (fun c1 => ?_) (fun c1 => ?_)
  · have H := H.1 c1
    exact XA.ret none rfl (show ckRt mX5_play 126 .return_ = true by decide +kernel) trivial (Nat.le_of_ble_eq_true rfl) (Nat.le_of_ble_eq_true rfl) ⟨_, rfl, rfl, H⟩
  · have H := H.2 c1
    refine XA.blk (e9 := 19) (ok := true) (ls' := [some (.ref k), some (.ref q), some (.ref v), some (.int x3), some (.int x4), some (.int x5)]) (st' := [.int x5, .int x3, .ref v, .ref k]) (h' := hs σ) [(.aload_n 0, 1, 0, 0, 0, 0, 0, 0), (.aload_n 2, 1, 2, 0, 0, 0, 0, 0), (.iload_n 3, 1, 3, 0, 0, 0, 0, 0), (.iload 5, 2, 5, 0, 0, 0, 0, 0)] (by decide +kernel) rfl rfl ?_
    refine XA.callV (as := [.ref v, .int x3, .int x5]) (rest := []) (mc' := 0) (ms' := 0) (idx := 35) (t := 555) cv_X5_gather (by decide +kernel) (swO hk) rfl rfl (Nat.le_of_ble_eq_true rfl) (Nat.le_of_ble_eq_true rfl) (Nat.le_of_ble_eq_true rfl) (Nat.le_of_ble_eq_true rfl) (H) (fun rv h' hp => ?_)
    obtain ⟨s9, rfl, rfl, hK⟩ := hp
    exact ⟨rfl, rfl, hK⟩
set_option maxRecDepth 20000 in
theorem W_X5_play_22 {scr : ScA} {k q v : Nat} (hk : isSw k) (hq : isTr q) (hv : isEv v) {x3 : Int32} {x4 : Int32} {x5 : Int32}  {σ : Nat → Nat → Int32} {P : (Nat → Nat → Int32) → Prop} (H : CiA scr 1 mX5_sneezing [.ref k, .ref q] σ (fun r9 σ' => K_X5_play_29 scr k q v x3 x4 x5 r9 σ' P)) : K_X5_play_22 scr k q v x3 x4 x5 σ P := by
  show XA scr 3 mX5_play 172 4705 22 [some (.ref k), some (.ref q), some (.ref v), some (.int x3), some (.int x4), some (.int x5)] [] (hs σ) (pV P)
  refine XA.blk (e9 := 26) (ok := true) (ls' := [some (.ref k), some (.ref q), some (.ref v), some (.int x3), some (.int x4), some (.int x5)]) (st' := [.ref q, .ref k, .ref q, .ref k]) (h' := hs σ) [(.aload_n 0, 1, 0, 0, 0, 0, 0, 0), (.aload_n 1, 1, 1, 0, 0, 0, 0, 0), (.aload_n 0, 1, 0, 0, 0, 0, 0, 0), (.aload_n 1, 1, 1, 0, 0, 0, 0, 0)] (by decide +kernel) rfl rfl ?_
  refine XA.callV (as := [.ref q]) (rest := [.ref q, .ref k]) (mc' := 0) (ms' := 0) (idx := 39) (t := 562) cv_X5_sneezing (by decide +kernel) (swO hk) rfl rfl (Nat.le_of_ble_eq_true rfl) (Nat.le_of_ble_eq_true rfl) (Nat.le_of_ble_eq_true rfl) (Nat.le_of_ble_eq_true rfl) (H) (fun rv h' hp => ?_)
  obtain ⟨r9, s9, rfl, rfl, hK⟩ := hp
  exact ⟨rfl, rfl, hK⟩
set_option maxRecDepth 20000 in
theorem W_X5_play_29 {scr : ScA} {k q v : Nat} (hk : isSw k) (hq : isTr q) (hv : isEv v) {x3 : Int32} {x4 : Int32} {x5 : Int32} {y2 : Int32}  {σ : Nat → Nat → Int32} {P : (Nat → Nat → Int32) → Prop} (H : CvA scr 1 mX5_topple [.ref k, .ref q, .int y2, .int x5] σ (fun σ' => K_X5_play_34 scr k q v x3 x4 x5 σ' P)) : K_X5_play_29 scr k q v x3 x4 x5 y2 σ P := by
  show XA scr 3 mX5_play 172 4705 29 [some (.ref k), some (.ref q), some (.ref v), some (.int x3), some (.int x4), some (.int x5)] [.int y2, .ref q, .ref k] (hs σ) (pV P)
  refine XA.blk (e9 := 31) (ok := true) (ls' := [some (.ref k), some (.ref q), some (.ref v), some (.int x3), some (.int x4), some (.int x5)]) (st' := [.int x5, .int y2, .ref q, .ref k]) (h' := hs σ) [(.iload 5, 2, 5, 0, 0, 0, 0, 0)] (by decide +kernel) rfl rfl ?_
  refine XA.callV (as := [.ref q, .int y2, .int x5]) (rest := []) (mc' := 0) (ms' := 0) (idx := 43) (t := 566) cv_X5_topple (by decide +kernel) (swO hk) rfl rfl (Nat.le_of_ble_eq_true rfl) (Nat.le_of_ble_eq_true rfl) (Nat.le_of_ble_eq_true rfl) (Nat.le_of_ble_eq_true rfl) (H) (fun rv h' hp => ?_)
  obtain ⟨s9, rfl, rfl, hK⟩ := hp
  exact ⟨rfl, rfl, hK⟩
set_option maxRecDepth 20000 in
theorem W_X5_play_34 {scr : ScA} {k q v : Nat} (hk : isSw k) (hq : isTr q) (hv : isEv v) {x3 : Int32} {x4 : Int32} {x5 : Int32}  {σ : Nat → Nat → Int32} {P : (Nat → Nat → Int32) → Prop} (H : CvA scr 1 mX5_applaud [.ref k, .ref q] σ (fun σ' => K_X5_play_39 scr k q v x3 x4 x5 σ' P)) : K_X5_play_34 scr k q v x3 x4 x5 σ P := by
  show XA scr 3 mX5_play 172 4705 34 [some (.ref k), some (.ref q), some (.ref v), some (.int x3), some (.int x4), some (.int x5)] [] (hs σ) (pV P)
  refine XA.blk (e9 := 36) (ok := true) (ls' := [some (.ref k), some (.ref q), some (.ref v), some (.int x3), some (.int x4), some (.int x5)]) (st' := [.ref q, .ref k]) (h' := hs σ) [(.aload_n 0, 1, 0, 0, 0, 0, 0, 0), (.aload_n 1, 1, 1, 0, 0, 0, 0, 0)] (by decide +kernel) rfl rfl ?_
  refine XA.callV (as := [.ref q]) (rest := []) (mc' := 0) (ms' := 0) (idx := 47) (t := 579) cv_X5_applaud (by decide +kernel) (swO hk) rfl rfl (Nat.le_of_ble_eq_true rfl) (Nat.le_of_ble_eq_true rfl) (Nat.le_of_ble_eq_true rfl) (Nat.le_of_ble_eq_true rfl) (H) (fun rv h' hp => ?_)
  obtain ⟨s9, rfl, rfl, hK⟩ := hp
  exact ⟨rfl, rfl, hK⟩
set_option maxRecDepth 20000 in
theorem W_X5_play_39 {scr : ScA} {k q v : Nat} (hk : isSw k) (hq : isTr q) (hv : isEv v) {x3 : Int32} {x4 : Int32} {x5 : Int32}  {σ : Nat → Nat → Int32} {P : (Nat → Nat → Int32) → Prop} (H : CvA scr 1 mX5_climb [.ref k, .ref q, .int x5] σ (fun σ' => K_X5_play_46 scr k q v x3 x4 x5 σ' P)) : K_X5_play_39 scr k q v x3 x4 x5 σ P := by
  show XA scr 3 mX5_play 172 4705 39 [some (.ref k), some (.ref q), some (.ref v), some (.int x3), some (.int x4), some (.int x5)] [] (hs σ) (pV P)
  refine XA.blk (e9 := 43) (ok := true) (ls' := [some (.ref k), some (.ref q), some (.ref v), some (.int x3), some (.int x4), some (.int x5)]) (st' := [.int x5, .ref q, .ref k]) (h' := hs σ) [(.aload_n 0, 1, 0, 0, 0, 0, 0, 0), (.aload_n 1, 1, 1, 0, 0, 0, 0, 0), (.iload 5, 2, 5, 0, 0, 0, 0, 0)] (by decide +kernel) rfl rfl ?_
  refine XA.callV (as := [.ref q, .int x5]) (rest := []) (mc' := 0) (ms' := 0) (idx := 51) (t := 586) cv_X5_climb (by decide +kernel) (swO hk) rfl rfl (Nat.le_of_ble_eq_true rfl) (Nat.le_of_ble_eq_true rfl) (Nat.le_of_ble_eq_true rfl) (Nat.le_of_ble_eq_true rfl) (H) (fun rv h' hp => ?_)
  obtain ⟨s9, rfl, rfl, hK⟩ := hp
  exact ⟨rfl, rfl, hK⟩
set_option maxRecDepth 20000 in
theorem W_X5_play_46 {scr : ScA} {k q v : Nat} (hk : isSw k) (hq : isTr q) (hv : isEv v) {x3 : Int32} {x4 : Int32} {x5 : Int32}  {σ : Nat → Nat → Int32} {P : (Nat → Nat → Int32) → Prop} (H : CvA scr 1 mX5_bear [.ref k, .ref q] σ (fun σ' => K_X5_play_51 scr k q v x3 x4 x5 σ' P)) : K_X5_play_46 scr k q v x3 x4 x5 σ P := by
  show XA scr 3 mX5_play 172 4705 46 [some (.ref k), some (.ref q), some (.ref v), some (.int x3), some (.int x4), some (.int x5)] [] (hs σ) (pV P)
  refine XA.blk (e9 := 48) (ok := true) (ls' := [some (.ref k), some (.ref q), some (.ref v), some (.int x3), some (.int x4), some (.int x5)]) (st' := [.ref q, .ref k]) (h' := hs σ) [(.aload_n 0, 1, 0, 0, 0, 0, 0, 0), (.aload_n 1, 1, 1, 0, 0, 0, 0, 0)] (by decide +kernel) rfl rfl ?_
  refine XA.callV (as := [.ref q]) (rest := []) (mc' := 0) (ms' := 0) (idx := 55) (t := 591) cv_X5_bear (by decide +kernel) (swO hk) rfl rfl (Nat.le_of_ble_eq_true rfl) (Nat.le_of_ble_eq_true rfl) (Nat.le_of_ble_eq_true rfl) (Nat.le_of_ble_eq_true rfl) (H) (fun rv h' hp => ?_)
  obtain ⟨s9, rfl, rfl, hK⟩ := hp
  exact ⟨rfl, rfl, hK⟩
set_option maxRecDepth 20000 in
theorem W_X5_play_51 {scr : ScA} {k q v : Nat} (hk : isSw k) (hq : isTr q) (hv : isEv v) {x3 : Int32} {x4 : Int32} {x5 : Int32}  {σ : Nat → Nat → Int32} {P : (Nat → Nat → Int32) → Prop} (H : CiA scr 1 mX5_tire [.ref k, .ref q] σ (fun r9 σ' => K_X5_play_58 scr k q v x3 x4 x5 r9 σ' P)) : K_X5_play_51 scr k q v x3 x4 x5 σ P := by
  show XA scr 3 mX5_play 172 4705 51 [some (.ref k), some (.ref q), some (.ref v), some (.int x3), some (.int x4), some (.int x5)] [] (hs σ) (pV P)
  refine XA.blk (e9 := 55) (ok := true) (ls' := [some (.ref k), some (.ref q), some (.ref v), some (.int x3), some (.int x4), some (.int x5)]) (st' := [.ref q, .ref k, .ref q, .ref k]) (h' := hs σ) [(.aload_n 0, 1, 0, 0, 0, 0, 0, 0), (.aload_n 1, 1, 1, 0, 0, 0, 0, 0), (.aload_n 0, 1, 0, 0, 0, 0, 0, 0), (.aload_n 1, 1, 1, 0, 0, 0, 0, 0)] (by decide +kernel) rfl rfl ?_
  refine XA.callV (as := [.ref q]) (rest := [.ref q, .ref k]) (mc' := 0) (ms' := 0) (idx := 58) (t := 597) cv_X5_tire (by decide +kernel) (swO hk) rfl rfl (Nat.le_of_ble_eq_true rfl) (Nat.le_of_ble_eq_true rfl) (Nat.le_of_ble_eq_true rfl) (Nat.le_of_ble_eq_true rfl) (H) (fun rv h' hp => ?_)
  obtain ⟨r9, s9, rfl, rfl, hK⟩ := hp
  exact ⟨rfl, rfl, hK⟩
set_option maxRecDepth 20000 in
theorem W_X5_play_58 {scr : ScA} {k q v : Nat} (hk : isSw k) (hq : isTr q) (hv : isEv v) {x3 : Int32} {x4 : Int32} {x5 : Int32} {y2 : Int32}  {σ : Nat → Nat → Int32} {P : (Nat → Nat → Int32) → Prop} (H : CvA scr 1 mX5_topple [.ref k, .ref q, .int y2, .int x5] σ (fun σ' => K_X5_play_63 scr k q v x3 x4 x5 σ' P)) : K_X5_play_58 scr k q v x3 x4 x5 y2 σ P := by
  show XA scr 3 mX5_play 172 4705 58 [some (.ref k), some (.ref q), some (.ref v), some (.int x3), some (.int x4), some (.int x5)] [.int y2, .ref q, .ref k] (hs σ) (pV P)
  refine XA.blk (e9 := 60) (ok := true) (ls' := [some (.ref k), some (.ref q), some (.ref v), some (.int x3), some (.int x4), some (.int x5)]) (st' := [.int x5, .int y2, .ref q, .ref k]) (h' := hs σ) [(.iload 5, 2, 5, 0, 0, 0, 0, 0)] (by decide +kernel) rfl rfl ?_
  refine XA.callV (as := [.ref q, .int y2, .int x5]) (rest := []) (mc' := 0) (ms' := 0) (idx := 43) (t := 566) cv_X5_topple (by decide +kernel) (swO hk) rfl rfl (Nat.le_of_ble_eq_true rfl) (Nat.le_of_ble_eq_true rfl) (Nat.le_of_ble_eq_true rfl) (Nat.le_of_ble_eq_true rfl) (H) (fun rv h' hp => ?_)
  obtain ⟨s9, rfl, rfl, hK⟩ := hp
  exact ⟨rfl, rfl, hK⟩
set_option maxRecDepth 20000 in
theorem W_X5_play_63 {scr : ScA} {k q v : Nat} (hk : isSw k) (hq : isTr q) (hv : isEv v) {x3 : Int32} {x4 : Int32} {x5 : Int32}  {σ : Nat → Nat → Int32} {P : (Nat → Nat → Int32) → Prop} (H : (x4 = 0 → (inB x5 24 = true) ∧ (∀ σ1, σ1 = (su σ (k + 1) (Int32.toNatClampNeg x5) (σ k 6)) → ∀ σ2, σ2 = (su σ1 k 10 ((σ1 k 10) + (bcV (σ1 k 6)))) → ((Int32.ofNat (S0 (k + 6)).2) ≤ x5 → K_X5_play_7 scr k q v x3 x4 (x5 + 1) σ2 P) ∧ (¬ (Int32.ofNat (S0 (k + 6)).2) ≤ x5 → CvA scr 2 mX5_keepFacts [.ref k, .ref q, .int x5] σ2 (fun σ' => K_X5_play_120 scr k q v x3 x4 x5 σ' P)))) ∧ (¬ x4 = 0 → ((σ k 11) ≤ 0 → (inB x5 24 = true) ∧ (∀ σ3, σ3 = (su σ (k + 1) (Int32.toNatClampNeg x5) (σ k 6)) → ∀ σ4, σ4 = (su σ3 k 10 ((σ3 k 10) + (bcV (σ3 k 6)))) → ((Int32.ofNat (S0 (k + 6)).2) ≤ x5 → K_X5_play_7 scr k q v x3 x4 (x5 + 1) σ4 P) ∧ (¬ (Int32.ofNat (S0 (k + 6)).2) ≤ x5 → CvA scr 2 mX5_keepFacts [.ref k, .ref q, .int x5] σ4 (fun σ' => K_X5_play_120 scr k q v x3 x4 x5 σ' P)))) ∧ (¬ (σ k 11) ≤ 0 → P σ))) : K_X5_play_63 scr k q v x3 x4 x5 σ P := by
  show XA scr 3 mX5_play 172 4705 63 [some (.ref k), some (.ref q), some (.ref v), some (.int x3), some (.int x4), some (.int x5)] [] (hs σ) (pV P)
  refine XA.blk (e9 := 65) (ok := true) (ls' := [some (.ref k), some (.ref q), some (.ref v), some (.int x3), some (.int x4), some (.int x5)]) (st' := [.int x4]) (h' := hs σ) [(.iload 4, 2, 4, 0, 0, 0, 0, 0)] (by decide +kernel) rfl rfl ?_
  refine XA.if_eq (11) 76 (by decide +kernel) (fun c1 => ?_) (fun c1 => ?_)
  · have H := H.1 c1
    obtain ⟨o1, H⟩ := H
    refine XA.blk (e9 := 87) (ok := (kO 172 S0 k 5 && kR R0 k 0 (k + 1)) && (kO 172 S0 k 5 && (kA 172 S0 (k + 1) 1 x5 && (true)))) (ls' := [some (.ref k), some (.ref q), some (.ref v), some (.int x3), some (.int x4), some (.int x5)]) (st' := []) (h' := hs (su σ (k + 1) (Int32.toNatClampNeg x5) (σ k 6))) [(.aload_n 0, 1, 0, 0, 0, 0, 0, 0), (.getfield 9, 3, 5, 0, 2, 213, 0, 0), (.iload 5, 2, 5, 0, 0, 0, 0, 0), (.aload_n 0, 1, 0, 0, 0, 0, 0, 0), (.getfield 65, 3, 5, 6, 0, 223, 0, 0), (.iastore, 1, 0, 0, 0, 0, 0, 0)] (by decide +kernel) rfl (by simp only [swO hk, swR0 hk, swA1 hk x5, o1, Bool.and_true, Bool.true_and]) ?_
    obtain ⟨σ1, hσ1⟩ : ∃ s9, s9 = (su σ (k + 1) (Int32.toNatClampNeg x5) (σ k 6)) := ⟨_, rfl⟩
    rw [← hσ1]
    have H := H σ1 hσ1
    refine XA.blk (e9 := 96) (ok := kO 172 S0 k 5 && (kO 172 S0 k 5 && (true))) (ls' := [some (.ref k), some (.ref q), some (.ref v), some (.int x3), some (.int x4), some (.int x5)]) (st' := [.int (σ1 k 6), .int (σ1 k 10), .ref k]) (h' := hs σ1) [(.aload_n 0, 1, 0, 0, 0, 0, 0, 0), (.dup, 1, 0, 0, 0, 0, 0, 0), (.getfield 68, 3, 5, 10, 0, 227, 0, 0), (.aload_n 0, 1, 0, 0, 0, 0, 0, 0), (.getfield 65, 3, 5, 6, 0, 223, 0, 0)] (by decide +kernel) rfl (by simp only [swO hk, Bool.and_true, Bool.true_and]) ?_
    refine XA.callS (as := [.int (σ1 k 6)]) (rest := [.int (σ1 k 10), .ref k]) (mc' := 0) (ms' := 0) (idx := 71) (t := 572) cs_J6_bitCount_0f7a4 (by decide +kernel) rfl rfl (Nat.le_of_ble_eq_true rfl) (Nat.le_of_ble_eq_true rfl) (Nat.le_of_ble_eq_true rfl) (Nat.le_of_ble_eq_true rfl) (pu_J6_bitCount_0f7a4 scr σ1 (σ1 k 6)) (fun rv h' hp => ?_)
    obtain ⟨rfl, rfl⟩ := hp
    refine ⟨rfl, rfl, ?_⟩
    show XA scr 3 mX5_play 172 4705 99 [some (.ref k), some (.ref q), some (.ref v), some (.int x3), some (.int x4), some (.int x5)] [.int (bcV (σ1 k 6)), .int (σ1 k 10), .ref k] (hs σ1) (pV P)
    refine XA.blk (e9 := 103) (ok := kO 172 S0 k 5 && (true)) (ls' := [some (.ref k), some (.ref q), some (.ref v), some (.int x3), some (.int x4), some (.int x5)]) (st' := []) (h' := hs (su σ1 k 10 ((σ1 k 10) + (bcV (σ1 k 6))))) [(.iadd, 1, 0, 0, 0, 0, 0, 0), (.putfield 68, 3, 5, 10, 0, 227, 0, 0)] (by decide +kernel) rfl (by simp only [swO hk, Bool.and_true, Bool.true_and]) ?_
    obtain ⟨σ2, hσ2⟩ : ∃ s9, s9 = (su σ1 k 10 ((σ1 k 10) + (bcV (σ1 k 6)))) := ⟨_, rfl⟩
    rw [← hσ2]
    have H := H σ2 hσ2
    refine XA.blk (e9 := 110) (ok := (kO 172 S0 k 5 && kR R0 k 1 (k + 6)) && (decide ((k + 6) < 172 ∧ 1 ≤ (S0 (k + 6)).1 ∧ (S0 (k + 6)).1 ≤ 5) && (true))) (ls' := [some (.ref k), some (.ref q), some (.ref v), some (.int x3), some (.int x4), some (.int x5)]) (st' := [.int (Int32.ofNat (S0 (k + 6)).2), .int x5]) (h' := hs σ2) [(.iload 5, 2, 5, 0, 0, 0, 0, 0), (.aload_n 0, 1, 0, 0, 0, 0, 0, 0), (.getfield 29, 3, 5, 1, 7, 216, 0, 0), (.arraylength, 1, 0, 0, 0, 0, 0, 0)] (by decide +kernel) rfl (by simp only [swO hk, swR1 hk, swL6 hk, Bool.and_true, Bool.true_and]) ?_
    refine XA.icmp_ge (10) 120 (by decide +kernel) (fun c2 => ?_) (fun c2 => ?_)
    · have H := H.1 c2
      refine XA.blk (e9 := 7) (ok := true) (ls' := [some (.ref k), some (.ref q), some (.ref v), some (.int x3), some (.int x4), some (.int (x5 + 1))]) (st' := []) (h' := hs σ2) [(.iinc 5 1, 3, 5, 0, 0, 0, 1, 0), (.goto (-116), 3, 7, 0, 0, 0, 0, 0)] (by decide +kernel) rfl rfl ?_
      exact H
    · have H := H.2 c2
      refine XA.blk (e9 := 117) (ok := true) (ls' := [some (.ref k), some (.ref q), some (.ref v), some (.int x3), some (.int x4), some (.int x5)]) (st' := [.int x5, .ref q, .ref k]) (h' := hs σ2) [(.aload_n 0, 1, 0, 0, 0, 0, 0, 0), (.aload_n 1, 1, 1, 0, 0, 0, 0, 0), (.iload 5, 2, 5, 0, 0, 0, 0, 0)] (by decide +kernel) rfl rfl ?_
      refine XA.callV (as := [.ref q, .int x5]) (rest := []) (mc' := 0) (ms' := 0) (idx := 77) (t := 604) cv_X5_keepFacts (by decide +kernel) (swO hk) rfl rfl (Nat.le_of_ble_eq_true rfl) (Nat.le_of_ble_eq_true rfl) (Nat.le_of_ble_eq_true rfl) (Nat.le_of_ble_eq_true rfl) (H) (fun rv h' hp => ?_)
      obtain ⟨s9, rfl, rfl, hK⟩ := hp
      exact ⟨rfl, rfl, hK⟩
  · have H := H.2 c1
    refine XA.blk (e9 := 72) (ok := kO 172 S0 k 5 && (true)) (ls' := [some (.ref k), some (.ref q), some (.ref v), some (.int x3), some (.int x4), some (.int x5)]) (st' := [.int (σ k 11)]) (h' := hs σ) [(.aload_n 0, 1, 0, 0, 0, 0, 0, 0), (.getfield 61, 3, 5, 11, 0, 230, 0, 0)] (by decide +kernel) rfl (by simp only [swO hk, Bool.and_true, Bool.true_and]) ?_
    refine XA.if_le (4) 76 (by decide +kernel) (fun c2 => ?_) (fun c2 => ?_)
    · have H := H.1 c2
      obtain ⟨o1, H⟩ := H
      refine XA.blk (e9 := 87) (ok := (kO 172 S0 k 5 && kR R0 k 0 (k + 1)) && (kO 172 S0 k 5 && (kA 172 S0 (k + 1) 1 x5 && (true)))) (ls' := [some (.ref k), some (.ref q), some (.ref v), some (.int x3), some (.int x4), some (.int x5)]) (st' := []) (h' := hs (su σ (k + 1) (Int32.toNatClampNeg x5) (σ k 6))) [(.aload_n 0, 1, 0, 0, 0, 0, 0, 0), (.getfield 9, 3, 5, 0, 2, 213, 0, 0), (.iload 5, 2, 5, 0, 0, 0, 0, 0), (.aload_n 0, 1, 0, 0, 0, 0, 0, 0), (.getfield 65, 3, 5, 6, 0, 223, 0, 0), (.iastore, 1, 0, 0, 0, 0, 0, 0)] (by decide +kernel) rfl (by simp only [swO hk, swR0 hk, swA1 hk x5, o1, Bool.and_true, Bool.true_and]) ?_
      obtain ⟨σ3, hσ3⟩ : ∃ s9, s9 = (su σ (k + 1) (Int32.toNatClampNeg x5) (σ k 6)) := ⟨_, rfl⟩
      rw [← hσ3]
      have H := H σ3 hσ3
      refine XA.blk (e9 := 96) (ok := kO 172 S0 k 5 && (kO 172 S0 k 5 && (true))) (ls' := [some (.ref k), some (.ref q), some (.ref v), some (.int x3), some (.int x4), some (.int x5)]) (st' := [.int (σ3 k 6), .int (σ3 k 10), .ref k]) (h' := hs σ3) [(.aload_n 0, 1, 0, 0, 0, 0, 0, 0), (.dup, 1, 0, 0, 0, 0, 0, 0), (.getfield 68, 3, 5, 10, 0, 227, 0, 0), (.aload_n 0, 1, 0, 0, 0, 0, 0, 0), (.getfield 65, 3, 5, 6, 0, 223, 0, 0)] (by decide +kernel) rfl (by simp only [swO hk, Bool.and_true, Bool.true_and]) ?_
      refine XA.callS (as := [.int (σ3 k 6)]) (rest := [.int (σ3 k 10), .ref k]) (mc' := 0) (ms' := 0) (idx := 71) (t := 572) cs_J6_bitCount_0f7a4 (by decide +kernel) rfl rfl (Nat.le_of_ble_eq_true rfl) (Nat.le_of_ble_eq_true rfl) (Nat.le_of_ble_eq_true rfl) (Nat.le_of_ble_eq_true rfl) (pu_J6_bitCount_0f7a4 scr σ3 (σ3 k 6)) (fun rv h' hp => ?_)
      obtain ⟨rfl, rfl⟩ := hp
      refine ⟨rfl, rfl, ?_⟩
      show XA scr 3 mX5_play 172 4705 99 [some (.ref k), some (.ref q), some (.ref v), some (.int x3), some (.int x4), some (.int x5)] [.int (bcV (σ3 k 6)), .int (σ3 k 10), .ref k] (hs σ3) (pV P)
      refine XA.blk (e9 := 103) (ok := kO 172 S0 k 5 && (true)) (ls' := [some (.ref k), some (.ref q), some (.ref v), some (.int x3), some (.int x4), some (.int x5)]) (st' := []) (h' := hs (su σ3 k 10 ((σ3 k 10) + (bcV (σ3 k 6))))) [(.iadd, 1, 0, 0, 0, 0, 0, 0), (.putfield 68, 3, 5, 10, 0, 227, 0, 0)] (by decide +kernel) rfl (by simp only [swO hk, Bool.and_true, Bool.true_and]) ?_
      obtain ⟨σ4, hσ4⟩ : ∃ s9, s9 = (su σ3 k 10 ((σ3 k 10) + (bcV (σ3 k 6)))) := ⟨_, rfl⟩
      rw [← hσ4]
      have H := H σ4 hσ4
      refine XA.blk (e9 := 110) (ok := (kO 172 S0 k 5 && kR R0 k 1 (k + 6)) && (decide ((k + 6) < 172 ∧ 1 ≤ (S0 (k + 6)).1 ∧ (S0 (k + 6)).1 ≤ 5) && (true))) (ls' := [some (.ref k), some (.ref q), some (.ref v), some (.int x3), some (.int x4), some (.int x5)]) (st' := [.int (Int32.ofNat (S0 (k + 6)).2), .int x5]) (h' := hs σ4) [(.iload 5, 2, 5, 0, 0, 0, 0, 0), (.aload_n 0, 1, 0, 0, 0, 0, 0, 0), (.getfield 29, 3, 5, 1, 7, 216, 0, 0), (.arraylength, 1, 0, 0, 0, 0, 0, 0)] (by decide +kernel) rfl (by simp only [swO hk, swR1 hk, swL6 hk, Bool.and_true, Bool.true_and]) ?_
      refine XA.icmp_ge (10) 120 (by decide +kernel) (fun c3 => ?_) (fun c3 => ?_)
      · have H := H.1 c3
        refine XA.blk (e9 := 7) (ok := true) (ls' := [some (.ref k), some (.ref q), some (.ref v), some (.int x3), some (.int x4), some (.int (x5 + 1))]) (st' := []) (h' := hs σ4) [(.iinc 5 1, 3, 5, 0, 0, 0, 1, 0), (.goto (-116), 3, 7, 0, 0, 0, 0, 0)] (by decide +kernel) rfl rfl ?_
        exact H
      · have H := H.2 c3
        refine XA.blk (e9 := 117) (ok := true) (ls' := [some (.ref k), some (.ref q), some (.ref v), some (.int x3), some (.int x4), some (.int x5)]) (st' := [.int x5, .ref q, .ref k]) (h' := hs σ4) [(.aload_n 0, 1, 0, 0, 0, 0, 0, 0), (.aload_n 1, 1, 1, 0, 0, 0, 0, 0), (.iload 5, 2, 5, 0, 0, 0, 0, 0)] (by decide +kernel) rfl rfl ?_
        refine XA.callV (as := [.ref q, .int x5]) (rest := []) (mc' := 0) (ms' := 0) (idx := 77) (t := 604) cv_X5_keepFacts (by decide +kernel) (swO hk) rfl rfl (Nat.le_of_ble_eq_true rfl) (Nat.le_of_ble_eq_true rfl) (Nat.le_of_ble_eq_true rfl) (Nat.le_of_ble_eq_true rfl) (H) (fun rv h' hp => ?_)
        obtain ⟨s9, rfl, rfl, hK⟩ := hp
        exact ⟨rfl, rfl, hK⟩
    · have H := H.2 c2
      exact XA.ret none rfl (show ckRt mX5_play 75 .return_ = true by decide +kernel) trivial (Nat.le_of_ble_eq_true rfl) (Nat.le_of_ble_eq_true rfl) ⟨_, rfl, rfl, H⟩
set_option maxRecDepth 20000 in
theorem W_X5_play_120 {scr : ScA} {k q v : Nat} (hk : isSw k) (hq : isTr q) (hv : isEv v) {x3 : Int32} {x4 : Int32} {x5 : Int32}  {σ : Nat → Nat → Int32} {P : (Nat → Nat → Int32) → Prop} (H : K_X5_play_7 scr k q v x3 x4 (x5 + 1) σ P) : K_X5_play_120 scr k q v x3 x4 x5 σ P := by
  show XA scr 3 mX5_play 172 4705 120 [some (.ref k), some (.ref q), some (.ref v), some (.int x3), some (.int x4), some (.int x5)] [] (hs σ) (pV P)
  refine XA.blk (e9 := 7) (ok := true) (ls' := [some (.ref k), some (.ref q), some (.ref v), some (.int x3), some (.int x4), some (.int (x5 + 1))]) (st' := []) (h' := hs σ) [(.iinc 5 1, 3, 5, 0, 0, 0, 1, 0), (.goto (-116), 3, 7, 0, 0, 0, 0, 0)] (by decide +kernel) rfl rfl ?_
  exact H
theorem E_X5_play {scr : ScA} {k q v : Nat} {x3 : Int32} {x4 : Int32} {σ : Nat → Nat → Int32} {P : (Nat → Nat → Int32) → Prop} (h : K_X5_play_0 scr k q v x3 x4 σ P) : CvA scr 3 mX5_play [.ref k, .ref q, .ref v, .int x3, .int x4] σ P := CtA.of (by decide) (Nat.le_of_ble_eq_true rfl) (XA.drop (by simp [leL, enL]) h)
