def K_X11_notes_0 (scr : ScA)  (x1 : Int32) (σ : Nat → Nat → Int32) (P : (Nat → Nat → Int32) → Prop) : Prop := XA scr 2 mX11_notes 172 4705 0 [some (.ref 136), some (.int x1), none, none] [] (hs σ) (pV P)
def K_X11_notes_16 (scr : ScA)  (x1 : Int32) (x2 : Int32) (σ : Nat → Nat → Int32) (P : (Nat → Nat → Int32) → Prop) : Prop := XA scr 2 mX11_notes 172 4705 16 [some (.ref 136), some (.int x1), some (.int x2), none] [] (hs σ) (pV P)
def K_X11_notes_73 (scr : ScA)  (x1 : Int32) (x2 : Int32) (σ : Nat → Nat → Int32) (P : (Nat → Nat → Int32) → Prop) : Prop := XA scr 2 mX11_notes 172 4705 73 [some (.ref 136), some (.int x1), some (.int x2), none] [] (hs σ) (pV P)
set_option maxRecDepth 20000 in
theorem W_X11_notes_0 {scr : ScA}   {x1 : Int32}  {σ : Nat → Nat → Int32} {P : (Nat → Nat → Int32) → Prop} (H : (inB x1 24 = true) ∧ (∀ σ1, σ1 = (su σ 155 (Int32.toNatClampNeg x1) 0) → ∀ σ2, σ2 = (su σ1 156 (Int32.toNatClampNeg x1) 0) → K_X11_notes_16 scr x1 0 σ2 P)) : K_X11_notes_0 scr x1 σ P := by
  show XA scr 2 mX11_notes 172 4705 0 [some (.ref 136), some (.int x1), none, none] [] (hs σ) (pV P)
  obtain ⟨o1, H⟩ := H
  refine XA.blk (e9 := 7) (ok := inB x1 24 && (true)) (ls' := [some (.ref 136), some (.int x1), none, none]) (st' := []) (h' := hs (su σ 155 (Int32.toNatClampNeg x1) 0)) [(.aload_n 0, 1, 0, 0, 0, 0, 0, 0), (.getfield 64, 3, 11, 33, 20, 926, 0, 0), (.iload_n 1, 1, 1, 0, 0, 0, 0, 0), (.iconst 0, 1, 0, 0, 0, 0, 0, 0), (.iastore, 1, 0, 0, 0, 0, 0, 0)] (by decide +kernel) rfl (by simp only [o1, Bool.and_true, Bool.true_and]) ?_
  obtain ⟨σ1, hσ1⟩ : ∃ s9, s9 = (su σ 155 (Int32.toNatClampNeg x1) 0) := ⟨_, rfl⟩
  rw [← hσ1]
  have H := H σ1 hσ1
  refine XA.blk (e9 := 14) (ok := inB x1 24 && (true)) (ls' := [some (.ref 136), some (.int x1), none, none]) (st' := []) (h' := hs (su σ1 156 (Int32.toNatClampNeg x1) 0)) [(.aload_n 0, 1, 0, 0, 0, 0, 0, 0), (.getfield 67, 3, 11, 34, 21, 927, 0, 0), (.iload_n 1, 1, 1, 0, 0, 0, 0, 0), (.iconst 0, 1, 0, 0, 0, 0, 0, 0), (.iastore, 1, 0, 0, 0, 0, 0, 0)] (by decide +kernel) rfl (by simp only [o1, Bool.and_true, Bool.true_and]) ?_
  obtain ⟨σ2, hσ2⟩ : ∃ s9, s9 = (su σ1 156 (Int32.toNatClampNeg x1) 0) := ⟨_, rfl⟩
  rw [← hσ2]
  have H := H σ2 hσ2
  refine XA.blk (e9 := 16) (ok := true) (ls' := [some (.ref 136), some (.int x1), some (.int 0), none]) (st' := []) (h' := hs σ2) [(.iconst 0, 1, 0, 0, 0, 0, 0, 0), (.istore_n 2, 1, 2, 0, 0, 0, 0, 0)] (by decide +kernel) rfl rfl ?_
  exact H
set_option maxRecDepth 20000 in
theorem W_X11_notes_16 {scr : ScA}   {x1 : Int32} {x2 : Int32}  {σ : Nat → Nat → Int32} {P : (Nat → Nat → Int32) → Prop} (H : (10 ≤ x2 → K_X11_notes_73 scr x1 0 σ P) ∧ (¬ 10 ≤ x2 → (inB x2 10 = true) ∧ (inB ((10 * x1) + x2) 240 = true) ∧ (∀ σ1, σ1 = (su σ 157 (Int32.toNatClampNeg ((10 * x1) + x2)) (σ 149 (Int32.toNatClampNeg x2))) → (inB x1 24 = true) ∧ (∀ σ2, σ2 = (su σ1 156 (Int32.toNatClampNeg x1) ((σ1 156 (Int32.toNatClampNeg x1)) ||| (if (σ1 149 (Int32.toNatClampNeg x2)) = (-1) then 0 else (1 : Int32) <<< (x2 &&& 31) : Int32))) → K_X11_notes_16 scr x1 (x2 + 1) σ2 P)))) : K_X11_notes_16 scr x1 x2 σ P := by
  show XA scr 2 mX11_notes 172 4705 16 [some (.ref 136), some (.int x1), some (.int x2), none] [] (hs σ) (pV P)
  refine XA.blk (e9 := 19) (ok := true) (ls' := [some (.ref 136), some (.int x1), some (.int x2), none]) (st' := [.int 10, .int x2]) (h' := hs σ) [(.iload_n 2, 1, 2, 0, 0, 0, 0, 0), (.bipush 10, 2, 0, 0, 0, 0, 10, 0)] (by decide +kernel) rfl rfl ?_
  refine XA.icmp_ge (52) 71 (by decide +kernel) (fun c1 => ?_) (fun c1 => ?_)
  · have H := H.1 c1
    refine XA.blk (e9 := 73) (ok := true) (ls' := [some (.ref 136), some (.int x1), some (.int 0), none]) (st' := []) (h' := hs σ) [(.iconst 0, 1, 0, 0, 0, 0, 0, 0), (.istore_n 2, 1, 2, 0, 0, 0, 0, 0)] (by decide +kernel) rfl rfl ?_
    exact H
  · have H := H.2 c1
    obtain ⟨o1, o2, H⟩ := H
    refine XA.blk (e9 := 39) (ok := inB x2 10 && (inB ((10 * x1) + x2) 240 && (true))) (ls' := [some (.ref 136), some (.int x1), some (.int x2), none]) (st' := []) (h' := hs (su σ 157 (Int32.toNatClampNeg ((10 * x1) + x2)) (σ 149 (Int32.toNatClampNeg x2)))) [(.aload_n 0, 1, 0, 0, 0, 0, 0, 0), (.getfield 70, 3, 11, 35, 22, 928, 0, 0), (.bipush 10, 2, 0, 0, 0, 0, 10, 0), (.iload_n 1, 1, 1, 0, 0, 0, 0, 0), (.imul, 1, 0, 0, 0, 0, 0, 0), (.iload_n 2, 1, 2, 0, 0, 0, 0, 0), (.iadd, 1, 0, 0, 0, 0, 0, 0), (.aload_n 0, 1, 0, 0, 0, 0, 0, 0), (.getfield 46, 3, 11, 27, 14, 920, 0, 0), (.iload_n 2, 1, 2, 0, 0, 0, 0, 0), (.iaload, 1, 0, 0, 0, 0, 0, 0), (.iastore, 1, 0, 0, 0, 0, 0, 0)] (by decide +kernel) rfl (by simp only [o1, o2, Bool.and_true, Bool.true_and]) ?_
    obtain ⟨σ1, hσ1⟩ : ∃ s9, s9 = (su σ 157 (Int32.toNatClampNeg ((10 * x1) + x2)) (σ 149 (Int32.toNatClampNeg x2))) := ⟨_, rfl⟩
    rw [← hσ1]
    have H := H σ1 hσ1
    obtain ⟨o3, H⟩ := H
    refine XA.blk (e9 := 53) (ok := inB x1 24 && (inB x2 10 && (true))) (ls' := [some (.ref 136), some (.int x1), some (.int x2), none]) (st' := [.int (-1), .int (σ1 149 (Int32.toNatClampNeg x2)), .int (σ1 156 (Int32.toNatClampNeg x1)), .int x1, .ref 156]) (h' := hs σ1) [(.aload_n 0, 1, 0, 0, 0, 0, 0, 0), (.getfield 67, 3, 11, 34, 21, 927, 0, 0), (.iload_n 1, 1, 1, 0, 0, 0, 0, 0), (.dup2, 1, 0, 0, 0, 0, 0, 0), (.iaload, 1, 0, 0, 0, 0, 0, 0), (.aload_n 0, 1, 0, 0, 0, 0, 0, 0), (.getfield 46, 3, 11, 27, 14, 920, 0, 0), (.iload_n 2, 1, 2, 0, 0, 0, 0, 0), (.iaload, 1, 0, 0, 0, 0, 0, 0), (.iconst (-1), 1, 0, 0, 0, 0, (-1), 0)] (by decide +kernel) rfl (by simp only [o3, o1, Bool.and_true, Bool.true_and]) ?_
    have hJ53 : XA scr 2 mX11_notes 172 4705 63 [some (.ref 136), some (.int x1), some (.int x2), none] [.int (if (σ1 149 (Int32.toNatClampNeg x2)) = (-1) then 0 else (1 : Int32) <<< (x2 &&& 31) : Int32), .int (σ1 156 (Int32.toNatClampNeg x1)), .int x1, .ref 156] (hs σ1) (pV P) := by
      refine XA.blk (e9 := 65) (ok := inB x1 24 && (true)) (ls' := [some (.ref 136), some (.int x1), some (.int x2), none]) (st' := []) (h' := hs (su σ1 156 (Int32.toNatClampNeg x1) ((σ1 156 (Int32.toNatClampNeg x1)) ||| (if (σ1 149 (Int32.toNatClampNeg x2)) = (-1) then 0 else (1 : Int32) <<< (x2 &&& 31) : Int32)))) [(.ior, 1, 0, 0, 0, 0, 0, 0), (.iastore, 1, 0, 0, 0, 0, 0, 0)] (by decide +kernel) rfl (by simp only [o3, Bool.and_true, Bool.true_and]) ?_
      obtain ⟨σ2, hσ2⟩ : ∃ s9, s9 = (su σ1 156 (Int32.toNatClampNeg x1) ((σ1 156 (Int32.toNatClampNeg x1)) ||| (if (σ1 149 (Int32.toNatClampNeg x2)) = (-1) then 0 else (1 : Int32) <<< (x2 &&& 31) : Int32))) := ⟨_, rfl⟩
      rw [← hσ2]
      have H := H σ2 hσ2
      refine XA.blk (e9 := 16) (ok := true) (ls' := [some (.ref 136), some (.int x1), some (.int (x2 + 1)), none]) (st' := []) (h' := hs σ2) [(.iinc 2 1, 3, 2, 0, 0, 0, 1, 0), (.goto (-52), 3, 16, 0, 0, 0, 0, 0)] (by decide +kernel) rfl rfl ?_
      exact H
    refine XA.icmp_eq (9) 62 (by decide +kernel) (fun c2 => ?_) (fun c2 => ?_)
    · refine XA.blk (e9 := 63) (ok := true) (ls' := [some (.ref 136), some (.int x1), some (.int x2), none]) (st' := [.int 0, .int (σ1 156 (Int32.toNatClampNeg x1)), .int x1, .ref 156]) (h' := hs σ1) [(.iconst 0, 1, 0, 0, 0, 0, 0, 0)] (by decide +kernel) rfl rfl ?_
      simpa only [if_pos c2] using hJ53
    · refine XA.blk (e9 := 63) (ok := true) (ls' := [some (.ref 136), some (.int x1), some (.int x2), none]) (st' := [.int ((1 : Int32) <<< (x2 &&& 31)), .int (σ1 156 (Int32.toNatClampNeg x1)), .int x1, .ref 156]) (h' := hs σ1) [(.iconst 1, 1, 0, 0, 0, 0, 1, 0), (.iload_n 2, 1, 2, 0, 0, 0, 0, 0), (.ishl, 1, 0, 0, 0, 0, 0, 0), (.goto 4, 3, 63, 0, 0, 0, 0, 0)] (by decide +kernel) rfl rfl ?_
      simpa only [if_neg c2] using hJ53
set_option maxRecDepth 20000 in
theorem W_X11_notes_73 {scr : ScA}   {x1 : Int32} {x2 : Int32}  {σ : Nat → Nat → Int32} {P : (Nat → Nat → Int32) → Prop} (H : ((σ 136 2) ≤ x2 → ∀ σ1, σ1 = (su σ 136 24 ((σ 136 24) ||| (σ 136 25))) → (inB x1 24 = true) ∧ (∀ σ2, σ2 = (su σ1 136 17 ((σ1 136 17) + (σ1 155 (Int32.toNatClampNeg x1)))) → ∀ σ3, σ3 = (su σ2 136 21 (if (σ2 155 (Int32.toNatClampNeg x1)) ≤ (σ2 136 20) then σ2 136 21 else x1 : Int32)) → ∀ σ4, σ4 = (su σ3 136 20 (if (σ3 155 (Int32.toNatClampNeg x1)) ≤ (σ3 136 20) then σ3 136 20 else σ3 155 (Int32.toNatClampNeg x1) : Int32)) → ((σ4 136 22) = (-1) → (inB 9 10 = true)) ∧ (∀ σ5, σ5 = (su σ4 136 22 (if ¬ (σ4 136 22) = (-1) then σ4 136 22 else (if (σ4 149 (Int32.toNatClampNeg 9)) = (-1) then σ4 136 22 else x1 : Int32) : Int32)) → (inB 9 10 = true) ∧ (∀ σ6, σ6 = (su σ5 136 23 ((σ5 136 23) + (if (σ5 149 (Int32.toNatClampNeg 9)) = (-1) then 0 else 1 : Int32))) → P σ6)))) ∧ (¬ (σ 136 2) ≤ x2 → (inB x1 24 = true) ∧ (∀ σ7, σ7 = (su σ 155 (Int32.toNatClampNeg x1) ((σ 155 (Int32.toNatClampNeg x1)) + (if (iiV (σ 136 25) x2) = 0 then 0 else 1 : Int32))) → (inB x2 11 = true) ∧ (((σ7 141 (Int32.toNatClampNeg x2)) ≤ x1 → ((iiV (σ7 136 25) x2) = 0 → (inB x2 10 = true))) ∧ ((inB ((10 * x1) + x2) 240 = true) ∧ (∀ σ8, σ8 = (su σ7 158 (Int32.toNatClampNeg ((10 * x1) + x2)) (if (σ7 141 (Int32.toNatClampNeg x2)) ≤ x1 then (if (iiV (σ7 136 25) x2) = 0 then (if (liV σ7 x2 x1) = 0 then 1 else 3 : Int32) else 2 : Int32) else 0 : Int32)) → (inB x2 10 = true) ∧ (∀ σ9, σ9 = (su σ8 159 (Int32.toNatClampNeg ((10 * x1) + x2)) (σ8 151 (Int32.toNatClampNeg x2))) → ∀ σ10, σ10 = (su σ9 160 (Int32.toNatClampNeg ((10 * x1) + x2)) (σ9 150 (Int32.toNatClampNeg x2))) → ∀ σ11, σ11 = (su σ10 161 (Int32.toNatClampNeg ((10 * x1) + x2)) (σ10 152 (Int32.toNatClampNeg x2))) → K_X11_notes_73 scr x1 (x2 + 1) σ11 P))))))) : K_X11_notes_73 scr x1 x2 σ P := by
  show XA scr 2 mX11_notes 172 4705 73 [some (.ref 136), some (.int x1), some (.int x2), none] [] (hs σ) (pV P)
  refine XA.blk (e9 := 78) (ok := true) (ls' := [some (.ref 136), some (.int x1), some (.int x2), none]) (st' := [.int (σ 136 2), .int x2]) (h' := hs σ) [(.iload_n 2, 1, 2, 0, 0, 0, 0, 0), (.aload_n 0, 1, 0, 0, 0, 0, 0, 0), (.getfield 141, 3, 11, 2, 0, 895, 0, 0)] (by decide +kernel) rfl rfl ?_
  refine XA.icmp_ge (120) 198 (by decide +kernel) (fun c1 => ?_) (fun c1 => ?_)
  · have H := H.1 c1
    refine XA.blk (e9 := 211) (ok := true) (ls' := [some (.ref 136), some (.int x1), some (.int x2), none]) (st' := []) (h' := hs (su σ 136 24 ((σ 136 24) ||| (σ 136 25)))) [(.aload_n 0, 1, 0, 0, 0, 0, 0, 0), (.dup, 1, 0, 0, 0, 0, 0, 0), (.getfield 211, 3, 11, 24, 0, 917, 0, 0), (.aload_n 0, 1, 0, 0, 0, 0, 0, 0), (.getfield 183, 3, 11, 25, 0, 918, 0, 0), (.ior, 1, 0, 0, 0, 0, 0, 0), (.putfield 211, 3, 11, 24, 0, 917, 0, 0)] (by decide +kernel) rfl rfl ?_
    obtain ⟨σ1, hσ1⟩ : ∃ s9, s9 = (su σ 136 24 ((σ 136 24) ||| (σ 136 25))) := ⟨_, rfl⟩
    rw [← hσ1]
    have H := H σ1 hσ1
    obtain ⟨o1, H⟩ := H
    refine XA.blk (e9 := 226) (ok := inB x1 24 && (true)) (ls' := [some (.ref 136), some (.int x1), some (.int x2), none]) (st' := []) (h' := hs (su σ1 136 17 ((σ1 136 17) + (σ1 155 (Int32.toNatClampNeg x1))))) [(.aload_n 0, 1, 0, 0, 0, 0, 0, 0), (.dup, 1, 0, 0, 0, 0, 0, 0), (.getfield 214, 3, 11, 17, 0, 910, 0, 0), (.aload_n 0, 1, 0, 0, 0, 0, 0, 0), (.getfield 64, 3, 11, 33, 20, 926, 0, 0), (.iload_n 1, 1, 1, 0, 0, 0, 0, 0), (.iaload, 1, 0, 0, 0, 0, 0, 0), (.iadd, 1, 0, 0, 0, 0, 0, 0), (.putfield 214, 3, 11, 17, 0, 910, 0, 0)] (by decide +kernel) rfl (by simp only [o1, Bool.and_true, Bool.true_and]) ?_
    obtain ⟨σ2, hσ2⟩ : ∃ s9, s9 = (su σ1 136 17 ((σ1 136 17) + (σ1 155 (Int32.toNatClampNeg x1)))) := ⟨_, rfl⟩
    rw [← hσ2]
    have H := H σ2 hσ2
    refine XA.blk (e9 := 237) (ok := inB x1 24 && (true)) (ls' := [some (.ref 136), some (.int x1), some (.int x2), none]) (st' := [.int (σ2 136 20), .int (σ2 155 (Int32.toNatClampNeg x1)), .ref 136]) (h' := hs σ2) [(.aload_n 0, 1, 0, 0, 0, 0, 0, 0), (.aload_n 0, 1, 0, 0, 0, 0, 0, 0), (.getfield 64, 3, 11, 33, 20, 926, 0, 0), (.iload_n 1, 1, 1, 0, 0, 0, 0, 0), (.iaload, 1, 0, 0, 0, 0, 0, 0), (.aload_n 0, 1, 0, 0, 0, 0, 0, 0), (.getfield 217, 3, 11, 20, 0, 913, 0, 0)] (by decide +kernel) rfl (by simp only [o1, Bool.and_true, Bool.true_and]) ?_
    have hJ237 : XA scr 2 mX11_notes 172 4705 248 [some (.ref 136), some (.int x1), none, none] [.int (if (σ2 155 (Int32.toNatClampNeg x1)) ≤ (σ2 136 20) then σ2 136 21 else x1 : Int32), .ref 136] (hs σ2) (pV P) := by
      refine XA.blk (e9 := 251) (ok := true) (ls' := [some (.ref 136), some (.int x1), none, none]) (st' := []) (h' := hs (su σ2 136 21 (if (σ2 155 (Int32.toNatClampNeg x1)) ≤ (σ2 136 20) then σ2 136 21 else x1 : Int32))) [(.putfield 220, 3, 11, 21, 0, 914, 0, 0)] (by decide +kernel) rfl rfl ?_
      obtain ⟨σ3, hσ3⟩ : ∃ s9, s9 = (su σ2 136 21 (if (σ2 155 (Int32.toNatClampNeg x1)) ≤ (σ2 136 20) then σ2 136 21 else x1 : Int32)) := ⟨_, rfl⟩
      rw [← hσ3]
      have H := H σ3 hσ3
      refine XA.blk (e9 := 262) (ok := inB x1 24 && (true)) (ls' := [some (.ref 136), some (.int x1), none, none]) (st' := [.int (σ3 136 20), .int (σ3 155 (Int32.toNatClampNeg x1)), .ref 136]) (h' := hs σ3) [(.aload_n 0, 1, 0, 0, 0, 0, 0, 0), (.aload_n 0, 1, 0, 0, 0, 0, 0, 0), (.getfield 64, 3, 11, 33, 20, 926, 0, 0), (.iload_n 1, 1, 1, 0, 0, 0, 0, 0), (.iaload, 1, 0, 0, 0, 0, 0, 0), (.aload_n 0, 1, 0, 0, 0, 0, 0, 0), (.getfield 217, 3, 11, 20, 0, 913, 0, 0)] (by decide +kernel) rfl (by simp only [o1, Bool.and_true, Bool.true_and]) ?_
      have hJ262 : XA scr 2 mX11_notes 172 4705 278 [some (.ref 136), some (.int x1), none, none] [.int (if (σ3 155 (Int32.toNatClampNeg x1)) ≤ (σ3 136 20) then σ3 136 20 else σ3 155 (Int32.toNatClampNeg x1) : Int32), .ref 136] (hs σ3) (pV P) := by
        refine XA.blk (e9 := 281) (ok := true) (ls' := [some (.ref 136), some (.int x1), none, none]) (st' := []) (h' := hs (su σ3 136 20 (if (σ3 155 (Int32.toNatClampNeg x1)) ≤ (σ3 136 20) then σ3 136 20 else σ3 155 (Int32.toNatClampNeg x1) : Int32))) [(.putfield 217, 3, 11, 20, 0, 913, 0, 0)] (by decide +kernel) rfl rfl ?_
        obtain ⟨σ4, hσ4⟩ : ∃ s9, s9 = (su σ3 136 20 (if (σ3 155 (Int32.toNatClampNeg x1)) ≤ (σ3 136 20) then σ3 136 20 else σ3 155 (Int32.toNatClampNeg x1) : Int32)) := ⟨_, rfl⟩
        rw [← hσ4]
        have H := H σ4 hσ4
        refine XA.blk (e9 := 287) (ok := true) (ls' := [some (.ref 136), some (.int x1), none, none]) (st' := [.int (-1), .int (σ4 136 22), .ref 136]) (h' := hs σ4) [(.aload_n 0, 1, 0, 0, 0, 0, 0, 0), (.aload_n 0, 1, 0, 0, 0, 0, 0, 0), (.getfield 223, 3, 11, 22, 0, 915, 0, 0), (.iconst (-1), 1, 0, 0, 0, 0, (-1), 0)] (by decide +kernel) rfl rfl ?_
        obtain ⟨hF287, H⟩ := H
        have hJ287 : XA scr 2 mX11_notes 172 4705 309 [some (.ref 136), none, none, none] [.int (if ¬ (σ4 136 22) = (-1) then σ4 136 22 else (if (σ4 149 (Int32.toNatClampNeg 9)) = (-1) then σ4 136 22 else x1 : Int32) : Int32), .ref 136] (hs σ4) (pV P) := by
          refine XA.blk (e9 := 312) (ok := true) (ls' := [some (.ref 136), none, none, none]) (st' := []) (h' := hs (su σ4 136 22 (if ¬ (σ4 136 22) = (-1) then σ4 136 22 else (if (σ4 149 (Int32.toNatClampNeg 9)) = (-1) then σ4 136 22 else x1 : Int32) : Int32))) [(.putfield 223, 3, 11, 22, 0, 915, 0, 0)] (by decide +kernel) rfl rfl ?_
          obtain ⟨σ5, hσ5⟩ : ∃ s9, s9 = (su σ4 136 22 (if ¬ (σ4 136 22) = (-1) then σ4 136 22 else (if (σ4 149 (Int32.toNatClampNeg 9)) = (-1) then σ4 136 22 else x1 : Int32) : Int32)) := ⟨_, rfl⟩
          rw [← hσ5]
          have H := H σ5 hσ5
          obtain ⟨o2, H⟩ := H
          refine XA.blk (e9 := 325) (ok := inB 9 10 && (true)) (ls' := [some (.ref 136), none, none, none]) (st' := [.int (-1), .int (σ5 149 (Int32.toNatClampNeg 9)), .int (σ5 136 23), .ref 136]) (h' := hs σ5) [(.aload_n 0, 1, 0, 0, 0, 0, 0, 0), (.dup, 1, 0, 0, 0, 0, 0, 0), (.getfield 226, 3, 11, 23, 0, 916, 0, 0), (.aload_n 0, 1, 0, 0, 0, 0, 0, 0), (.getfield 46, 3, 11, 27, 14, 920, 0, 0), (.bipush 9, 2, 0, 0, 0, 0, 9, 0), (.iaload, 1, 0, 0, 0, 0, 0, 0), (.iconst (-1), 1, 0, 0, 0, 0, (-1), 0)] (by decide +kernel) rfl (by simp only [o2, Bool.and_true, Bool.true_and]) ?_
          have hJ325 : XA scr 2 mX11_notes 172 4705 333 [none, none, none, none] [.int (if (σ5 149 (Int32.toNatClampNeg 9)) = (-1) then 0 else 1 : Int32), .int (σ5 136 23), .ref 136] (hs σ5) (pV P) := by
            refine XA.blk (e9 := 337) (ok := true) (ls' := [none, none, none, none]) (st' := []) (h' := hs (su σ5 136 23 ((σ5 136 23) + (if (σ5 149 (Int32.toNatClampNeg 9)) = (-1) then 0 else 1 : Int32)))) [(.iadd, 1, 0, 0, 0, 0, 0, 0), (.putfield 226, 3, 11, 23, 0, 916, 0, 0)] (by decide +kernel) rfl rfl ?_
            obtain ⟨σ6, hσ6⟩ : ∃ s9, s9 = (su σ5 136 23 ((σ5 136 23) + (if (σ5 149 (Int32.toNatClampNeg 9)) = (-1) then 0 else 1 : Int32))) := ⟨_, rfl⟩
            rw [← hσ6]
            have H := H σ6 hσ6
            exact XA.ret none rfl (show ckRt mX11_notes 337 .return_ = true by decide +kernel) trivial (Nat.le_of_ble_eq_true rfl) (Nat.le_of_ble_eq_true rfl) ⟨_, rfl, rfl, H⟩
          refine XA.icmp_eq (7) 332 (by decide +kernel) (fun c2 => ?_) (fun c2 => ?_)
          · refine XA.blk (e9 := 333) (ok := true) (ls' := [some (.ref 136), none, none, none]) (st' := [.int 0, .int (σ5 136 23), .ref 136]) (h' := hs σ5) [(.iconst 0, 1, 0, 0, 0, 0, 0, 0)] (by decide +kernel) rfl rfl ?_
            refine XA.drop (ls := [none, none, none, none]) (by simp [leL]) ?_
            simpa only [if_pos c2] using hJ325
          · refine XA.blk (e9 := 333) (ok := true) (ls' := [some (.ref 136), none, none, none]) (st' := [.int 1, .int (σ5 136 23), .ref 136]) (h' := hs σ5) [(.iconst 1, 1, 0, 0, 0, 0, 1, 0), (.goto 4, 3, 333, 0, 0, 0, 0, 0)] (by decide +kernel) rfl rfl ?_
            refine XA.drop (ls := [none, none, none, none]) (by simp [leL]) ?_
            simpa only [if_neg c2] using hJ325
        refine XA.icmp_ne (18) 305 (by decide +kernel) (fun c2 => ?_) (fun c2 => ?_)
        · refine XA.blk (e9 := 309) (ok := true) (ls' := [some (.ref 136), some (.int x1), none, none]) (st' := [.int (σ4 136 22), .ref 136]) (h' := hs σ4) [(.aload_n 0, 1, 0, 0, 0, 0, 0, 0), (.getfield 223, 3, 11, 22, 0, 915, 0, 0)] (by decide +kernel) rfl rfl ?_
          refine XA.drop (ls := [some (.ref 136), none, none, none]) (by simp [leL]) ?_
          simpa only [if_pos c2] using hJ287
        · have H := hF287 c2
          have o2 := H
          refine XA.blk (e9 := 298) (ok := inB 9 10 && (true)) (ls' := [some (.ref 136), some (.int x1), none, none]) (st' := [.int (-1), .int (σ4 149 (Int32.toNatClampNeg 9)), .ref 136]) (h' := hs σ4) [(.aload_n 0, 1, 0, 0, 0, 0, 0, 0), (.getfield 46, 3, 11, 27, 14, 920, 0, 0), (.bipush 9, 2, 0, 0, 0, 0, 9, 0), (.iaload, 1, 0, 0, 0, 0, 0, 0), (.iconst (-1), 1, 0, 0, 0, 0, (-1), 0)] (by decide +kernel) rfl (by simp only [o2, Bool.and_true, Bool.true_and]) ?_
          have hJ298 : XA scr 2 mX11_notes 172 4705 309 [some (.ref 136), none, none, none] [.int (if (σ4 149 (Int32.toNatClampNeg 9)) = (-1) then σ4 136 22 else x1 : Int32), .ref 136] (hs σ4) (pV P) := by
            simpa only [if_neg (not_not_intro c2)] using hJ287
          refine XA.icmp_eq (7) 305 (by decide +kernel) (fun c3 => ?_) (fun c3 => ?_)
          · refine XA.blk (e9 := 309) (ok := true) (ls' := [some (.ref 136), some (.int x1), none, none]) (st' := [.int (σ4 136 22), .ref 136]) (h' := hs σ4) [(.aload_n 0, 1, 0, 0, 0, 0, 0, 0), (.getfield 223, 3, 11, 22, 0, 915, 0, 0)] (by decide +kernel) rfl rfl ?_
            refine XA.drop (ls := [some (.ref 136), none, none, none]) (by simp [leL]) ?_
            simpa only [if_pos c3] using hJ298
          · refine XA.blk (e9 := 309) (ok := true) (ls' := [some (.ref 136), some (.int x1), none, none]) (st' := [.int x1, .ref 136]) (h' := hs σ4) [(.iload_n 1, 1, 1, 0, 0, 0, 0, 0), (.goto 7, 3, 309, 0, 0, 0, 0, 0)] (by decide +kernel) rfl rfl ?_
            refine XA.drop (ls := [some (.ref 136), none, none, none]) (by simp [leL]) ?_
            simpa only [if_neg c3] using hJ298
      refine XA.icmp_le (12) 274 (by decide +kernel) (fun c2 => ?_) (fun c2 => ?_)
      · refine XA.blk (e9 := 278) (ok := true) (ls' := [some (.ref 136), some (.int x1), none, none]) (st' := [.int (σ3 136 20), .ref 136]) (h' := hs σ3) [(.aload_n 0, 1, 0, 0, 0, 0, 0, 0), (.getfield 217, 3, 11, 20, 0, 913, 0, 0)] (by decide +kernel) rfl rfl ?_
        simpa only [if_pos c2] using hJ262
      · refine XA.blk (e9 := 278) (ok := inB x1 24 && (true)) (ls' := [some (.ref 136), some (.int x1), none, none]) (st' := [.int (σ3 155 (Int32.toNatClampNeg x1)), .ref 136]) (h' := hs σ3) [(.aload_n 0, 1, 0, 0, 0, 0, 0, 0), (.getfield 64, 3, 11, 33, 20, 926, 0, 0), (.iload_n 1, 1, 1, 0, 0, 0, 0, 0), (.iaload, 1, 0, 0, 0, 0, 0, 0), (.goto 7, 3, 278, 0, 0, 0, 0, 0)] (by decide +kernel) rfl (by simp only [o1, Bool.and_true, Bool.true_and]) ?_
        simpa only [if_neg c2] using hJ262
    refine XA.icmp_le (7) 244 (by decide +kernel) (fun c2 => ?_) (fun c2 => ?_)
    · refine XA.blk (e9 := 248) (ok := true) (ls' := [some (.ref 136), some (.int x1), some (.int x2), none]) (st' := [.int (σ2 136 21), .ref 136]) (h' := hs σ2) [(.aload_n 0, 1, 0, 0, 0, 0, 0, 0), (.getfield 220, 3, 11, 21, 0, 914, 0, 0)] (by decide +kernel) rfl rfl ?_
      refine XA.drop (ls := [some (.ref 136), some (.int x1), none, none]) (by simp [leL]) ?_
      simpa only [if_pos c2] using hJ237
    · refine XA.blk (e9 := 248) (ok := true) (ls' := [some (.ref 136), some (.int x1), some (.int x2), none]) (st' := [.int x1, .ref 136]) (h' := hs σ2) [(.iload_n 1, 1, 1, 0, 0, 0, 0, 0), (.goto 7, 3, 248, 0, 0, 0, 0, 0)] (by decide +kernel) rfl rfl ?_
      refine XA.drop (ls := [some (.ref 136), some (.int x1), none, none]) (by simp [leL]) ?_
      simpa only [if_neg c2] using hJ237
  · have H := H.2 c1
    obtain ⟨o1, H⟩ := H
    refine XA.blk (e9 := 97) (ok := inB x1 24 && (true)) (ls' := [some (.ref 136), some (.int x1), some (.int x2), some (.int ((10 * x1) + x2))]) (st' := [.int x2, .ref 136, .int (σ 155 (Int32.toNatClampNeg x1)), .int x1, .ref 155]) (h' := hs σ) [(.bipush 10, 2, 0, 0, 0, 0, 10, 0), (.iload_n 1, 1, 1, 0, 0, 0, 0, 0), (.imul, 1, 0, 0, 0, 0, 0, 0), (.iload_n 2, 1, 2, 0, 0, 0, 0, 0), (.iadd, 1, 0, 0, 0, 0, 0, 0), (.istore_n 3, 1, 3, 0, 0, 0, 0, 0), (.aload_n 0, 1, 0, 0, 0, 0, 0, 0), (.getfield 64, 3, 11, 33, 20, 926, 0, 0), (.iload_n 1, 1, 1, 0, 0, 0, 0, 0), (.dup2, 1, 0, 0, 0, 0, 0, 0), (.iaload, 1, 0, 0, 0, 0, 0, 0), (.aload_n 0, 1, 0, 0, 0, 0, 0, 0), (.iload_n 2, 1, 2, 0, 0, 0, 0, 0)] (by decide +kernel) rfl (by simp only [o1, Bool.and_true, Bool.true_and]) ?_
    refine XA.callV (as := [.int x2]) (rest := [.int (σ 155 (Int32.toNatClampNeg x1)), .int x1, .ref 155]) (mc' := 0) (ms' := 0) (idx := 201) (t := 1164) cv_X11_isUp (by decide +kernel) rfl rfl rfl (Nat.le_of_ble_eq_true rfl) (Nat.le_of_ble_eq_true rfl) (Nat.le_of_ble_eq_true rfl) (Nat.le_of_ble_eq_true rfl) (pu_X11_isUp scr σ x2) (fun rv h' hp => ?_)
    obtain ⟨rfl, rfl⟩ := hp
    refine ⟨rfl, rfl, ?_⟩
    show XA scr 2 mX11_notes 172 4705 100 [some (.ref 136), some (.int x1), some (.int x2), some (.int ((10 * x1) + x2))] [.int (iiV (σ 136 25) x2), .int (σ 155 (Int32.toNatClampNeg x1)), .int x1, .ref 155] (hs σ) (pV P)
    have hJ100 : XA scr 2 mX11_notes 172 4705 108 [some (.ref 136), some (.int x1), some (.int x2), some (.int ((10 * x1) + x2))] [.int (if (iiV (σ 136 25) x2) = 0 then 0 else 1 : Int32), .int (σ 155 (Int32.toNatClampNeg x1)), .int x1, .ref 155] (hs σ) (pV P) := by
      refine XA.blk (e9 := 110) (ok := inB x1 24 && (true)) (ls' := [some (.ref 136), some (.int x1), some (.int x2), some (.int ((10 * x1) + x2))]) (st' := []) (h' := hs (su σ 155 (Int32.toNatClampNeg x1) ((σ 155 (Int32.toNatClampNeg x1)) + (if (iiV (σ 136 25) x2) = 0 then 0 else 1 : Int32)))) [(.iadd, 1, 0, 0, 0, 0, 0, 0), (.iastore, 1, 0, 0, 0, 0, 0, 0)] (by decide +kernel) rfl (by simp only [o1, Bool.and_true, Bool.true_and]) ?_
      obtain ⟨σ7, hσ7⟩ : ∃ s9, s9 = (su σ 155 (Int32.toNatClampNeg x1) ((σ 155 (Int32.toNatClampNeg x1)) + (if (iiV (σ 136 25) x2) = 0 then 0 else 1 : Int32))) := ⟨_, rfl⟩
      rw [← hσ7]
      have H := H σ7 hσ7
      obtain ⟨o2, H⟩ := H
      refine XA.blk (e9 := 122) (ok := inB x2 11 && (true)) (ls' := [some (.ref 136), some (.int x1), some (.int x2), some (.int ((10 * x1) + x2))]) (st' := [.int (σ7 141 (Int32.toNatClampNeg x2)), .int x1, .int ((10 * x1) + x2), .ref 158]) (h' := hs σ7) [(.aload_n 0, 1, 0, 0, 0, 0, 0, 0), (.getfield 73, 3, 11, 36, 23, 929, 0, 0), (.iload_n 3, 1, 3, 0, 0, 0, 0, 0), (.iload_n 1, 1, 1, 0, 0, 0, 0, 0), (.aload_n 0, 1, 0, 0, 0, 0, 0, 0), (.getfield 22, 3, 11, 6, 6, 899, 0, 0), (.iload_n 2, 1, 2, 0, 0, 0, 0, 0), (.iaload, 1, 0, 0, 0, 0, 0, 0)] (by decide +kernel) rfl (by simp only [o2, Bool.and_true, Bool.true_and]) ?_
      obtain ⟨hT122, H⟩ := H
      have hJ122 : XA scr 2 mX11_notes 172 4705 155 [some (.ref 136), some (.int x1), some (.int x2), some (.int ((10 * x1) + x2))] [.int (if (σ7 141 (Int32.toNatClampNeg x2)) ≤ x1 then (if (iiV (σ7 136 25) x2) = 0 then (if (liV σ7 x2 x1) = 0 then 1 else 3 : Int32) else 2 : Int32) else 0 : Int32), .int ((10 * x1) + x2), .ref 158] (hs σ7) (pV P) := by
        obtain ⟨o3, H⟩ := H
        refine XA.blk (e9 := 156) (ok := inB ((10 * x1) + x2) 240 && (true)) (ls' := [some (.ref 136), some (.int x1), some (.int x2), some (.int ((10 * x1) + x2))]) (st' := []) (h' := hs (su σ7 158 (Int32.toNatClampNeg ((10 * x1) + x2)) (if (σ7 141 (Int32.toNatClampNeg x2)) ≤ x1 then (if (iiV (σ7 136 25) x2) = 0 then (if (liV σ7 x2 x1) = 0 then 1 else 3 : Int32) else 2 : Int32) else 0 : Int32))) [(.iastore, 1, 0, 0, 0, 0, 0, 0)] (by decide +kernel) rfl (by simp only [o3, Bool.and_true, Bool.true_and]) ?_
        obtain ⟨σ8, hσ8⟩ : ∃ s9, s9 = (su σ7 158 (Int32.toNatClampNeg ((10 * x1) + x2)) (if (σ7 141 (Int32.toNatClampNeg x2)) ≤ x1 then (if (iiV (σ7 136 25) x2) = 0 then (if (liV σ7 x2 x1) = 0 then 1 else 3 : Int32) else 2 : Int32) else 0 : Int32)) := ⟨_, rfl⟩
        rw [← hσ8]
        have H := H σ8 hσ8
        obtain ⟨o4, H⟩ := H
        refine XA.blk (e9 := 168) (ok := inB x2 10 && (inB ((10 * x1) + x2) 240 && (true))) (ls' := [some (.ref 136), some (.int x1), some (.int x2), some (.int ((10 * x1) + x2))]) (st' := []) (h' := hs (su σ8 159 (Int32.toNatClampNeg ((10 * x1) + x2)) (σ8 151 (Int32.toNatClampNeg x2)))) [(.aload_n 0, 1, 0, 0, 0, 0, 0, 0), (.getfield 76, 3, 11, 37, 24, 930, 0, 0), (.iload_n 3, 1, 3, 0, 0, 0, 0, 0), (.aload_n 0, 1, 0, 0, 0, 0, 0, 0), (.getfield 52, 3, 11, 29, 16, 922, 0, 0), (.iload_n 2, 1, 2, 0, 0, 0, 0, 0), (.iaload, 1, 0, 0, 0, 0, 0, 0), (.iastore, 1, 0, 0, 0, 0, 0, 0)] (by decide +kernel) rfl (by simp only [o4, o3, Bool.and_true, Bool.true_and]) ?_
        obtain ⟨σ9, hσ9⟩ : ∃ s9, s9 = (su σ8 159 (Int32.toNatClampNeg ((10 * x1) + x2)) (σ8 151 (Int32.toNatClampNeg x2))) := ⟨_, rfl⟩
        rw [← hσ9]
        have H := H σ9 hσ9
        refine XA.blk (e9 := 180) (ok := inB x2 10 && (inB ((10 * x1) + x2) 240 && (true))) (ls' := [some (.ref 136), some (.int x1), some (.int x2), some (.int ((10 * x1) + x2))]) (st' := []) (h' := hs (su σ9 160 (Int32.toNatClampNeg ((10 * x1) + x2)) (σ9 150 (Int32.toNatClampNeg x2)))) [(.aload_n 0, 1, 0, 0, 0, 0, 0, 0), (.getfield 79, 3, 11, 38, 25, 931, 0, 0), (.iload_n 3, 1, 3, 0, 0, 0, 0, 0), (.aload_n 0, 1, 0, 0, 0, 0, 0, 0), (.getfield 49, 3, 11, 28, 15, 921, 0, 0), (.iload_n 2, 1, 2, 0, 0, 0, 0, 0), (.iaload, 1, 0, 0, 0, 0, 0, 0), (.iastore, 1, 0, 0, 0, 0, 0, 0)] (by decide +kernel) rfl (by simp only [o4, o3, Bool.and_true, Bool.true_and]) ?_
        obtain ⟨σ10, hσ10⟩ : ∃ s9, s9 = (su σ9 160 (Int32.toNatClampNeg ((10 * x1) + x2)) (σ9 150 (Int32.toNatClampNeg x2))) := ⟨_, rfl⟩
        rw [← hσ10]
        have H := H σ10 hσ10
        refine XA.blk (e9 := 192) (ok := inB x2 10 && (inB ((10 * x1) + x2) 240 && (true))) (ls' := [some (.ref 136), some (.int x1), some (.int x2), some (.int ((10 * x1) + x2))]) (st' := []) (h' := hs (su σ10 161 (Int32.toNatClampNeg ((10 * x1) + x2)) (σ10 152 (Int32.toNatClampNeg x2)))) [(.aload_n 0, 1, 0, 0, 0, 0, 0, 0), (.getfield 82, 3, 11, 39, 26, 932, 0, 0), (.iload_n 3, 1, 3, 0, 0, 0, 0, 0), (.aload_n 0, 1, 0, 0, 0, 0, 0, 0), (.getfield 55, 3, 11, 30, 17, 923, 0, 0), (.iload_n 2, 1, 2, 0, 0, 0, 0, 0), (.iaload, 1, 0, 0, 0, 0, 0, 0), (.iastore, 1, 0, 0, 0, 0, 0, 0)] (by decide +kernel) rfl (by simp only [o4, o3, Bool.and_true, Bool.true_and]) ?_
        obtain ⟨σ11, hσ11⟩ : ∃ s9, s9 = (su σ10 161 (Int32.toNatClampNeg ((10 * x1) + x2)) (σ10 152 (Int32.toNatClampNeg x2))) := ⟨_, rfl⟩
        rw [← hσ11]
        have H := H σ11 hσ11
        refine XA.blk (e9 := 73) (ok := true) (ls' := [some (.ref 136), some (.int x1), some (.int (x2 + 1)), some (.int ((10 * x1) + x2))]) (st' := []) (h' := hs σ11) [(.iinc 2 1, 3, 2, 0, 0, 0, 1, 0), (.goto (-122), 3, 73, 0, 0, 0, 0, 0)] (by decide +kernel) rfl rfl ?_
        exact XA.drop (by simp [leL]) H
      refine XA.icmp_ge (7) 129 (by decide +kernel) (fun c2 => ?_) (fun c2 => ?_)
      · have H := hT122 c2
        refine XA.blk (e9 := 131) (ok := true) (ls' := [some (.ref 136), some (.int x1), some (.int x2), some (.int ((10 * x1) + x2))]) (st' := [.int x2, .ref 136, .int ((10 * x1) + x2), .ref 158]) (h' := hs σ7) [(.aload_n 0, 1, 0, 0, 0, 0, 0, 0), (.iload_n 2, 1, 2, 0, 0, 0, 0, 0)] (by decide +kernel) rfl rfl ?_
        refine XA.callV (as := [.int x2]) (rest := [.int ((10 * x1) + x2), .ref 158]) (mc' := 0) (ms' := 0) (idx := 201) (t := 1164) cv_X11_isUp (by decide +kernel) rfl rfl rfl (Nat.le_of_ble_eq_true rfl) (Nat.le_of_ble_eq_true rfl) (Nat.le_of_ble_eq_true rfl) (Nat.le_of_ble_eq_true rfl) (pu_X11_isUp scr σ7 x2) (fun rv h' hp => ?_)
        obtain ⟨rfl, rfl⟩ := hp
        refine ⟨rfl, rfl, ?_⟩
        show XA scr 2 mX11_notes 172 4705 134 [some (.ref 136), some (.int x1), some (.int x2), some (.int ((10 * x1) + x2))] [.int (iiV (σ7 136 25) x2), .int ((10 * x1) + x2), .ref 158] (hs σ7) (pV P)
        have hT134 := H
        have hJ134 : XA scr 2 mX11_notes 172 4705 155 [some (.ref 136), some (.int x1), some (.int x2), some (.int ((10 * x1) + x2))] [.int (if (iiV (σ7 136 25) x2) = 0 then (if (liV σ7 x2 x1) = 0 then 1 else 3 : Int32) else 2 : Int32), .int ((10 * x1) + x2), .ref 158] (hs σ7) (pV P) := by
          simpa only [if_pos c2] using hJ122
        refine XA.if_eq (7) 141 (by decide +kernel) (fun c3 => ?_) (fun c3 => ?_)
        · have H := hT134 c3
          refine XA.blk (e9 := 144) (ok := true) (ls' := [some (.ref 136), some (.int x1), some (.int x2), some (.int ((10 * x1) + x2))]) (st' := [.int x1, .int x2, .ref 136, .int ((10 * x1) + x2), .ref 158]) (h' := hs σ7) [(.aload_n 0, 1, 0, 0, 0, 0, 0, 0), (.iload_n 2, 1, 2, 0, 0, 0, 0, 0), (.iload_n 1, 1, 1, 0, 0, 0, 0, 0)] (by decide +kernel) rfl rfl ?_
          have o3 := H
          refine XA.callV (as := [.int x2, .int x1]) (rest := [.int ((10 * x1) + x2), .ref 158]) (mc' := 0) (ms' := 0) (idx := 208) (t := 1179) cv_X11_lies (by decide +kernel) rfl rfl rfl (Nat.le_of_ble_eq_true rfl) (Nat.le_of_ble_eq_true rfl) (Nat.le_of_ble_eq_true rfl) (Nat.le_of_ble_eq_true rfl) (pu_X11_lies scr σ7 x2 x1 o3) (fun rv h' hp => ?_)
          obtain ⟨rfl, rfl⟩ := hp
          refine ⟨rfl, rfl, ?_⟩
          show XA scr 2 mX11_notes 172 4705 147 [some (.ref 136), some (.int x1), some (.int x2), some (.int ((10 * x1) + x2))] [.int (liV σ7 x2 x1), .int ((10 * x1) + x2), .ref 158] (hs σ7) (pV P)
          have hJ147 : XA scr 2 mX11_notes 172 4705 155 [some (.ref 136), some (.int x1), some (.int x2), some (.int ((10 * x1) + x2))] [.int (if (liV σ7 x2 x1) = 0 then 1 else 3 : Int32), .int ((10 * x1) + x2), .ref 158] (hs σ7) (pV P) := by
            simpa only [if_pos c3] using hJ134
          refine XA.if_eq (7) 154 (by decide +kernel) (fun c4 => ?_) (fun c4 => ?_)
          · refine XA.blk (e9 := 155) (ok := true) (ls' := [some (.ref 136), some (.int x1), some (.int x2), some (.int ((10 * x1) + x2))]) (st' := [.int 1, .int ((10 * x1) + x2), .ref 158]) (h' := hs σ7) [(.iconst 1, 1, 0, 0, 0, 0, 1, 0)] (by decide +kernel) rfl rfl ?_
            simpa only [if_pos c4] using hJ147
          · refine XA.blk (e9 := 155) (ok := true) (ls' := [some (.ref 136), some (.int x1), some (.int x2), some (.int ((10 * x1) + x2))]) (st' := [.int 3, .int ((10 * x1) + x2), .ref 158]) (h' := hs σ7) [(.iconst 3, 1, 0, 0, 0, 0, 3, 0), (.goto 4, 3, 155, 0, 0, 0, 0, 0)] (by decide +kernel) rfl rfl ?_
            simpa only [if_neg c4] using hJ147
        · refine XA.blk (e9 := 155) (ok := true) (ls' := [some (.ref 136), some (.int x1), some (.int x2), some (.int ((10 * x1) + x2))]) (st' := [.int 2, .int ((10 * x1) + x2), .ref 158]) (h' := hs σ7) [(.iconst 2, 1, 0, 0, 0, 0, 2, 0), (.goto 17, 3, 155, 0, 0, 0, 0, 0)] (by decide +kernel) rfl rfl ?_
          simpa only [if_neg c3] using hJ134
      · refine XA.blk (e9 := 155) (ok := true) (ls' := [some (.ref 136), some (.int x1), some (.int x2), some (.int ((10 * x1) + x2))]) (st' := [.int 0, .int ((10 * x1) + x2), .ref 158]) (h' := hs σ7) [(.iconst 0, 1, 0, 0, 0, 0, 0, 0), (.goto 29, 3, 155, 0, 0, 0, 0, 0)] (by decide +kernel) rfl rfl ?_
        simpa only [if_neg c2] using hJ122
    refine XA.if_eq (7) 107 (by decide +kernel) (fun c2 => ?_) (fun c2 => ?_)
    · refine XA.blk (e9 := 108) (ok := true) (ls' := [some (.ref 136), some (.int x1), some (.int x2), some (.int ((10 * x1) + x2))]) (st' := [.int 0, .int (σ 155 (Int32.toNatClampNeg x1)), .int x1, .ref 155]) (h' := hs σ) [(.iconst 0, 1, 0, 0, 0, 0, 0, 0)] (by decide +kernel) rfl rfl ?_
      simpa only [if_pos c2] using hJ100
    · refine XA.blk (e9 := 108) (ok := true) (ls' := [some (.ref 136), some (.int x1), some (.int x2), some (.int ((10 * x1) + x2))]) (st' := [.int 1, .int (σ 155 (Int32.toNatClampNeg x1)), .int x1, .ref 155]) (h' := hs σ) [(.iconst 1, 1, 0, 0, 0, 0, 1, 0), (.goto 4, 3, 108, 0, 0, 0, 0, 0)] (by decide +kernel) rfl rfl ?_
      simpa only [if_neg c2] using hJ100
theorem E_X11_notes {scr : ScA}  {x1 : Int32} {σ : Nat → Nat → Int32} {P : (Nat → Nat → Int32) → Prop} (h : K_X11_notes_0 scr x1 σ P) : CvA scr 2 mX11_notes [.ref 136, .int x1] σ P := CtA.of (by decide) (Nat.le_of_ble_eq_true rfl) (XA.drop (by simp [leL, enL]) h)
def K_X11_runs_0 (scr : ScA)   (σ : Nat → Nat → Int32) (P : (Nat → Nat → Int32) → Prop) : Prop := XA scr 3 mX11_runs 172 4705 0 [some (.ref 136), none] [] (hs σ) (pV P)
def K_X11_runs_47 (scr : ScA)  (x1 : Int32) (σ : Nat → Nat → Int32) (P : (Nat → Nat → Int32) → Prop) : Prop := XA scr 3 mX11_runs 172 4705 47 [some (.ref 136), some (.int x1)] [] (hs σ) (pV P)
def K_X11_runs_96 (scr : ScA)  (x1 : Int32) (σ : Nat → Nat → Int32) (P : (Nat → Nat → Int32) → Prop) : Prop := XA scr 3 mX11_runs 172 4705 96 [some (.ref 136), some (.int x1)] [] (hs σ) (pV P)
def K_X11_runs_107 (scr : ScA)  (x1 : Int32) (σ : Nat → Nat → Int32) (P : (Nat → Nat → Int32) → Prop) : Prop := XA scr 3 mX11_runs 172 4705 107 [some (.ref 136), some (.int x1)] [] (hs σ) (pV P)
def K_X11_runs_112 (scr : ScA)  (x1 : Int32) (σ : Nat → Nat → Int32) (P : (Nat → Nat → Int32) → Prop) : Prop := XA scr 3 mX11_runs 172 4705 112 [some (.ref 136), some (.int x1)] [] (hs σ) (pV P)
def K_X11_runs_116 (scr : ScA)  (x1 : Int32) (σ : Nat → Nat → Int32) (P : (Nat → Nat → Int32) → Prop) : Prop := XA scr 3 mX11_runs 172 4705 116 [some (.ref 136), some (.int x1)] [] (hs σ) (pV P)
def K_X11_runs_121 (scr : ScA)  (x1 : Int32) (σ : Nat → Nat → Int32) (P : (Nat → Nat → Int32) → Prop) : Prop := XA scr 3 mX11_runs 172 4705 121 [some (.ref 136), some (.int x1)] [] (hs σ) (pV P)
def K_X11_runs_126 (scr : ScA)  (x1 : Int32) (σ : Nat → Nat → Int32) (P : (Nat → Nat → Int32) → Prop) : Prop := XA scr 3 mX11_runs 172 4705 126 [some (.ref 136), some (.int x1)] [] (hs σ) (pV P)
set_option maxRecDepth 20000 in
theorem W_X11_runs_0 {scr : ScA}     {σ : Nat → Nat → Int32} {P : (Nat → Nat → Int32) → Prop} (H : ∀ σ1, σ1 = (su σ 136 17 0) → ∀ σ2, σ2 = (su σ1 136 18 0) → ∀ σ3, σ3 = (su σ2 136 19 (-1)) → ∀ σ4, σ4 = (su σ3 136 20 (-1)) → ∀ σ5, σ5 = (su σ4 136 21 0) → ∀ σ6, σ6 = (su σ5 136 22 (-1)) → ∀ σ7, σ7 = (su σ6 136 23 0) → ∀ σ8, σ8 = (su σ7 136 24 0) → ∀ σ9, σ9 = (su σ8 136 25 0) → K_X11_runs_47 scr 0 σ9 P) : K_X11_runs_0 scr σ P := by
  show XA scr 3 mX11_runs 172 4705 0 [some (.ref 136), none] [] (hs σ) (pV P)
  refine XA.blk (e9 := 5) (ok := true) (ls' := [some (.ref 136), none]) (st' := []) (h' := hs (su σ 136 17 0)) [(.aload_n 0, 1, 0, 0, 0, 0, 0, 0), (.iconst 0, 1, 0, 0, 0, 0, 0, 0), (.putfield 214, 3, 11, 17, 0, 910, 0, 0)] (by decide +kernel) rfl rfl ?_
  obtain ⟨σ1, hσ1⟩ : ∃ s9, s9 = (su σ 136 17 0) := ⟨_, rfl⟩
  rw [← hσ1]
  have H := H σ1 hσ1
  refine XA.blk (e9 := 10) (ok := true) (ls' := [some (.ref 136), none]) (st' := []) (h' := hs (su σ1 136 18 0)) [(.aload_n 0, 1, 0, 0, 0, 0, 0, 0), (.iconst 0, 1, 0, 0, 0, 0, 0, 0), (.putfield 192, 3, 11, 18, 0, 911, 0, 0)] (by decide +kernel) rfl rfl ?_
  obtain ⟨σ2, hσ2⟩ : ∃ s9, s9 = (su σ1 136 18 0) := ⟨_, rfl⟩
  rw [← hσ2]
  have H := H σ2 hσ2
  refine XA.blk (e9 := 15) (ok := true) (ls' := [some (.ref 136), none]) (st' := []) (h' := hs (su σ2 136 19 (-1))) [(.aload_n 0, 1, 0, 0, 0, 0, 0, 0), (.iconst (-1), 1, 0, 0, 0, 0, (-1), 0), (.putfield 195, 3, 11, 19, 0, 912, 0, 0)] (by decide +kernel) rfl rfl ?_
  obtain ⟨σ3, hσ3⟩ : ∃ s9, s9 = (su σ2 136 19 (-1)) := ⟨_, rfl⟩
  rw [← hσ3]
  have H := H σ3 hσ3
  refine XA.blk (e9 := 20) (ok := true) (ls' := [some (.ref 136), none]) (st' := []) (h' := hs (su σ3 136 20 (-1))) [(.aload_n 0, 1, 0, 0, 0, 0, 0, 0), (.iconst (-1), 1, 0, 0, 0, 0, (-1), 0), (.putfield 217, 3, 11, 20, 0, 913, 0, 0)] (by decide +kernel) rfl rfl ?_
  obtain ⟨σ4, hσ4⟩ : ∃ s9, s9 = (su σ3 136 20 (-1)) := ⟨_, rfl⟩
  rw [← hσ4]
  have H := H σ4 hσ4
  refine XA.blk (e9 := 25) (ok := true) (ls' := [some (.ref 136), none]) (st' := []) (h' := hs (su σ4 136 21 0)) [(.aload_n 0, 1, 0, 0, 0, 0, 0, 0), (.iconst 0, 1, 0, 0, 0, 0, 0, 0), (.putfield 220, 3, 11, 21, 0, 914, 0, 0)] (by decide +kernel) rfl rfl ?_
  obtain ⟨σ5, hσ5⟩ : ∃ s9, s9 = (su σ4 136 21 0) := ⟨_, rfl⟩
  rw [← hσ5]
  have H := H σ5 hσ5
  refine XA.blk (e9 := 30) (ok := true) (ls' := [some (.ref 136), none]) (st' := []) (h' := hs (su σ5 136 22 (-1))) [(.aload_n 0, 1, 0, 0, 0, 0, 0, 0), (.iconst (-1), 1, 0, 0, 0, 0, (-1), 0), (.putfield 223, 3, 11, 22, 0, 915, 0, 0)] (by decide +kernel) rfl rfl ?_
  obtain ⟨σ6, hσ6⟩ : ∃ s9, s9 = (su σ5 136 22 (-1)) := ⟨_, rfl⟩
  rw [← hσ6]
  have H := H σ6 hσ6
  refine XA.blk (e9 := 35) (ok := true) (ls' := [some (.ref 136), none]) (st' := []) (h' := hs (su σ6 136 23 0)) [(.aload_n 0, 1, 0, 0, 0, 0, 0, 0), (.iconst 0, 1, 0, 0, 0, 0, 0, 0), (.putfield 226, 3, 11, 23, 0, 916, 0, 0)] (by decide +kernel) rfl rfl ?_
  obtain ⟨σ7, hσ7⟩ : ∃ s9, s9 = (su σ6 136 23 0) := ⟨_, rfl⟩
  rw [← hσ7]
  have H := H σ7 hσ7
  refine XA.blk (e9 := 40) (ok := true) (ls' := [some (.ref 136), none]) (st' := []) (h' := hs (su σ7 136 24 0)) [(.aload_n 0, 1, 0, 0, 0, 0, 0, 0), (.iconst 0, 1, 0, 0, 0, 0, 0, 0), (.putfield 211, 3, 11, 24, 0, 917, 0, 0)] (by decide +kernel) rfl rfl ?_
  obtain ⟨σ8, hσ8⟩ : ∃ s9, s9 = (su σ7 136 24 0) := ⟨_, rfl⟩
  rw [← hσ8]
  have H := H σ8 hσ8
  refine XA.blk (e9 := 45) (ok := true) (ls' := [some (.ref 136), none]) (st' := []) (h' := hs (su σ8 136 25 0)) [(.aload_n 0, 1, 0, 0, 0, 0, 0, 0), (.iconst 0, 1, 0, 0, 0, 0, 0, 0), (.putfield 183, 3, 11, 25, 0, 918, 0, 0)] (by decide +kernel) rfl rfl ?_
  obtain ⟨σ9, hσ9⟩ : ∃ s9, s9 = (su σ8 136 25 0) := ⟨_, rfl⟩
  rw [← hσ9]
  have H := H σ9 hσ9
  refine XA.blk (e9 := 47) (ok := true) (ls' := [some (.ref 136), some (.int 0)]) (st' := []) (h' := hs σ9) [(.iconst 0, 1, 0, 0, 0, 0, 0, 0), (.istore_n 1, 1, 1, 0, 0, 0, 0, 0)] (by decide +kernel) rfl rfl ?_
  exact H
set_option maxRecDepth 20000 in
theorem W_X11_runs_47 {scr : ScA}   {x1 : Int32}  {σ : Nat → Nat → Int32} {P : (Nat → Nat → Int32) → Prop} (H : (10 ≤ x1 → K_X11_runs_96 scr 0 σ P) ∧ (¬ 10 ≤ x1 → (inB x1 10 = true) ∧ (∀ σ1, σ1 = (su σ 149 (Int32.toNatClampNeg x1) (-1)) → ∀ σ2, σ2 = (su σ1 150 (Int32.toNatClampNeg x1) 0) → ∀ σ3, σ3 = (su σ2 152 (Int32.toNatClampNeg x1) 0) → ∀ σ4, σ4 = (su σ3 153 (Int32.toNatClampNeg x1) (-1)) → ∀ σ5, σ5 = (su σ4 154 (Int32.toNatClampNeg x1) 0) → K_X11_runs_47 scr (x1 + 1) σ5 P))) : K_X11_runs_47 scr x1 σ P := by
  show XA scr 3 mX11_runs 172 4705 47 [some (.ref 136), some (.int x1)] [] (hs σ) (pV P)
  refine XA.blk (e9 := 50) (ok := true) (ls' := [some (.ref 136), some (.int x1)]) (st' := [.int 10, .int x1]) (h' := hs σ) [(.iload_n 1, 1, 1, 0, 0, 0, 0, 0), (.bipush 10, 2, 0, 0, 0, 0, 10, 0)] (by decide +kernel) rfl rfl ?_
  refine XA.icmp_ge (44) 94 (by decide +kernel) (fun c1 => ?_) (fun c1 => ?_)
  · have H := H.1 c1
    refine XA.blk (e9 := 96) (ok := true) (ls' := [some (.ref 136), some (.int 0)]) (st' := []) (h' := hs σ) [(.iconst 0, 1, 0, 0, 0, 0, 0, 0), (.istore_n 1, 1, 1, 0, 0, 0, 0, 0)] (by decide +kernel) rfl rfl ?_
    exact H
  · have H := H.2 c1
    obtain ⟨o1, H⟩ := H
    refine XA.blk (e9 := 60) (ok := inB x1 10 && (true)) (ls' := [some (.ref 136), some (.int x1)]) (st' := []) (h' := hs (su σ 149 (Int32.toNatClampNeg x1) (-1))) [(.aload_n 0, 1, 0, 0, 0, 0, 0, 0), (.getfield 46, 3, 11, 27, 14, 920, 0, 0), (.iload_n 1, 1, 1, 0, 0, 0, 0, 0), (.iconst (-1), 1, 0, 0, 0, 0, (-1), 0), (.iastore, 1, 0, 0, 0, 0, 0, 0)] (by decide +kernel) rfl (by simp only [o1, Bool.and_true, Bool.true_and]) ?_
    obtain ⟨σ1, hσ1⟩ : ∃ s9, s9 = (su σ 149 (Int32.toNatClampNeg x1) (-1)) := ⟨_, rfl⟩
    rw [← hσ1]
    have H := H σ1 hσ1
    refine XA.blk (e9 := 67) (ok := inB x1 10 && (true)) (ls' := [some (.ref 136), some (.int x1)]) (st' := []) (h' := hs (su σ1 150 (Int32.toNatClampNeg x1) 0)) [(.aload_n 0, 1, 0, 0, 0, 0, 0, 0), (.getfield 49, 3, 11, 28, 15, 921, 0, 0), (.iload_n 1, 1, 1, 0, 0, 0, 0, 0), (.iconst 0, 1, 0, 0, 0, 0, 0, 0), (.iastore, 1, 0, 0, 0, 0, 0, 0)] (by decide +kernel) rfl (by simp only [o1, Bool.and_true, Bool.true_and]) ?_
    obtain ⟨σ2, hσ2⟩ : ∃ s9, s9 = (su σ1 150 (Int32.toNatClampNeg x1) 0) := ⟨_, rfl⟩
    rw [← hσ2]
    have H := H σ2 hσ2
    refine XA.blk (e9 := 74) (ok := inB x1 10 && (true)) (ls' := [some (.ref 136), some (.int x1)]) (st' := []) (h' := hs (su σ2 152 (Int32.toNatClampNeg x1) 0)) [(.aload_n 0, 1, 0, 0, 0, 0, 0, 0), (.getfield 55, 3, 11, 30, 17, 923, 0, 0), (.iload_n 1, 1, 1, 0, 0, 0, 0, 0), (.iconst 0, 1, 0, 0, 0, 0, 0, 0), (.iastore, 1, 0, 0, 0, 0, 0, 0)] (by decide +kernel) rfl (by simp only [o1, Bool.and_true, Bool.true_and]) ?_
    obtain ⟨σ3, hσ3⟩ : ∃ s9, s9 = (su σ2 152 (Int32.toNatClampNeg x1) 0) := ⟨_, rfl⟩
    rw [← hσ3]
    have H := H σ3 hσ3
    refine XA.blk (e9 := 81) (ok := inB x1 10 && (true)) (ls' := [some (.ref 136), some (.int x1)]) (st' := []) (h' := hs (su σ3 153 (Int32.toNatClampNeg x1) (-1))) [(.aload_n 0, 1, 0, 0, 0, 0, 0, 0), (.getfield 58, 3, 11, 31, 18, 924, 0, 0), (.iload_n 1, 1, 1, 0, 0, 0, 0, 0), (.iconst (-1), 1, 0, 0, 0, 0, (-1), 0), (.iastore, 1, 0, 0, 0, 0, 0, 0)] (by decide +kernel) rfl (by simp only [o1, Bool.and_true, Bool.true_and]) ?_
    obtain ⟨σ4, hσ4⟩ : ∃ s9, s9 = (su σ3 153 (Int32.toNatClampNeg x1) (-1)) := ⟨_, rfl⟩
    rw [← hσ4]
    have H := H σ4 hσ4
    refine XA.blk (e9 := 88) (ok := inB x1 10 && (true)) (ls' := [some (.ref 136), some (.int x1)]) (st' := []) (h' := hs (su σ4 154 (Int32.toNatClampNeg x1) 0)) [(.aload_n 0, 1, 0, 0, 0, 0, 0, 0), (.getfield 61, 3, 11, 32, 19, 925, 0, 0), (.iload_n 1, 1, 1, 0, 0, 0, 0, 0), (.iconst 0, 1, 0, 0, 0, 0, 0, 0), (.iastore, 1, 0, 0, 0, 0, 0, 0)] (by decide +kernel) rfl (by simp only [o1, Bool.and_true, Bool.true_and]) ?_
    obtain ⟨σ5, hσ5⟩ : ∃ s9, s9 = (su σ4 154 (Int32.toNatClampNeg x1) 0) := ⟨_, rfl⟩
    rw [← hσ5]
    have H := H σ5 hσ5
    refine XA.blk (e9 := 47) (ok := true) (ls' := [some (.ref 136), some (.int (x1 + 1))]) (st' := []) (h' := hs σ5) [(.iinc 1 1, 3, 1, 0, 0, 0, 1, 0), (.goto (-44), 3, 47, 0, 0, 0, 0, 0)] (by decide +kernel) rfl rfl ?_
    exact H
set_option maxRecDepth 20000 in
theorem W_X11_runs_96 {scr : ScA}   {x1 : Int32}  {σ : Nat → Nat → Int32} {P : (Nat → Nat → Int32) → Prop} (H : (24 ≤ x1 → P σ) ∧ (¬ 24 ≤ x1 → CvA scr 2 mX11_befalls [.ref 136, .int x1] σ (fun σ' => K_X11_runs_107 scr x1 σ' P))) : K_X11_runs_96 scr x1 σ P := by
  show XA scr 3 mX11_runs 172 4705 96 [some (.ref 136), some (.int x1)] [] (hs σ) (pV P)
  refine XA.blk (e9 := 99) (ok := true) (ls' := [some (.ref 136), some (.int x1)]) (st' := [.int 24, .int x1]) (h' := hs σ) [(.iload_n 1, 1, 1, 0, 0, 0, 0, 0), (.bipush 24, 2, 0, 0, 0, 0, 24, 0)] (by decide +kernel) rfl rfl ?_
  refine XA.icmp_ge (33) 132 (by decide +kernel) (fun c1 => ?_) (fun c1 => ?_)
  · have H := H.1 c1
    exact XA.ret none rfl (show ckRt mX11_runs 132 .return_ = true by decide +kernel) trivial (Nat.le_of_ble_eq_true rfl) (Nat.le_of_ble_eq_true rfl) ⟨_, rfl, rfl, H⟩
  · have H := H.2 c1
    refine XA.blk (e9 := 104) (ok := true) (ls' := [some (.ref 136), some (.int x1)]) (st' := [.int x1, .ref 136]) (h' := hs σ) [(.aload_n 0, 1, 0, 0, 0, 0, 0, 0), (.iload_n 1, 1, 1, 0, 0, 0, 0, 0)] (by decide +kernel) rfl rfl ?_
    refine XA.callV (as := [.int x1]) (rest := []) (mc' := 0) (ms' := 0) (idx := 229) (t := 1157) cv_X11_befalls (by decide +kernel) rfl rfl rfl (Nat.le_of_ble_eq_true rfl) (Nat.le_of_ble_eq_true rfl) (Nat.le_of_ble_eq_true rfl) (Nat.le_of_ble_eq_true rfl) (H) (fun rv h' hp => ?_)
    obtain ⟨s9, rfl, rfl, hK⟩ := hp
    exact ⟨rfl, rfl, hK⟩
set_option maxRecDepth 20000 in
theorem W_X11_runs_107 {scr : ScA}   {x1 : Int32}  {σ : Nat → Nat → Int32} {P : (Nat → Nat → Int32) → Prop} (H : CvA scr 2 mX11_climbs [.ref 136, .int x1] σ (fun σ' => K_X11_runs_112 scr x1 σ' P)) : K_X11_runs_107 scr x1 σ P := by
  show XA scr 3 mX11_runs 172 4705 107 [some (.ref 136), some (.int x1)] [] (hs σ) (pV P)
  refine XA.blk (e9 := 109) (ok := true) (ls' := [some (.ref 136), some (.int x1)]) (st' := [.int x1, .ref 136]) (h' := hs σ) [(.aload_n 0, 1, 0, 0, 0, 0, 0, 0), (.iload_n 1, 1, 1, 0, 0, 0, 0, 0)] (by decide +kernel) rfl rfl ?_
  refine XA.callV (as := [.int x1]) (rest := []) (mc' := 0) (ms' := 0) (idx := 232) (t := 1175) cv_X11_climbs (by decide +kernel) rfl rfl rfl (Nat.le_of_ble_eq_true rfl) (Nat.le_of_ble_eq_true rfl) (Nat.le_of_ble_eq_true rfl) (Nat.le_of_ble_eq_true rfl) (H) (fun rv h' hp => ?_)
  obtain ⟨s9, rfl, rfl, hK⟩ := hp
  exact ⟨rfl, rfl, hK⟩
set_option maxRecDepth 20000 in
theorem W_X11_runs_112 {scr : ScA}   {x1 : Int32}  {σ : Nat → Nat → Int32} {P : (Nat → Nat → Int32) → Prop} (H : CvA scr 2 mX11_bears [.ref 136] σ (fun σ' => K_X11_runs_116 scr x1 σ' P)) : K_X11_runs_112 scr x1 σ P := by
  show XA scr 3 mX11_runs 172 4705 112 [some (.ref 136), some (.int x1)] [] (hs σ) (pV P)
  refine XA.blk (e9 := 113) (ok := true) (ls' := [some (.ref 136), some (.int x1)]) (st' := [.ref 136]) (h' := hs σ) [(.aload_n 0, 1, 0, 0, 0, 0, 0, 0)] (by decide +kernel) rfl rfl ?_
  refine XA.callV (as := []) (rest := []) (mc' := 0) (ms' := 0) (idx := 235) (t := 1183) cv_X11_bears (by decide +kernel) rfl rfl rfl (Nat.le_of_ble_eq_true rfl) (Nat.le_of_ble_eq_true rfl) (Nat.le_of_ble_eq_true rfl) (Nat.le_of_ble_eq_true rfl) (H) (fun rv h' hp => ?_)
  obtain ⟨s9, rfl, rfl, hK⟩ := hp
  exact ⟨rfl, rfl, hK⟩
set_option maxRecDepth 20000 in
theorem W_X11_runs_116 {scr : ScA}   {x1 : Int32}  {σ : Nat → Nat → Int32} {P : (Nat → Nat → Int32) → Prop} (H : CvA scr 1 mX11_allFall [.ref 136, .int x1] σ (fun σ' => K_X11_runs_121 scr x1 σ' P)) : K_X11_runs_116 scr x1 σ P := by
  show XA scr 3 mX11_runs 172 4705 116 [some (.ref 136), some (.int x1)] [] (hs σ) (pV P)
  refine XA.blk (e9 := 118) (ok := true) (ls' := [some (.ref 136), some (.int x1)]) (st' := [.int x1, .ref 136]) (h' := hs σ) [(.aload_n 0, 1, 0, 0, 0, 0, 0, 0), (.iload_n 1, 1, 1, 0, 0, 0, 0, 0)] (by decide +kernel) rfl rfl ?_
  refine XA.callV (as := [.int x1]) (rest := []) (mc' := 0) (ms' := 0) (idx := 204) (t := 1168) cv_X11_allFall (by decide +kernel) rfl rfl rfl (Nat.le_of_ble_eq_true rfl) (Nat.le_of_ble_eq_true rfl) (Nat.le_of_ble_eq_true rfl) (Nat.le_of_ble_eq_true rfl) (H) (fun rv h' hp => ?_)
  obtain ⟨s9, rfl, rfl, hK⟩ := hp
  exact ⟨rfl, rfl, hK⟩
set_option maxRecDepth 20000 in
theorem W_X11_runs_121 {scr : ScA}   {x1 : Int32}  {σ : Nat → Nat → Int32} {P : (Nat → Nat → Int32) → Prop} (H : CvA scr 2 mX11_notes [.ref 136, .int x1] σ (fun σ' => K_X11_runs_126 scr x1 σ' P)) : K_X11_runs_121 scr x1 σ P := by
  show XA scr 3 mX11_runs 172 4705 121 [some (.ref 136), some (.int x1)] [] (hs σ) (pV P)
  refine XA.blk (e9 := 123) (ok := true) (ls' := [some (.ref 136), some (.int x1)]) (st' := [.int x1, .ref 136]) (h' := hs σ) [(.aload_n 0, 1, 0, 0, 0, 0, 0, 0), (.iload_n 1, 1, 1, 0, 0, 0, 0, 0)] (by decide +kernel) rfl rfl ?_
  refine XA.callV (as := [.int x1]) (rest := []) (mc' := 0) (ms' := 0) (idx := 238) (t := 1187) cv_X11_notes (by decide +kernel) rfl rfl rfl (Nat.le_of_ble_eq_true rfl) (Nat.le_of_ble_eq_true rfl) (Nat.le_of_ble_eq_true rfl) (Nat.le_of_ble_eq_true rfl) (H) (fun rv h' hp => ?_)
  obtain ⟨s9, rfl, rfl, hK⟩ := hp
  exact ⟨rfl, rfl, hK⟩
set_option maxRecDepth 20000 in
theorem W_X11_runs_126 {scr : ScA}   {x1 : Int32}  {σ : Nat → Nat → Int32} {P : (Nat → Nat → Int32) → Prop} (H : K_X11_runs_96 scr (x1 + 1) σ P) : K_X11_runs_126 scr x1 σ P := by
  show XA scr 3 mX11_runs 172 4705 126 [some (.ref 136), some (.int x1)] [] (hs σ) (pV P)
  refine XA.blk (e9 := 96) (ok := true) (ls' := [some (.ref 136), some (.int (x1 + 1))]) (st' := []) (h' := hs σ) [(.iinc 1 1, 3, 1, 0, 0, 0, 1, 0), (.goto (-33), 3, 96, 0, 0, 0, 0, 0)] (by decide +kernel) rfl rfl ?_
  exact H
theorem E_X11_runs {scr : ScA}   {σ : Nat → Nat → Int32} {P : (Nat → Nat → Int32) → Prop} (h : K_X11_runs_0 scr σ P) : CvA scr 3 mX11_runs [.ref 136] σ P := CtA.of (by decide) (Nat.le_of_ble_eq_true rfl) (XA.drop (by simp [leL, enL]) h)
def K_X11_runsTold_0 (scr : ScA)   (σ : Nat → Nat → Int32) (P : (Nat → Nat → Int32) → Prop) : Prop := XA scr 6 mX11_runsTold 172 4705 0 [some (.ref 136)] [] (hs σ) (pV P)
def K_X11_runsTold_4 (scr : ScA)   (σ : Nat → Nat → Int32) (P : (Nat → Nat → Int32) → Prop) : Prop := XA scr 6 mX11_runsTold 172 4705 4 [some (.ref 136)] [] (hs σ) (pV P)
def K_X11_runsTold_8 (scr : ScA)   (σ : Nat → Nat → Int32) (P : (Nat → Nat → Int32) → Prop) : Prop := XA scr 6 mX11_runsTold 172 4705 8 [none] [] (hs σ) (pV P)
set_option maxRecDepth 20000 in
theorem W_X11_runsTold_0 {scr : ScA}     {σ : Nat → Nat → Int32} {P : (Nat → Nat → Int32) → Prop} (H : CvA scr 5 mX11_asTold [.ref 136] σ (fun σ' => K_X11_runsTold_4 scr σ' P)) : K_X11_runsTold_0 scr σ P := by
  show XA scr 6 mX11_runsTold 172 4705 0 [some (.ref 136)] [] (hs σ) (pV P)
  refine XA.blk (e9 := 1) (ok := true) (ls' := [some (.ref 136)]) (st' := [.ref 136]) (h' := hs σ) [(.aload_n 0, 1, 0, 0, 0, 0, 0, 0)] (by decide +kernel) rfl rfl ?_
  refine XA.callV (as := []) (rest := []) (mc' := 0) (ms' := 0) (idx := 241) (t := 1149) cv_X11_asTold (by decide +kernel) rfl rfl rfl (Nat.le_of_ble_eq_true rfl) (Nat.le_of_ble_eq_true rfl) (Nat.le_of_ble_eq_true rfl) (Nat.le_of_ble_eq_true rfl) (H) (fun rv h' hp => ?_)
  obtain ⟨s9, rfl, rfl, hK⟩ := hp
  exact ⟨rfl, rfl, hK⟩
set_option maxRecDepth 20000 in
theorem W_X11_runsTold_4 {scr : ScA}     {σ : Nat → Nat → Int32} {P : (Nat → Nat → Int32) → Prop} (H : CvA scr 3 mX11_runs [.ref 136] σ (fun σ' => K_X11_runsTold_8 scr σ' P)) : K_X11_runsTold_4 scr σ P := by
  show XA scr 6 mX11_runsTold 172 4705 4 [some (.ref 136)] [] (hs σ) (pV P)
  refine XA.blk (e9 := 5) (ok := true) (ls' := [some (.ref 136)]) (st' := [.ref 136]) (h' := hs σ) [(.aload_n 0, 1, 0, 0, 0, 0, 0, 0)] (by decide +kernel) rfl rfl ?_
  refine XA.callV (as := []) (rest := []) (mc' := 0) (ms' := 0) (idx := 244) (t := 1153) cv_X11_runs (by decide +kernel) rfl rfl rfl (Nat.le_of_ble_eq_true rfl) (Nat.le_of_ble_eq_true rfl) (Nat.le_of_ble_eq_true rfl) (Nat.le_of_ble_eq_true rfl) (H) (fun rv h' hp => ?_)
  obtain ⟨s9, rfl, rfl, hK⟩ := hp
  exact ⟨rfl, rfl, XA.drop (by simp [leL]) hK⟩
set_option maxRecDepth 20000 in
theorem W_X11_runsTold_8 {scr : ScA}     {σ : Nat → Nat → Int32} {P : (Nat → Nat → Int32) → Prop} (H : P σ) : K_X11_runsTold_8 scr σ P := by
  show XA scr 6 mX11_runsTold 172 4705 8 [none] [] (hs σ) (pV P)
  exact XA.ret none rfl (show ckRt mX11_runsTold 8 .return_ = true by decide +kernel) trivial (Nat.le_of_ble_eq_true rfl) (Nat.le_of_ble_eq_true rfl) ⟨_, rfl, rfl, H⟩
theorem E_X11_runsTold {scr : ScA}   {σ : Nat → Nat → Int32} {P : (Nat → Nat → Int32) → Prop} (h : K_X11_runsTold_0 scr σ P) : CvA scr 6 mX11_runsTold [.ref 136] σ P := CtA.of (by decide) (Nat.le_of_ble_eq_true rfl) (XA.drop (by simp [leL, enL]) h)
def K_X11_atOf_0 (scr : ScA)  (x1 : Int32) (x2 : Int32) (x3 : Int32) (σ : Nat → Nat → Int32) (P : Int32 → (Nat → Nat → Int32) → Prop) : Prop := XA scr 7 mX11_atOf 172 4705 0 [some (.ref 136), some (.int x1), some (.int x2), some (.int x3), none] [] (hs σ) (pI P)
def K_X11_atOf_4 (scr : ScA)  (x1 : Int32) (x2 : Int32) (x3 : Int32) (σ : Nat → Nat → Int32) (P : Int32 → (Nat → Nat → Int32) → Prop) : Prop := XA scr 7 mX11_atOf 172 4705 4 [some (.ref 136), some (.int x1), some (.int x2), some (.int x3), none] [] (hs σ) (pI P)
set_option maxRecDepth 20000 in
theorem W_X11_atOf_0 {scr : ScA}   {x1 : Int32} {x2 : Int32} {x3 : Int32}  {σ : Nat → Nat → Int32} {P : Int32 → (Nat → Nat → Int32) → Prop} (H : CvA scr 6 mX11_runsTold [.ref 136] σ (fun σ' => K_X11_atOf_4 scr x1 x2 x3 σ' P)) : K_X11_atOf_0 scr x1 x2 x3 σ P := by
  show XA scr 7 mX11_atOf 172 4705 0 [some (.ref 136), some (.int x1), some (.int x2), some (.int x3), none] [] (hs σ) (pI P)
  refine XA.blk (e9 := 1) (ok := true) (ls' := [some (.ref 136), some (.int x1), some (.int x2), some (.int x3), none]) (st' := [.ref 136]) (h' := hs σ) [(.aload_n 0, 1, 0, 0, 0, 0, 0, 0)] (by decide +kernel) rfl rfl ?_
  refine XA.callV (as := []) (rest := []) (mc' := 0) (ms' := 0) (idx := 247) (t := 1145) cv_X11_runsTold (by decide +kernel) rfl rfl rfl (Nat.le_of_ble_eq_true rfl) (Nat.le_of_ble_eq_true rfl) (Nat.le_of_ble_eq_true rfl) (Nat.le_of_ble_eq_true rfl) (H) (fun rv h' hp => ?_)
  obtain ⟨s9, rfl, rfl, hK⟩ := hp
  exact ⟨rfl, rfl, hK⟩
set_option maxRecDepth 20000 in
theorem W_X11_atOf_4 {scr : ScA}   {x1 : Int32} {x2 : Int32} {x3 : Int32}  {σ : Nat → Nat → Int32} {P : Int32 → (Nat → Nat → Int32) → Prop} (H : (¬ x3 = 0 → (¬ x3 = 1 → (¬ x3 = 2 → (inB ((10 * x1) + x2) 240 = true)) ∧ (x3 = 2 → (inB ((10 * x1) + x2) 240 = true))) ∧ (x3 = 1 → (inB ((10 * x1) + x2) 240 = true))) ∧ (x3 = 0 → (inB ((10 * x1) + x2) 240 = true)) ∧ (P (if ¬ x3 = 0 then (if ¬ x3 = 1 then (if ¬ x3 = 2 then σ 161 (Int32.toNatClampNeg ((10 * x1) + x2)) else σ 160 (Int32.toNatClampNeg ((10 * x1) + x2)) : Int32) else σ 159 (Int32.toNatClampNeg ((10 * x1) + x2)) : Int32) else σ 158 (Int32.toNatClampNeg ((10 * x1) + x2)) : Int32) σ)) : K_X11_atOf_4 scr x1 x2 x3 σ P := by
  show XA scr 7 mX11_atOf 172 4705 4 [some (.ref 136), some (.int x1), some (.int x2), some (.int x3), none] [] (hs σ) (pI P)
  refine XA.blk (e9 := 13) (ok := true) (ls' := [some (.ref 136), some (.int x1), some (.int x2), some (.int x3), some (.int ((10 * x1) + x2))]) (st' := [.int x3]) (h' := hs σ) [(.bipush 10, 2, 0, 0, 0, 0, 10, 0), (.iload_n 1, 1, 1, 0, 0, 0, 0, 0), (.imul, 1, 0, 0, 0, 0, 0, 0), (.iload_n 2, 1, 2, 0, 0, 0, 0, 0), (.iadd, 1, 0, 0, 0, 0, 0, 0), (.istore 4, 2, 4, 0, 0, 0, 0, 0), (.iload_n 3, 1, 3, 0, 0, 0, 0, 0)] (by decide +kernel) rfl rfl ?_
  obtain ⟨hT13, hF13, H⟩ := H
  have hJ13 : XA scr 7 mX11_atOf 172 4705 63 [none, none, none, none, none] [.int (if ¬ x3 = 0 then (if ¬ x3 = 1 then (if ¬ x3 = 2 then σ 161 (Int32.toNatClampNeg ((10 * x1) + x2)) else σ 160 (Int32.toNatClampNeg ((10 * x1) + x2)) : Int32) else σ 159 (Int32.toNatClampNeg ((10 * x1) + x2)) : Int32) else σ 158 (Int32.toNatClampNeg ((10 * x1) + x2)) : Int32)] (hs σ) (pI P) := by
    exact XA.ret (some (.int (if ¬ x3 = 0 then (if ¬ x3 = 1 then (if ¬ x3 = 2 then σ 161 (Int32.toNatClampNeg ((10 * x1) + x2)) else σ 160 (Int32.toNatClampNeg ((10 * x1) + x2)) : Int32) else σ 159 (Int32.toNatClampNeg ((10 * x1) + x2)) : Int32) else σ 158 (Int32.toNatClampNeg ((10 * x1) + x2)) : Int32))) rfl (show ckRt mX11_atOf 63 .ireturn = true by decide +kernel) trivial (Nat.le_of_ble_eq_true rfl) (Nat.le_of_ble_eq_true rfl) ⟨_, _, rfl, rfl, H⟩
  refine XA.if_ne (13) 26 (by decide +kernel) (fun c1 => ?_) (fun c1 => ?_)
  · have H := hT13 c1
    refine XA.blk (e9 := 28) (ok := true) (ls' := [some (.ref 136), some (.int x1), some (.int x2), some (.int x3), some (.int ((10 * x1) + x2))]) (st' := [.int 1, .int x3]) (h' := hs σ) [(.iload_n 3, 1, 3, 0, 0, 0, 0, 0), (.iconst 1, 1, 0, 0, 0, 0, 1, 0)] (by decide +kernel) rfl rfl ?_
    obtain ⟨hT28, hF28⟩ := H
    have hJ28 : XA scr 7 mX11_atOf 172 4705 63 [none, none, none, none, none] [.int (if ¬ x3 = 1 then (if ¬ x3 = 2 then σ 161 (Int32.toNatClampNeg ((10 * x1) + x2)) else σ 160 (Int32.toNatClampNeg ((10 * x1) + x2)) : Int32) else σ 159 (Int32.toNatClampNeg ((10 * x1) + x2)) : Int32)] (hs σ) (pI P) := by
      simpa only [if_pos c1] using hJ13
    refine XA.icmp_ne (13) 41 (by decide +kernel) (fun c2 => ?_) (fun c2 => ?_)
    · have H := hT28 c2
      refine XA.blk (e9 := 43) (ok := true) (ls' := [some (.ref 136), some (.int x1), some (.int x2), some (.int x3), some (.int ((10 * x1) + x2))]) (st' := [.int 2, .int x3]) (h' := hs σ) [(.iload_n 3, 1, 3, 0, 0, 0, 0, 0), (.iconst 2, 1, 0, 0, 0, 0, 2, 0)] (by decide +kernel) rfl rfl ?_
      obtain ⟨hT43, hF43⟩ := H
      have hJ43 : XA scr 7 mX11_atOf 172 4705 63 [none, none, none, none, none] [.int (if ¬ x3 = 2 then σ 161 (Int32.toNatClampNeg ((10 * x1) + x2)) else σ 160 (Int32.toNatClampNeg ((10 * x1) + x2)) : Int32)] (hs σ) (pI P) := by
        simpa only [if_pos c2] using hJ28
      refine XA.icmp_ne (13) 56 (by decide +kernel) (fun c3 => ?_) (fun c3 => ?_)
      · have H := hT43 c3
        have o1 := H
        refine XA.blk (e9 := 63) (ok := inB ((10 * x1) + x2) 240 && (true)) (ls' := [some (.ref 136), some (.int x1), some (.int x2), some (.int x3), some (.int ((10 * x1) + x2))]) (st' := [.int (σ 161 (Int32.toNatClampNeg ((10 * x1) + x2)))]) (h' := hs σ) [(.aload_n 0, 1, 0, 0, 0, 0, 0, 0), (.getfield 82, 3, 11, 39, 26, 932, 0, 0), (.iload 4, 2, 4, 0, 0, 0, 0, 0), (.iaload, 1, 0, 0, 0, 0, 0, 0)] (by decide +kernel) rfl (by simp only [o1, Bool.and_true, Bool.true_and]) ?_
        refine XA.drop (ls := [none, none, none, none, none]) (by simp [leL]) ?_
        simpa only [if_pos c3] using hJ43
      · have H := hF43 c3
        have o1 := H
        refine XA.blk (e9 := 63) (ok := inB ((10 * x1) + x2) 240 && (true)) (ls' := [some (.ref 136), some (.int x1), some (.int x2), some (.int x3), some (.int ((10 * x1) + x2))]) (st' := [.int (σ 160 (Int32.toNatClampNeg ((10 * x1) + x2)))]) (h' := hs σ) [(.aload_n 0, 1, 0, 0, 0, 0, 0, 0), (.getfield 79, 3, 11, 38, 25, 931, 0, 0), (.iload 4, 2, 4, 0, 0, 0, 0, 0), (.iaload, 1, 0, 0, 0, 0, 0, 0), (.goto 10, 3, 63, 0, 0, 0, 0, 0)] (by decide +kernel) rfl (by simp only [o1, Bool.and_true, Bool.true_and]) ?_
        refine XA.drop (ls := [none, none, none, none, none]) (by simp [leL]) ?_
        simpa only [if_neg (not_not_intro c3)] using hJ43
    · have H := hF28 c2
      have o1 := H
      refine XA.blk (e9 := 63) (ok := inB ((10 * x1) + x2) 240 && (true)) (ls' := [some (.ref 136), some (.int x1), some (.int x2), some (.int x3), some (.int ((10 * x1) + x2))]) (st' := [.int (σ 159 (Int32.toNatClampNeg ((10 * x1) + x2)))]) (h' := hs σ) [(.aload_n 0, 1, 0, 0, 0, 0, 0, 0), (.getfield 76, 3, 11, 37, 24, 930, 0, 0), (.iload 4, 2, 4, 0, 0, 0, 0, 0), (.iaload, 1, 0, 0, 0, 0, 0, 0), (.goto 25, 3, 63, 0, 0, 0, 0, 0)] (by decide +kernel) rfl (by simp only [o1, Bool.and_true, Bool.true_and]) ?_
      refine XA.drop (ls := [none, none, none, none, none]) (by simp [leL]) ?_
      simpa only [if_neg (not_not_intro c2)] using hJ28
  · have H := hF13 c1
    have o1 := H
    refine XA.blk (e9 := 63) (ok := inB ((10 * x1) + x2) 240 && (true)) (ls' := [some (.ref 136), some (.int x1), some (.int x2), some (.int x3), some (.int ((10 * x1) + x2))]) (st' := [.int (σ 158 (Int32.toNatClampNeg ((10 * x1) + x2)))]) (h' := hs σ) [(.aload_n 0, 1, 0, 0, 0, 0, 0, 0), (.getfield 73, 3, 11, 36, 23, 929, 0, 0), (.iload 4, 2, 4, 0, 0, 0, 0, 0), (.iaload, 1, 0, 0, 0, 0, 0, 0), (.goto 40, 3, 63, 0, 0, 0, 0, 0)] (by decide +kernel) rfl (by simp only [o1, Bool.and_true, Bool.true_and]) ?_
    refine XA.drop (ls := [none, none, none, none, none]) (by simp [leL]) ?_
    simpa only [if_neg (not_not_intro c1)] using hJ13
theorem E_X11_atOf {scr : ScA}  {x1 : Int32} {x2 : Int32} {x3 : Int32} {σ : Nat → Nat → Int32} {P : Int32 → (Nat → Nat → Int32) → Prop} (h : K_X11_atOf_0 scr x1 x2 x3 σ P) : CiA scr 7 mX11_atOf [.ref 136, .int x1, .int x2, .int x3] σ P := CtA.of (by decide) (Nat.le_of_ble_eq_true rfl) (XA.drop (by simp [leL, enL]) h)
def K_X11_at_0 (scr : ScA)  (x1 : Int32) (x2 : Int32) (x3 : Int32) (σ : Nat → Nat → Int32) (P : Int32 → (Nat → Nat → Int32) → Prop) : Prop := XA scr 8 mX11_at 172 4705 0 [some (.ref 136), some (.int x1), some (.int x2), some (.int x3)] [] (hs σ) (pI P)
def K_X11_at_12 (scr : ScA)  (x1 : Int32) (x2 : Int32) (x3 : Int32) (y0 : Int32) (σ : Nat → Nat → Int32) (P : Int32 → (Nat → Nat → Int32) → Prop) : Prop := XA scr 8 mX11_at 172 4705 12 [some (.ref 136), some (.int x1), some (.int x2), some (.int x3)] [.int y0] (hs σ) (pI P)
def K_X11_at_31 (scr : ScA)  (y0 : Int32) (σ : Nat → Nat → Int32) (P : Int32 → (Nat → Nat → Int32) → Prop) : Prop := XA scr 8 mX11_at 172 4705 31 [none, none, none, none] [.int y0] (hs σ) (pI P)
set_option maxRecDepth 20000 in
theorem W_X11_at_0 {scr : ScA}   {x1 : Int32} {x2 : Int32} {x3 : Int32}  {σ : Nat → Nat → Int32} {P : Int32 → (Nat → Nat → Int32) → Prop} (H : ((inV x1 0 23) = 0 → P (-2) σ) ∧ (¬ (inV x1 0 23) = 0 → CiA scr 5 mX11_isAcrobat [.ref 136, .int x2] σ (fun r9 σ' => K_X11_at_12 scr x1 x2 x3 r9 σ' P))) : K_X11_at_0 scr x1 x2 x3 σ P := by
  show XA scr 8 mX11_at 172 4705 0 [some (.ref 136), some (.int x1), some (.int x2), some (.int x3)] [] (hs σ) (pI P)
  refine XA.blk (e9 := 1) (ok := true) (ls' := [some (.ref 136), some (.int x1), some (.int x2), some (.int x3)]) (st' := [.int x1]) (h' := hs σ) [(.iload_n 1, 1, 1, 0, 0, 0, 0, 0)] (by decide +kernel) rfl rfl ?_
  refine XA.callS (as := [.int x1]) (rest := []) (mc' := 0) (ms' := 0) (idx := 130) (t := 1088) cs_X11_isMoment (by decide +kernel) rfl rfl (Nat.le_of_ble_eq_true rfl) (Nat.le_of_ble_eq_true rfl) (Nat.le_of_ble_eq_true rfl) (Nat.le_of_ble_eq_true rfl) (pu_X11_isMoment scr σ x1) (fun rv h' hp => ?_)
  obtain ⟨rfl, rfl⟩ := hp
  refine ⟨rfl, rfl, ?_⟩
  show XA scr 8 mX11_at 172 4705 4 [some (.ref 136), some (.int x1), some (.int x2), some (.int x3)] [.int (inV x1 0 23)] (hs σ) (pI P)
  refine XA.if_eq (30) 34 (by decide +kernel) (fun c1 => ?_) (fun c1 => ?_)
  · have H := H.1 c1
    refine XA.blk (e9 := 36) (ok := true) (ls' := [some (.ref 136), some (.int x1), some (.int x2), some (.int x3)]) (st' := [.int (-2)]) (h' := hs σ) [(.bipush (-2), 2, 0, 0, 0, 0, (-2), 0)] (by decide +kernel) rfl rfl ?_
    exact XA.ret (some (.int (-2))) rfl (show ckRt mX11_at 36 .ireturn = true by decide +kernel) trivial (Nat.le_of_ble_eq_true rfl) (Nat.le_of_ble_eq_true rfl) ⟨_, _, rfl, rfl, H⟩
  · have H := H.2 c1
    refine XA.blk (e9 := 9) (ok := true) (ls' := [some (.ref 136), some (.int x1), some (.int x2), some (.int x3)]) (st' := [.int x2, .ref 136]) (h' := hs σ) [(.aload_n 0, 1, 0, 0, 0, 0, 0, 0), (.iload_n 2, 1, 2, 0, 0, 0, 0, 0)] (by decide +kernel) rfl rfl ?_
    refine XA.callV (as := [.int x2]) (rest := []) (mc' := 0) (ms' := 0) (idx := 155) (t := 1102) cv_X11_isAcrobat (by decide +kernel) rfl rfl rfl (Nat.le_of_ble_eq_true rfl) (Nat.le_of_ble_eq_true rfl) (Nat.le_of_ble_eq_true rfl) (Nat.le_of_ble_eq_true rfl) (H) (fun rv h' hp => ?_)
    obtain ⟨r9, s9, rfl, rfl, hK⟩ := hp
    exact ⟨rfl, rfl, hK⟩
set_option maxRecDepth 20000 in
theorem W_X11_at_12 {scr : ScA}   {x1 : Int32} {x2 : Int32} {x3 : Int32} {y0 : Int32}  {σ : Nat → Nat → Int32} {P : Int32 → (Nat → Nat → Int32) → Prop} (H : (y0 = 0 → P (-2) σ) ∧ (¬ y0 = 0 → ((inV x3 0 3) = 0 → P (-2) σ) ∧ (¬ (inV x3 0 3) = 0 → CiA scr 7 mX11_atOf [.ref 136, .int x1, .int x2, .int x3] σ (fun r9 σ' => K_X11_at_31 scr r9 σ' P)))) : K_X11_at_12 scr x1 x2 x3 y0 σ P := by
  show XA scr 8 mX11_at 172 4705 12 [some (.ref 136), some (.int x1), some (.int x2), some (.int x3)] [.int y0] (hs σ) (pI P)
  refine XA.if_eq (22) 34 (by decide +kernel) (fun c1 => ?_) (fun c1 => ?_)
  · have H := H.1 c1
    refine XA.blk (e9 := 36) (ok := true) (ls' := [some (.ref 136), some (.int x1), some (.int x2), some (.int x3)]) (st' := [.int (-2)]) (h' := hs σ) [(.bipush (-2), 2, 0, 0, 0, 0, (-2), 0)] (by decide +kernel) rfl rfl ?_
    exact XA.ret (some (.int (-2))) rfl (show ckRt mX11_at 36 .ireturn = true by decide +kernel) trivial (Nat.le_of_ble_eq_true rfl) (Nat.le_of_ble_eq_true rfl) ⟨_, _, rfl, rfl, H⟩
  · have H := H.2 c1
    refine XA.blk (e9 := 18) (ok := true) (ls' := [some (.ref 136), some (.int x1), some (.int x2), some (.int x3)]) (st' := [.int 3, .int 0, .int x3]) (h' := hs σ) [(.iload_n 3, 1, 3, 0, 0, 0, 0, 0), (.iconst 0, 1, 0, 0, 0, 0, 0, 0), (.iconst 3, 1, 0, 0, 0, 0, 3, 0)] (by decide +kernel) rfl rfl ?_
    refine XA.callS (as := [.int x3, .int 0, .int 3]) (rest := []) (mc' := 0) (ms' := 0) (idx := 118) (t := 1061) cs_X11_in (by decide +kernel) rfl rfl (Nat.le_of_ble_eq_true rfl) (Nat.le_of_ble_eq_true rfl) (Nat.le_of_ble_eq_true rfl) (Nat.le_of_ble_eq_true rfl) (pu_X11_in scr σ x3 0 3) (fun rv h' hp => ?_)
    obtain ⟨rfl, rfl⟩ := hp
    refine ⟨rfl, rfl, ?_⟩
    show XA scr 8 mX11_at 172 4705 21 [some (.ref 136), some (.int x1), some (.int x2), some (.int x3)] [.int (inV x3 0 3)] (hs σ) (pI P)
    refine XA.if_eq (13) 34 (by decide +kernel) (fun c2 => ?_) (fun c2 => ?_)
    · have H := H.1 c2
      refine XA.blk (e9 := 36) (ok := true) (ls' := [some (.ref 136), some (.int x1), some (.int x2), some (.int x3)]) (st' := [.int (-2)]) (h' := hs σ) [(.bipush (-2), 2, 0, 0, 0, 0, (-2), 0)] (by decide +kernel) rfl rfl ?_
      exact XA.ret (some (.int (-2))) rfl (show ckRt mX11_at 36 .ireturn = true by decide +kernel) trivial (Nat.le_of_ble_eq_true rfl) (Nat.le_of_ble_eq_true rfl) ⟨_, _, rfl, rfl, H⟩
    · have H := H.2 c2
      refine XA.blk (e9 := 28) (ok := true) (ls' := [some (.ref 136), some (.int x1), some (.int x2), some (.int x3)]) (st' := [.int x3, .int x2, .int x1, .ref 136]) (h' := hs σ) [(.aload_n 0, 1, 0, 0, 0, 0, 0, 0), (.iload_n 1, 1, 1, 0, 0, 0, 0, 0), (.iload_n 2, 1, 2, 0, 0, 0, 0, 0), (.iload_n 3, 1, 3, 0, 0, 0, 0, 0)] (by decide +kernel) rfl rfl ?_
      refine XA.callV (as := [.int x1, .int x2, .int x3]) (rest := []) (mc' := 0) (ms' := 0) (idx := 250) (t := 1141) cv_X11_atOf (by decide +kernel) rfl rfl rfl (Nat.le_of_ble_eq_true rfl) (Nat.le_of_ble_eq_true rfl) (Nat.le_of_ble_eq_true rfl) (Nat.le_of_ble_eq_true rfl) (H) (fun rv h' hp => ?_)
      obtain ⟨r9, s9, rfl, rfl, hK⟩ := hp
      exact ⟨rfl, rfl, XA.drop (by simp [leL]) hK⟩
set_option maxRecDepth 20000 in
theorem W_X11_at_31 {scr : ScA}   {y0 : Int32}  {σ : Nat → Nat → Int32} {P : Int32 → (Nat → Nat → Int32) → Prop} (H : P y0 σ) : K_X11_at_31 scr y0 σ P := by
  show XA scr 8 mX11_at 172 4705 31 [none, none, none, none] [.int y0] (hs σ) (pI P)
  refine XA.blk (e9 := 36) (ok := true) (ls' := [none, none, none, none]) (st' := [.int y0]) (h' := hs σ) [(.goto 5, 3, 36, 0, 0, 0, 0, 0)] (by decide +kernel) rfl rfl ?_
  exact XA.ret (some (.int y0)) rfl (show ckRt mX11_at 36 .ireturn = true by decide +kernel) trivial (Nat.le_of_ble_eq_true rfl) (Nat.le_of_ble_eq_true rfl) ⟨_, _, rfl, rfl, H⟩
theorem E_X11_at {scr : ScA}  {x1 : Int32} {x2 : Int32} {x3 : Int32} {σ : Nat → Nat → Int32} {P : Int32 → (Nat → Nat → Int32) → Prop} (h : K_X11_at_0 scr x1 x2 x3 σ P) : CiA scr 8 mX11_at [.ref 136, .int x1, .int x2, .int x3] σ P := CtA.of (by decide) (Nat.le_of_ble_eq_true rfl) (XA.drop (by simp [leL, enL]) h)
def K_X11_standsOf_0 (scr : ScA)  (x1 : Int32) (x2 : Int32) (σ : Nat → Nat → Int32) (P : Int32 → (Nat → Nat → Int32) → Prop) : Prop := XA scr 7 mX11_standsOf 172 4705 0 [some (.ref 136), some (.int x1), some (.int x2)] [] (hs σ) (pI P)
def K_X11_standsOf_4 (scr : ScA)  (x1 : Int32) (x2 : Int32) (σ : Nat → Nat → Int32) (P : Int32 → (Nat → Nat → Int32) → Prop) : Prop := XA scr 7 mX11_standsOf 172 4705 4 [some (.ref 136), some (.int x1), some (.int x2)] [] (hs σ) (pI P)
set_option maxRecDepth 20000 in
theorem W_X11_standsOf_0 {scr : ScA}   {x1 : Int32} {x2 : Int32}  {σ : Nat → Nat → Int32} {P : Int32 → (Nat → Nat → Int32) → Prop} (H : CvA scr 6 mX11_runsTold [.ref 136] σ (fun σ' => K_X11_standsOf_4 scr x1 x2 σ' P)) : K_X11_standsOf_0 scr x1 x2 σ P := by
  show XA scr 7 mX11_standsOf 172 4705 0 [some (.ref 136), some (.int x1), some (.int x2)] [] (hs σ) (pI P)
  refine XA.blk (e9 := 1) (ok := true) (ls' := [some (.ref 136), some (.int x1), some (.int x2)]) (st' := [.ref 136]) (h' := hs σ) [(.aload_n 0, 1, 0, 0, 0, 0, 0, 0)] (by decide +kernel) rfl rfl ?_
  refine XA.callV (as := []) (rest := []) (mc' := 0) (ms' := 0) (idx := 247) (t := 1145) cv_X11_runsTold (by decide +kernel) rfl rfl rfl (Nat.le_of_ble_eq_true rfl) (Nat.le_of_ble_eq_true rfl) (Nat.le_of_ble_eq_true rfl) (Nat.le_of_ble_eq_true rfl) (H) (fun rv h' hp => ?_)
  obtain ⟨s9, rfl, rfl, hK⟩ := hp
  exact ⟨rfl, rfl, hK⟩
set_option maxRecDepth 20000 in
theorem W_X11_standsOf_4 {scr : ScA}   {x1 : Int32} {x2 : Int32}  {σ : Nat → Nat → Int32} {P : Int32 → (Nat → Nat → Int32) → Prop} (H : (inB ((10 * x1) + x2) 240 = true) ∧ (P (σ 157 (Int32.toNatClampNeg ((10 * x1) + x2))) σ)) : K_X11_standsOf_4 scr x1 x2 σ P := by
  show XA scr 7 mX11_standsOf 172 4705 4 [some (.ref 136), some (.int x1), some (.int x2)] [] (hs σ) (pI P)
  obtain ⟨o1, H⟩ := H
  refine XA.blk (e9 := 15) (ok := inB ((10 * x1) + x2) 240 && (true)) (ls' := [some (.ref 136), some (.int x1), some (.int x2)]) (st' := [.int (σ 157 (Int32.toNatClampNeg ((10 * x1) + x2)))]) (h' := hs σ) [(.aload_n 0, 1, 0, 0, 0, 0, 0, 0), (.getfield 70, 3, 11, 35, 22, 928, 0, 0), (.bipush 10, 2, 0, 0, 0, 0, 10, 0), (.iload_n 1, 1, 1, 0, 0, 0, 0, 0), (.imul, 1, 0, 0, 0, 0, 0, 0), (.iload_n 2, 1, 2, 0, 0, 0, 0, 0), (.iadd, 1, 0, 0, 0, 0, 0, 0), (.iaload, 1, 0, 0, 0, 0, 0, 0)] (by decide +kernel) rfl (by simp only [o1, Bool.and_true, Bool.true_and]) ?_
  exact XA.ret (some (.int (σ 157 (Int32.toNatClampNeg ((10 * x1) + x2))))) rfl (show ckRt mX11_standsOf 15 .ireturn = true by decide +kernel) trivial (Nat.le_of_ble_eq_true rfl) (Nat.le_of_ble_eq_true rfl) ⟨_, _, rfl, rfl, H⟩
theorem E_X11_standsOf {scr : ScA}  {x1 : Int32} {x2 : Int32} {σ : Nat → Nat → Int32} {P : Int32 → (Nat → Nat → Int32) → Prop} (h : K_X11_standsOf_0 scr x1 x2 σ P) : CiA scr 7 mX11_standsOf [.ref 136, .int x1, .int x2] σ P := CtA.of (by decide) (Nat.le_of_ble_eq_true rfl) (XA.drop (by simp [leL, enL]) h)
def K_X11_stands_0 (scr : ScA)  (x1 : Int32) (x2 : Int32) (σ : Nat → Nat → Int32) (P : Int32 → (Nat → Nat → Int32) → Prop) : Prop := XA scr 8 mX11_stands 172 4705 0 [some (.ref 136), some (.int x1), some (.int x2)] [] (hs σ) (pI P)
def K_X11_stands_20 (scr : ScA)  (y0 : Int32) (σ : Nat → Nat → Int32) (P : Int32 → (Nat → Nat → Int32) → Prop) : Prop := XA scr 8 mX11_stands 172 4705 20 [none, none, none] [.int y0] (hs σ) (pI P)
set_option maxRecDepth 20000 in
theorem W_X11_stands_0 {scr : ScA}   {x1 : Int32} {x2 : Int32}  {σ : Nat → Nat → Int32} {P : Int32 → (Nat → Nat → Int32) → Prop} (H : ((inV x1 0 23) = 0 → P (-2) σ) ∧ (¬ (inV x1 0 23) = 0 → ((inV x2 0 9) = 0 → P (-2) σ) ∧ (¬ (inV x2 0 9) = 0 → CiA scr 7 mX11_standsOf [.ref 136, .int x1, .int x2] σ (fun r9 σ' => K_X11_stands_20 scr r9 σ' P)))) : K_X11_stands_0 scr x1 x2 σ P := by
  show XA scr 8 mX11_stands 172 4705 0 [some (.ref 136), some (.int x1), some (.int x2)] [] (hs σ) (pI P)
  refine XA.blk (e9 := 1) (ok := true) (ls' := [some (.ref 136), some (.int x1), some (.int x2)]) (st' := [.int x1]) (h' := hs σ) [(.iload_n 1, 1, 1, 0, 0, 0, 0, 0)] (by decide +kernel) rfl rfl ?_
  refine XA.callS (as := [.int x1]) (rest := []) (mc' := 0) (ms' := 0) (idx := 130) (t := 1088) cs_X11_isMoment (by decide +kernel) rfl rfl (Nat.le_of_ble_eq_true rfl) (Nat.le_of_ble_eq_true rfl) (Nat.le_of_ble_eq_true rfl) (Nat.le_of_ble_eq_true rfl) (pu_X11_isMoment scr σ x1) (fun rv h' hp => ?_)
  obtain ⟨rfl, rfl⟩ := hp
  refine ⟨rfl, rfl, ?_⟩
  show XA scr 8 mX11_stands 172 4705 4 [some (.ref 136), some (.int x1), some (.int x2)] [.int (inV x1 0 23)] (hs σ) (pI P)
  refine XA.if_eq (19) 23 (by decide +kernel) (fun c1 => ?_) (fun c1 => ?_)
  · have H := H.1 c1
    refine XA.blk (e9 := 25) (ok := true) (ls' := [some (.ref 136), some (.int x1), some (.int x2)]) (st' := [.int (-2)]) (h' := hs σ) [(.bipush (-2), 2, 0, 0, 0, 0, (-2), 0)] (by decide +kernel) rfl rfl ?_
    exact XA.ret (some (.int (-2))) rfl (show ckRt mX11_stands 25 .ireturn = true by decide +kernel) trivial (Nat.le_of_ble_eq_true rfl) (Nat.le_of_ble_eq_true rfl) ⟨_, _, rfl, rfl, H⟩
  · have H := H.2 c1
    refine XA.blk (e9 := 8) (ok := true) (ls' := [some (.ref 136), some (.int x1), some (.int x2)]) (st' := [.int x2]) (h' := hs σ) [(.iload_n 2, 1, 2, 0, 0, 0, 0, 0)] (by decide +kernel) rfl rfl ?_
    refine XA.callS (as := [.int x2]) (rest := []) (mc' := 0) (ms' := 0) (idx := 134) (t := 1091) cs_X11_isTen (by decide +kernel) rfl rfl (Nat.le_of_ble_eq_true rfl) (Nat.le_of_ble_eq_true rfl) (Nat.le_of_ble_eq_true rfl) (Nat.le_of_ble_eq_true rfl) (pu_X11_isTen scr σ x2) (fun rv h' hp => ?_)
    obtain ⟨rfl, rfl⟩ := hp
    refine ⟨rfl, rfl, ?_⟩
    show XA scr 8 mX11_stands 172 4705 11 [some (.ref 136), some (.int x1), some (.int x2)] [.int (inV x2 0 9)] (hs σ) (pI P)
    refine XA.if_eq (12) 23 (by decide +kernel) (fun c2 => ?_) (fun c2 => ?_)
    · have H := H.1 c2
      refine XA.blk (e9 := 25) (ok := true) (ls' := [some (.ref 136), some (.int x1), some (.int x2)]) (st' := [.int (-2)]) (h' := hs σ) [(.bipush (-2), 2, 0, 0, 0, 0, (-2), 0)] (by decide +kernel) rfl rfl ?_
      exact XA.ret (some (.int (-2))) rfl (show ckRt mX11_stands 25 .ireturn = true by decide +kernel) trivial (Nat.le_of_ble_eq_true rfl) (Nat.le_of_ble_eq_true rfl) ⟨_, _, rfl, rfl, H⟩
    · have H := H.2 c2
      refine XA.blk (e9 := 17) (ok := true) (ls' := [some (.ref 136), some (.int x1), some (.int x2)]) (st' := [.int x2, .int x1, .ref 136]) (h' := hs σ) [(.aload_n 0, 1, 0, 0, 0, 0, 0, 0), (.iload_n 1, 1, 1, 0, 0, 0, 0, 0), (.iload_n 2, 1, 2, 0, 0, 0, 0, 0)] (by decide +kernel) rfl rfl ?_
      refine XA.callV (as := [.int x1, .int x2]) (rest := []) (mc' := 0) (ms' := 0) (idx := 253) (t := 1195) cv_X11_standsOf (by decide +kernel) rfl rfl rfl (Nat.le_of_ble_eq_true rfl) (Nat.le_of_ble_eq_true rfl) (Nat.le_of_ble_eq_true rfl) (Nat.le_of_ble_eq_true rfl) (H) (fun rv h' hp => ?_)
      obtain ⟨r9, s9, rfl, rfl, hK⟩ := hp
      exact ⟨rfl, rfl, XA.drop (by simp [leL]) hK⟩
set_option maxRecDepth 20000 in
theorem W_X11_stands_20 {scr : ScA}   {y0 : Int32}  {σ : Nat → Nat → Int32} {P : Int32 → (Nat → Nat → Int32) → Prop} (H : P y0 σ) : K_X11_stands_20 scr y0 σ P := by
  show XA scr 8 mX11_stands 172 4705 20 [none, none, none] [.int y0] (hs σ) (pI P)
  refine XA.blk (e9 := 25) (ok := true) (ls' := [none, none, none]) (st' := [.int y0]) (h' := hs σ) [(.goto 5, 3, 25, 0, 0, 0, 0, 0)] (by decide +kernel) rfl rfl ?_
  exact XA.ret (some (.int y0)) rfl (show ckRt mX11_stands 25 .ireturn = true by decide +kernel) trivial (Nat.le_of_ble_eq_true rfl) (Nat.le_of_ble_eq_true rfl) ⟨_, _, rfl, rfl, H⟩
theorem E_X11_stands {scr : ScA}  {x1 : Int32} {x2 : Int32} {σ : Nat → Nat → Int32} {P : Int32 → (Nat → Nat → Int32) → Prop} (h : K_X11_stands_0 scr x1 x2 σ P) : CiA scr 8 mX11_stands [.ref 136, .int x1, .int x2] σ P := CtA.of (by decide) (Nat.le_of_ble_eq_true rfl) (XA.drop (by simp [leL, enL]) h)
def K_X11_towerOf_0 (scr : ScA)  (x1 : Int32) (x2 : Int32) (σ : Nat → Nat → Int32) (P : Int32 → (Nat → Nat → Int32) → Prop) : Prop := XA scr 7 mX11_towerOf 172 4705 0 [some (.ref 136), some (.int x1), some (.int x2), none, none] [] (hs σ) (pI P)
def K_X11_towerOf_4 (scr : ScA)  (x1 : Int32) (x2 : Int32) (σ : Nat → Nat → Int32) (P : Int32 → (Nat → Nat → Int32) → Prop) : Prop := XA scr 7 mX11_towerOf 172 4705 4 [some (.ref 136), some (.int x1), some (.int x2), none, none] [] (hs σ) (pI P)
set_option maxRecDepth 20000 in
theorem W_X11_towerOf_0 {scr : ScA}   {x1 : Int32} {x2 : Int32}  {σ : Nat → Nat → Int32} {P : Int32 → (Nat → Nat → Int32) → Prop} (H : CvA scr 6 mX11_runsTold [.ref 136] σ (fun σ' => K_X11_towerOf_4 scr x1 x2 σ' P)) : K_X11_towerOf_0 scr x1 x2 σ P := by
  show XA scr 7 mX11_towerOf 172 4705 0 [some (.ref 136), some (.int x1), some (.int x2), none, none] [] (hs σ) (pI P)
  refine XA.blk (e9 := 1) (ok := true) (ls' := [some (.ref 136), some (.int x1), some (.int x2), none, none]) (st' := [.ref 136]) (h' := hs σ) [(.aload_n 0, 1, 0, 0, 0, 0, 0, 0)] (by decide +kernel) rfl rfl ?_
  refine XA.callV (as := []) (rest := []) (mc' := 0) (ms' := 0) (idx := 247) (t := 1145) cv_X11_runsTold (by decide +kernel) rfl rfl rfl (Nat.le_of_ble_eq_true rfl) (Nat.le_of_ble_eq_true rfl) (Nat.le_of_ble_eq_true rfl) (Nat.le_of_ble_eq_true rfl) (H) (fun rv h' hp => ?_)
  obtain ⟨s9, rfl, rfl, hK⟩ := hp
  exact ⟨rfl, rfl, hK⟩
set_option maxRecDepth 20000 in
theorem W_X11_towerOf_4 {scr : ScA}   {x1 : Int32} {x2 : Int32}  {σ : Nat → Nat → Int32} {P : Int32 → (Nat → Nat → Int32) → Prop} (H : (inB x1 24 = true) ∧ (P (if ¬ x2 = 0 then (((if ((σ 156 (Int32.toNatClampNeg x1)) &&& 15) = 0 then 0 else 1 : Int32) + (if ((σ 156 (Int32.toNatClampNeg x1)) &&& 112) = 0 then 0 else 1 : Int32)) + (if ((σ 156 (Int32.toNatClampNeg x1)) &&& 384) = 0 then 0 else 1 : Int32)) + (if ((σ 156 (Int32.toNatClampNeg x1)) &&& 512) = 0 then 0 else 1 : Int32) else σ 155 (Int32.toNatClampNeg x1) : Int32) σ)) : K_X11_towerOf_4 scr x1 x2 σ P := by
  show XA scr 7 mX11_towerOf 172 4705 4 [some (.ref 136), some (.int x1), some (.int x2), none, none] [] (hs σ) (pI P)
  obtain ⟨o1, H⟩ := H
  refine XA.blk (e9 := 15) (ok := inB x1 24 && (true)) (ls' := [some (.ref 136), some (.int x1), some (.int x2), some (.int (σ 156 (Int32.toNatClampNeg x1))), none]) (st' := [.int ((σ 156 (Int32.toNatClampNeg x1)) &&& 15)]) (h' := hs σ) [(.aload_n 0, 1, 0, 0, 0, 0, 0, 0), (.getfield 67, 3, 11, 34, 21, 927, 0, 0), (.iload_n 1, 1, 1, 0, 0, 0, 0, 0), (.iaload, 1, 0, 0, 0, 0, 0, 0), (.istore_n 3, 1, 3, 0, 0, 0, 0, 0), (.iload_n 3, 1, 3, 0, 0, 0, 0, 0), (.bipush 15, 2, 0, 0, 0, 0, 15, 0), (.iand, 1, 0, 0, 0, 0, 0, 0)] (by decide +kernel) rfl (by simp only [o1, Bool.and_true, Bool.true_and]) ?_
  have hJ15 : XA scr 7 mX11_towerOf 172 4705 23 [some (.ref 136), some (.int x1), some (.int x2), some (.int (σ 156 (Int32.toNatClampNeg x1))), none] [.int (if ((σ 156 (Int32.toNatClampNeg x1)) &&& 15) = 0 then 0 else 1 : Int32)] (hs σ) (pI P) := by
    refine XA.blk (e9 := 27) (ok := true) (ls' := [some (.ref 136), some (.int x1), some (.int x2), some (.int (σ 156 (Int32.toNatClampNeg x1))), none]) (st' := [.int ((σ 156 (Int32.toNatClampNeg x1)) &&& 112), .int (if ((σ 156 (Int32.toNatClampNeg x1)) &&& 15) = 0 then 0 else 1 : Int32)]) (h' := hs σ) [(.iload_n 3, 1, 3, 0, 0, 0, 0, 0), (.bipush 112, 2, 0, 0, 0, 0, 112, 0), (.iand, 1, 0, 0, 0, 0, 0, 0)] (by decide +kernel) rfl rfl ?_
    have hJ27 : XA scr 7 mX11_towerOf 172 4705 35 [some (.ref 136), some (.int x1), some (.int x2), some (.int (σ 156 (Int32.toNatClampNeg x1))), none] [.int (if ((σ 156 (Int32.toNatClampNeg x1)) &&& 112) = 0 then 0 else 1 : Int32), .int (if ((σ 156 (Int32.toNatClampNeg x1)) &&& 15) = 0 then 0 else 1 : Int32)] (hs σ) (pI P) := by
      refine XA.blk (e9 := 41) (ok := true) (ls' := [some (.ref 136), some (.int x1), some (.int x2), some (.int (σ 156 (Int32.toNatClampNeg x1))), none]) (st' := [.int ((σ 156 (Int32.toNatClampNeg x1)) &&& 384), .int ((if ((σ 156 (Int32.toNatClampNeg x1)) &&& 15) = 0 then 0 else 1 : Int32) + (if ((σ 156 (Int32.toNatClampNeg x1)) &&& 112) = 0 then 0 else 1 : Int32))]) (h' := hs σ) [(.iadd, 1, 0, 0, 0, 0, 0, 0), (.iload_n 3, 1, 3, 0, 0, 0, 0, 0), (.sipush 384, 3, 0, 0, 0, 0, 384, 0), (.iand, 1, 0, 0, 0, 0, 0, 0)] (by decide +kernel) rfl rfl ?_
      have hJ41 : XA scr 7 mX11_towerOf 172 4705 49 [some (.ref 136), some (.int x1), some (.int x2), some (.int (σ 156 (Int32.toNatClampNeg x1))), none] [.int (if ((σ 156 (Int32.toNatClampNeg x1)) &&& 384) = 0 then 0 else 1 : Int32), .int ((if ((σ 156 (Int32.toNatClampNeg x1)) &&& 15) = 0 then 0 else 1 : Int32) + (if ((σ 156 (Int32.toNatClampNeg x1)) &&& 112) = 0 then 0 else 1 : Int32))] (hs σ) (pI P) := by
        refine XA.blk (e9 := 55) (ok := true) (ls' := [some (.ref 136), some (.int x1), some (.int x2), some (.int (σ 156 (Int32.toNatClampNeg x1))), none]) (st' := [.int ((σ 156 (Int32.toNatClampNeg x1)) &&& 512), .int (((if ((σ 156 (Int32.toNatClampNeg x1)) &&& 15) = 0 then 0 else 1 : Int32) + (if ((σ 156 (Int32.toNatClampNeg x1)) &&& 112) = 0 then 0 else 1 : Int32)) + (if ((σ 156 (Int32.toNatClampNeg x1)) &&& 384) = 0 then 0 else 1 : Int32))]) (h' := hs σ) [(.iadd, 1, 0, 0, 0, 0, 0, 0), (.iload_n 3, 1, 3, 0, 0, 0, 0, 0), (.sipush 512, 3, 0, 0, 0, 0, 512, 0), (.iand, 1, 0, 0, 0, 0, 0, 0)] (by decide +kernel) rfl rfl ?_
        have hJ55 : XA scr 7 mX11_towerOf 172 4705 63 [some (.ref 136), some (.int x1), some (.int x2), none, none] [.int (if ((σ 156 (Int32.toNatClampNeg x1)) &&& 512) = 0 then 0 else 1 : Int32), .int (((if ((σ 156 (Int32.toNatClampNeg x1)) &&& 15) = 0 then 0 else 1 : Int32) + (if ((σ 156 (Int32.toNatClampNeg x1)) &&& 112) = 0 then 0 else 1 : Int32)) + (if ((σ 156 (Int32.toNatClampNeg x1)) &&& 384) = 0 then 0 else 1 : Int32))] (hs σ) (pI P) := by
          refine XA.blk (e9 := 67) (ok := true) (ls' := [some (.ref 136), some (.int x1), some (.int x2), none, some (.int ((((if ((σ 156 (Int32.toNatClampNeg x1)) &&& 15) = 0 then 0 else 1 : Int32) + (if ((σ 156 (Int32.toNatClampNeg x1)) &&& 112) = 0 then 0 else 1 : Int32)) + (if ((σ 156 (Int32.toNatClampNeg x1)) &&& 384) = 0 then 0 else 1 : Int32)) + (if ((σ 156 (Int32.toNatClampNeg x1)) &&& 512) = 0 then 0 else 1 : Int32)))]) (st' := [.int x2]) (h' := hs σ) [(.iadd, 1, 0, 0, 0, 0, 0, 0), (.istore 4, 2, 4, 0, 0, 0, 0, 0), (.iload_n 2, 1, 2, 0, 0, 0, 0, 0)] (by decide +kernel) rfl rfl ?_
          have hJ67 : XA scr 7 mX11_towerOf 172 4705 81 [none, none, none, none, none] [.int (if ¬ x2 = 0 then (((if ((σ 156 (Int32.toNatClampNeg x1)) &&& 15) = 0 then 0 else 1 : Int32) + (if ((σ 156 (Int32.toNatClampNeg x1)) &&& 112) = 0 then 0 else 1 : Int32)) + (if ((σ 156 (Int32.toNatClampNeg x1)) &&& 384) = 0 then 0 else 1 : Int32)) + (if ((σ 156 (Int32.toNatClampNeg x1)) &&& 512) = 0 then 0 else 1 : Int32) else σ 155 (Int32.toNatClampNeg x1) : Int32)] (hs σ) (pI P) := by
            exact XA.ret (some (.int (if ¬ x2 = 0 then (((if ((σ 156 (Int32.toNatClampNeg x1)) &&& 15) = 0 then 0 else 1 : Int32) + (if ((σ 156 (Int32.toNatClampNeg x1)) &&& 112) = 0 then 0 else 1 : Int32)) + (if ((σ 156 (Int32.toNatClampNeg x1)) &&& 384) = 0 then 0 else 1 : Int32)) + (if ((σ 156 (Int32.toNatClampNeg x1)) &&& 512) = 0 then 0 else 1 : Int32) else σ 155 (Int32.toNatClampNeg x1) : Int32))) rfl (show ckRt mX11_towerOf 81 .ireturn = true by decide +kernel) trivial (Nat.le_of_ble_eq_true rfl) (Nat.le_of_ble_eq_true rfl) ⟨_, _, rfl, rfl, H⟩
          refine XA.if_ne (12) 79 (by decide +kernel) (fun c1 => ?_) (fun c1 => ?_)
          · refine XA.blk (e9 := 81) (ok := true) (ls' := [some (.ref 136), some (.int x1), some (.int x2), none, some (.int ((((if ((σ 156 (Int32.toNatClampNeg x1)) &&& 15) = 0 then 0 else 1 : Int32) + (if ((σ 156 (Int32.toNatClampNeg x1)) &&& 112) = 0 then 0 else 1 : Int32)) + (if ((σ 156 (Int32.toNatClampNeg x1)) &&& 384) = 0 then 0 else 1 : Int32)) + (if ((σ 156 (Int32.toNatClampNeg x1)) &&& 512) = 0 then 0 else 1 : Int32)))]) (st' := [.int ((((if ((σ 156 (Int32.toNatClampNeg x1)) &&& 15) = 0 then 0 else 1 : Int32) + (if ((σ 156 (Int32.toNatClampNeg x1)) &&& 112) = 0 then 0 else 1 : Int32)) + (if ((σ 156 (Int32.toNatClampNeg x1)) &&& 384) = 0 then 0 else 1 : Int32)) + (if ((σ 156 (Int32.toNatClampNeg x1)) &&& 512) = 0 then 0 else 1 : Int32))]) (h' := hs σ) [(.iload 4, 2, 4, 0, 0, 0, 0, 0)] (by decide +kernel) rfl rfl ?_
            refine XA.drop (ls := [none, none, none, none, none]) (by simp [leL]) ?_
            simpa only [if_pos c1] using hJ67
          · refine XA.blk (e9 := 81) (ok := inB x1 24 && (true)) (ls' := [some (.ref 136), some (.int x1), some (.int x2), none, some (.int ((((if ((σ 156 (Int32.toNatClampNeg x1)) &&& 15) = 0 then 0 else 1 : Int32) + (if ((σ 156 (Int32.toNatClampNeg x1)) &&& 112) = 0 then 0 else 1 : Int32)) + (if ((σ 156 (Int32.toNatClampNeg x1)) &&& 384) = 0 then 0 else 1 : Int32)) + (if ((σ 156 (Int32.toNatClampNeg x1)) &&& 512) = 0 then 0 else 1 : Int32)))]) (st' := [.int (σ 155 (Int32.toNatClampNeg x1))]) (h' := hs σ) [(.aload_n 0, 1, 0, 0, 0, 0, 0, 0), (.getfield 64, 3, 11, 33, 20, 926, 0, 0), (.iload_n 1, 1, 1, 0, 0, 0, 0, 0), (.iaload, 1, 0, 0, 0, 0, 0, 0), (.goto 5, 3, 81, 0, 0, 0, 0, 0)] (by decide +kernel) rfl (by simp only [o1, Bool.and_true, Bool.true_and]) ?_
            refine XA.drop (ls := [none, none, none, none, none]) (by simp [leL]) ?_
            simpa only [if_neg (not_not_intro c1)] using hJ67
        refine XA.if_eq (7) 62 (by decide +kernel) (fun c1 => ?_) (fun c1 => ?_)
        · refine XA.blk (e9 := 63) (ok := true) (ls' := [some (.ref 136), some (.int x1), some (.int x2), some (.int (σ 156 (Int32.toNatClampNeg x1))), none]) (st' := [.int 0, .int (((if ((σ 156 (Int32.toNatClampNeg x1)) &&& 15) = 0 then 0 else 1 : Int32) + (if ((σ 156 (Int32.toNatClampNeg x1)) &&& 112) = 0 then 0 else 1 : Int32)) + (if ((σ 156 (Int32.toNatClampNeg x1)) &&& 384) = 0 then 0 else 1 : Int32))]) (h' := hs σ) [(.iconst 0, 1, 0, 0, 0, 0, 0, 0)] (by decide +kernel) rfl rfl ?_
          refine XA.drop (ls := [some (.ref 136), some (.int x1), some (.int x2), none, none]) (by simp [leL]) ?_
          simpa only [if_pos c1] using hJ55
        · refine XA.blk (e9 := 63) (ok := true) (ls' := [some (.ref 136), some (.int x1), some (.int x2), some (.int (σ 156 (Int32.toNatClampNeg x1))), none]) (st' := [.int 1, .int (((if ((σ 156 (Int32.toNatClampNeg x1)) &&& 15) = 0 then 0 else 1 : Int32) + (if ((σ 156 (Int32.toNatClampNeg x1)) &&& 112) = 0 then 0 else 1 : Int32)) + (if ((σ 156 (Int32.toNatClampNeg x1)) &&& 384) = 0 then 0 else 1 : Int32))]) (h' := hs σ) [(.iconst 1, 1, 0, 0, 0, 0, 1, 0), (.goto 4, 3, 63, 0, 0, 0, 0, 0)] (by decide +kernel) rfl rfl ?_
          refine XA.drop (ls := [some (.ref 136), some (.int x1), some (.int x2), none, none]) (by simp [leL]) ?_
          simpa only [if_neg c1] using hJ55
      refine XA.if_eq (7) 48 (by decide +kernel) (fun c1 => ?_) (fun c1 => ?_)
      · refine XA.blk (e9 := 49) (ok := true) (ls' := [some (.ref 136), some (.int x1), some (.int x2), some (.int (σ 156 (Int32.toNatClampNeg x1))), none]) (st' := [.int 0, .int ((if ((σ 156 (Int32.toNatClampNeg x1)) &&& 15) = 0 then 0 else 1 : Int32) + (if ((σ 156 (Int32.toNatClampNeg x1)) &&& 112) = 0 then 0 else 1 : Int32))]) (h' := hs σ) [(.iconst 0, 1, 0, 0, 0, 0, 0, 0)] (by decide +kernel) rfl rfl ?_
        simpa only [if_pos c1] using hJ41
      · refine XA.blk (e9 := 49) (ok := true) (ls' := [some (.ref 136), some (.int x1), some (.int x2), some (.int (σ 156 (Int32.toNatClampNeg x1))), none]) (st' := [.int 1, .int ((if ((σ 156 (Int32.toNatClampNeg x1)) &&& 15) = 0 then 0 else 1 : Int32) + (if ((σ 156 (Int32.toNatClampNeg x1)) &&& 112) = 0 then 0 else 1 : Int32))]) (h' := hs σ) [(.iconst 1, 1, 0, 0, 0, 0, 1, 0), (.goto 4, 3, 49, 0, 0, 0, 0, 0)] (by decide +kernel) rfl rfl ?_
        simpa only [if_neg c1] using hJ41
    refine XA.if_eq (7) 34 (by decide +kernel) (fun c1 => ?_) (fun c1 => ?_)
    · refine XA.blk (e9 := 35) (ok := true) (ls' := [some (.ref 136), some (.int x1), some (.int x2), some (.int (σ 156 (Int32.toNatClampNeg x1))), none]) (st' := [.int 0, .int (if ((σ 156 (Int32.toNatClampNeg x1)) &&& 15) = 0 then 0 else 1 : Int32)]) (h' := hs σ) [(.iconst 0, 1, 0, 0, 0, 0, 0, 0)] (by decide +kernel) rfl rfl ?_
      simpa only [if_pos c1] using hJ27
    · refine XA.blk (e9 := 35) (ok := true) (ls' := [some (.ref 136), some (.int x1), some (.int x2), some (.int (σ 156 (Int32.toNatClampNeg x1))), none]) (st' := [.int 1, .int (if ((σ 156 (Int32.toNatClampNeg x1)) &&& 15) = 0 then 0 else 1 : Int32)]) (h' := hs σ) [(.iconst 1, 1, 0, 0, 0, 0, 1, 0), (.goto 4, 3, 35, 0, 0, 0, 0, 0)] (by decide +kernel) rfl rfl ?_
      simpa only [if_neg c1] using hJ27
  refine XA.if_eq (7) 22 (by decide +kernel) (fun c1 => ?_) (fun c1 => ?_)
  · refine XA.blk (e9 := 23) (ok := true) (ls' := [some (.ref 136), some (.int x1), some (.int x2), some (.int (σ 156 (Int32.toNatClampNeg x1))), none]) (st' := [.int 0]) (h' := hs σ) [(.iconst 0, 1, 0, 0, 0, 0, 0, 0)] (by decide +kernel) rfl rfl ?_
    simpa only [if_pos c1] using hJ15
  · refine XA.blk (e9 := 23) (ok := true) (ls' := [some (.ref 136), some (.int x1), some (.int x2), some (.int (σ 156 (Int32.toNatClampNeg x1))), none]) (st' := [.int 1]) (h' := hs σ) [(.iconst 1, 1, 0, 0, 0, 0, 1, 0), (.goto 4, 3, 23, 0, 0, 0, 0, 0)] (by decide +kernel) rfl rfl ?_
    simpa only [if_neg c1] using hJ15
theorem E_X11_towerOf {scr : ScA}  {x1 : Int32} {x2 : Int32} {σ : Nat → Nat → Int32} {P : Int32 → (Nat → Nat → Int32) → Prop} (h : K_X11_towerOf_0 scr x1 x2 σ P) : CiA scr 7 mX11_towerOf [.ref 136, .int x1, .int x2] σ P := CtA.of (by decide) (Nat.le_of_ble_eq_true rfl) (XA.drop (by simp [leL, enL]) h)
def K_X11_tower_0 (scr : ScA)  (x1 : Int32) (x2 : Int32) (σ : Nat → Nat → Int32) (P : Int32 → (Nat → Nat → Int32) → Prop) : Prop := XA scr 8 mX11_tower 172 4705 0 [some (.ref 136), some (.int x1), some (.int x2)] [] (hs σ) (pI P)
def K_X11_tower_20 (scr : ScA)  (y0 : Int32) (σ : Nat → Nat → Int32) (P : Int32 → (Nat → Nat → Int32) → Prop) : Prop := XA scr 8 mX11_tower 172 4705 20 [none, none, none] [.int y0] (hs σ) (pI P)
set_option maxRecDepth 20000 in
theorem W_X11_tower_0 {scr : ScA}   {x1 : Int32} {x2 : Int32}  {σ : Nat → Nat → Int32} {P : Int32 → (Nat → Nat → Int32) → Prop} (H : ((inV x1 0 23) = 0 → P (-2) σ) ∧ (¬ (inV x1 0 23) = 0 → ((inV x2 0 1) = 0 → P (-2) σ) ∧ (¬ (inV x2 0 1) = 0 → CiA scr 7 mX11_towerOf [.ref 136, .int x1, .int x2] σ (fun r9 σ' => K_X11_tower_20 scr r9 σ' P)))) : K_X11_tower_0 scr x1 x2 σ P := by
  show XA scr 8 mX11_tower 172 4705 0 [some (.ref 136), some (.int x1), some (.int x2)] [] (hs σ) (pI P)
  refine XA.blk (e9 := 1) (ok := true) (ls' := [some (.ref 136), some (.int x1), some (.int x2)]) (st' := [.int x1]) (h' := hs σ) [(.iload_n 1, 1, 1, 0, 0, 0, 0, 0)] (by decide +kernel) rfl rfl ?_
  refine XA.callS (as := [.int x1]) (rest := []) (mc' := 0) (ms' := 0) (idx := 130) (t := 1088) cs_X11_isMoment (by decide +kernel) rfl rfl (Nat.le_of_ble_eq_true rfl) (Nat.le_of_ble_eq_true rfl) (Nat.le_of_ble_eq_true rfl) (Nat.le_of_ble_eq_true rfl) (pu_X11_isMoment scr σ x1) (fun rv h' hp => ?_)
  obtain ⟨rfl, rfl⟩ := hp
  refine ⟨rfl, rfl, ?_⟩
  show XA scr 8 mX11_tower 172 4705 4 [some (.ref 136), some (.int x1), some (.int x2)] [.int (inV x1 0 23)] (hs σ) (pI P)
  refine XA.if_eq (19) 23 (by decide +kernel) (fun c1 => ?_) (fun c1 => ?_)
  · have H := H.1 c1
    refine XA.blk (e9 := 25) (ok := true) (ls' := [some (.ref 136), some (.int x1), some (.int x2)]) (st' := [.int (-2)]) (h' := hs σ) [(.bipush (-2), 2, 0, 0, 0, 0, (-2), 0)] (by decide +kernel) rfl rfl ?_
    exact XA.ret (some (.int (-2))) rfl (show ckRt mX11_tower 25 .ireturn = true by decide +kernel) trivial (Nat.le_of_ble_eq_true rfl) (Nat.le_of_ble_eq_true rfl) ⟨_, _, rfl, rfl, H⟩
  · have H := H.2 c1
    refine XA.blk (e9 := 8) (ok := true) (ls' := [some (.ref 136), some (.int x1), some (.int x2)]) (st' := [.int x2]) (h' := hs σ) [(.iload_n 2, 1, 2, 0, 0, 0, 0, 0)] (by decide +kernel) rfl rfl ?_
    refine XA.callS (as := [.int x2]) (rest := []) (mc' := 0) (ms' := 0) (idx := 256) (t := 1203) cs_X11_isTwo (by decide +kernel) rfl rfl (Nat.le_of_ble_eq_true rfl) (Nat.le_of_ble_eq_true rfl) (Nat.le_of_ble_eq_true rfl) (Nat.le_of_ble_eq_true rfl) (pu_X11_isTwo scr σ x2) (fun rv h' hp => ?_)
    obtain ⟨rfl, rfl⟩ := hp
    refine ⟨rfl, rfl, ?_⟩
    show XA scr 8 mX11_tower 172 4705 11 [some (.ref 136), some (.int x1), some (.int x2)] [.int (inV x2 0 1)] (hs σ) (pI P)
    refine XA.if_eq (12) 23 (by decide +kernel) (fun c2 => ?_) (fun c2 => ?_)
    · have H := H.1 c2
      refine XA.blk (e9 := 25) (ok := true) (ls' := [some (.ref 136), some (.int x1), some (.int x2)]) (st' := [.int (-2)]) (h' := hs σ) [(.bipush (-2), 2, 0, 0, 0, 0, (-2), 0)] (by decide +kernel) rfl rfl ?_
      exact XA.ret (some (.int (-2))) rfl (show ckRt mX11_tower 25 .ireturn = true by decide +kernel) trivial (Nat.le_of_ble_eq_true rfl) (Nat.le_of_ble_eq_true rfl) ⟨_, _, rfl, rfl, H⟩
    · have H := H.2 c2
      refine XA.blk (e9 := 17) (ok := true) (ls' := [some (.ref 136), some (.int x1), some (.int x2)]) (st' := [.int x2, .int x1, .ref 136]) (h' := hs σ) [(.aload_n 0, 1, 0, 0, 0, 0, 0, 0), (.iload_n 1, 1, 1, 0, 0, 0, 0, 0), (.iload_n 2, 1, 2, 0, 0, 0, 0, 0)] (by decide +kernel) rfl rfl ?_
      refine XA.callV (as := [.int x1, .int x2]) (rest := []) (mc' := 0) (ms' := 0) (idx := 259) (t := 1206) cv_X11_towerOf (by decide +kernel) rfl rfl rfl (Nat.le_of_ble_eq_true rfl) (Nat.le_of_ble_eq_true rfl) (Nat.le_of_ble_eq_true rfl) (Nat.le_of_ble_eq_true rfl) (H) (fun rv h' hp => ?_)
      obtain ⟨r9, s9, rfl, rfl, hK⟩ := hp
      exact ⟨rfl, rfl, XA.drop (by simp [leL]) hK⟩
set_option maxRecDepth 20000 in
theorem W_X11_tower_20 {scr : ScA}   {y0 : Int32}  {σ : Nat → Nat → Int32} {P : Int32 → (Nat → Nat → Int32) → Prop} (H : P y0 σ) : K_X11_tower_20 scr y0 σ P := by
  show XA scr 8 mX11_tower 172 4705 20 [none, none, none] [.int y0] (hs σ) (pI P)
  refine XA.blk (e9 := 25) (ok := true) (ls' := [none, none, none]) (st' := [.int y0]) (h' := hs σ) [(.goto 5, 3, 25, 0, 0, 0, 0, 0)] (by decide +kernel) rfl rfl ?_
  exact XA.ret (some (.int y0)) rfl (show ckRt mX11_tower 25 .ireturn = true by decide +kernel) trivial (Nat.le_of_ble_eq_true rfl) (Nat.le_of_ble_eq_true rfl) ⟨_, _, rfl, rfl, H⟩
theorem E_X11_tower {scr : ScA}  {x1 : Int32} {x2 : Int32} {σ : Nat → Nat → Int32} {P : Int32 → (Nat → Nat → Int32) → Prop} (h : K_X11_tower_0 scr x1 x2 σ P) : CiA scr 8 mX11_tower [.ref 136, .int x1, .int x2] σ P := CtA.of (by decide) (Nat.le_of_ble_eq_true rfl) (XA.drop (by simp [leL, enL]) h)
def K_X11_sumOf_0 (scr : ScA)  (x1 : Int32) (σ : Nat → Nat → Int32) (P : Int32 → (Nat → Nat → Int32) → Prop) : Prop := XA scr 7 mX11_sumOf 172 4705 0 [some (.ref 136), some (.int x1)] [] (hs σ) (pI P)
def K_X11_sumOf_4 (scr : ScA)  (x1 : Int32) (σ : Nat → Nat → Int32) (P : Int32 → (Nat → Nat → Int32) → Prop) : Prop := XA scr 7 mX11_sumOf 172 4705 4 [some (.ref 136), some (.int x1)] [] (hs σ) (pI P)
set_option maxRecDepth 20000 in
theorem W_X11_sumOf_0 {scr : ScA}   {x1 : Int32}  {σ : Nat → Nat → Int32} {P : Int32 → (Nat → Nat → Int32) → Prop} (H : CvA scr 6 mX11_runsTold [.ref 136] σ (fun σ' => K_X11_sumOf_4 scr x1 σ' P)) : K_X11_sumOf_0 scr x1 σ P := by
  show XA scr 7 mX11_sumOf 172 4705 0 [some (.ref 136), some (.int x1)] [] (hs σ) (pI P)
  refine XA.blk (e9 := 1) (ok := true) (ls' := [some (.ref 136), some (.int x1)]) (st' := [.ref 136]) (h' := hs σ) [(.aload_n 0, 1, 0, 0, 0, 0, 0, 0)] (by decide +kernel) rfl rfl ?_
  refine XA.callV (as := []) (rest := []) (mc' := 0) (ms' := 0) (idx := 247) (t := 1145) cv_X11_runsTold (by decide +kernel) rfl rfl rfl (Nat.le_of_ble_eq_true rfl) (Nat.le_of_ble_eq_true rfl) (Nat.le_of_ble_eq_true rfl) (Nat.le_of_ble_eq_true rfl) (H) (fun rv h' hp => ?_)
  obtain ⟨s9, rfl, rfl, hK⟩ := hp
  exact ⟨rfl, rfl, hK⟩
set_option maxRecDepth 20000 in
theorem W_X11_sumOf_4 {scr : ScA}   {x1 : Int32}  {σ : Nat → Nat → Int32} {P : Int32 → (Nat → Nat → Int32) → Prop} (H : P (if ¬ x1 = 0 then σ 136 18 else σ 136 17 : Int32) σ) : K_X11_sumOf_4 scr x1 σ P := by
  show XA scr 7 mX11_sumOf 172 4705 4 [some (.ref 136), some (.int x1)] [] (hs σ) (pI P)
  refine XA.blk (e9 := 5) (ok := true) (ls' := [some (.ref 136), some (.int x1)]) (st' := [.int x1]) (h' := hs σ) [(.iload_n 1, 1, 1, 0, 0, 0, 0, 0)] (by decide +kernel) rfl rfl ?_
  have hJ5 : XA scr 7 mX11_sumOf 172 4705 19 [none, none] [.int (if ¬ x1 = 0 then σ 136 18 else σ 136 17 : Int32)] (hs σ) (pI P) := by
    exact XA.ret (some (.int (if ¬ x1 = 0 then σ 136 18 else σ 136 17 : Int32))) rfl (show ckRt mX11_sumOf 19 .ireturn = true by decide +kernel) trivial (Nat.le_of_ble_eq_true rfl) (Nat.le_of_ble_eq_true rfl) ⟨_, _, rfl, rfl, H⟩
  refine XA.if_ne (10) 15 (by decide +kernel) (fun c1 => ?_) (fun c1 => ?_)
  · refine XA.blk (e9 := 19) (ok := true) (ls' := [some (.ref 136), some (.int x1)]) (st' := [.int (σ 136 18)]) (h' := hs σ) [(.aload_n 0, 1, 0, 0, 0, 0, 0, 0), (.getfield 192, 3, 11, 18, 0, 911, 0, 0)] (by decide +kernel) rfl rfl ?_
    refine XA.drop (ls := [none, none]) (by simp [leL]) ?_
    simpa only [if_pos c1] using hJ5
  · refine XA.blk (e9 := 19) (ok := true) (ls' := [some (.ref 136), some (.int x1)]) (st' := [.int (σ 136 17)]) (h' := hs σ) [(.aload_n 0, 1, 0, 0, 0, 0, 0, 0), (.getfield 214, 3, 11, 17, 0, 910, 0, 0), (.goto 7, 3, 19, 0, 0, 0, 0, 0)] (by decide +kernel) rfl rfl ?_
    refine XA.drop (ls := [none, none]) (by simp [leL]) ?_
    simpa only [if_neg (not_not_intro c1)] using hJ5
theorem E_X11_sumOf {scr : ScA}  {x1 : Int32} {σ : Nat → Nat → Int32} {P : Int32 → (Nat → Nat → Int32) → Prop} (h : K_X11_sumOf_0 scr x1 σ P) : CiA scr 7 mX11_sumOf [.ref 136, .int x1] σ P := CtA.of (by decide) (Nat.le_of_ble_eq_true rfl) (XA.drop (by simp [leL, enL]) h)
def K_X11_sum_0 (scr : ScA)  (x1 : Int32) (σ : Nat → Nat → Int32) (P : Int32 → (Nat → Nat → Int32) → Prop) : Prop := XA scr 8 mX11_sum 172 4705 0 [some (.ref 136), some (.int x1)] [] (hs σ) (pI P)
def K_X11_sum_12 (scr : ScA)  (y0 : Int32) (σ : Nat → Nat → Int32) (P : Int32 → (Nat → Nat → Int32) → Prop) : Prop := XA scr 8 mX11_sum 172 4705 12 [none, none] [.int y0] (hs σ) (pI P)
set_option maxRecDepth 20000 in
theorem W_X11_sum_0 {scr : ScA}   {x1 : Int32}  {σ : Nat → Nat → Int32} {P : Int32 → (Nat → Nat → Int32) → Prop} (H : ((inV x1 0 1) = 0 → P (-2) σ) ∧ (¬ (inV x1 0 1) = 0 → CiA scr 7 mX11_sumOf [.ref 136, .int x1] σ (fun r9 σ' => K_X11_sum_12 scr r9 σ' P))) : K_X11_sum_0 scr x1 σ P := by
  show XA scr 8 mX11_sum 172 4705 0 [some (.ref 136), some (.int x1)] [] (hs σ) (pI P)
  refine XA.blk (e9 := 1) (ok := true) (ls' := [some (.ref 136), some (.int x1)]) (st' := [.int x1]) (h' := hs σ) [(.iload_n 1, 1, 1, 0, 0, 0, 0, 0)] (by decide +kernel) rfl rfl ?_
  refine XA.callS (as := [.int x1]) (rest := []) (mc' := 0) (ms' := 0) (idx := 256) (t := 1203) cs_X11_isTwo (by decide +kernel) rfl rfl (Nat.le_of_ble_eq_true rfl) (Nat.le_of_ble_eq_true rfl) (Nat.le_of_ble_eq_true rfl) (Nat.le_of_ble_eq_true rfl) (pu_X11_isTwo scr σ x1) (fun rv h' hp => ?_)
  obtain ⟨rfl, rfl⟩ := hp
  refine ⟨rfl, rfl, ?_⟩
  show XA scr 8 mX11_sum 172 4705 4 [some (.ref 136), some (.int x1)] [.int (inV x1 0 1)] (hs σ) (pI P)
  refine XA.if_eq (11) 15 (by decide +kernel) (fun c1 => ?_) (fun c1 => ?_)
  · have H := H.1 c1
    refine XA.blk (e9 := 17) (ok := true) (ls' := [some (.ref 136), some (.int x1)]) (st' := [.int (-2)]) (h' := hs σ) [(.bipush (-2), 2, 0, 0, 0, 0, (-2), 0)] (by decide +kernel) rfl rfl ?_
    exact XA.ret (some (.int (-2))) rfl (show ckRt mX11_sum 17 .ireturn = true by decide +kernel) trivial (Nat.le_of_ble_eq_true rfl) (Nat.le_of_ble_eq_true rfl) ⟨_, _, rfl, rfl, H⟩
  · have H := H.2 c1
    refine XA.blk (e9 := 9) (ok := true) (ls' := [some (.ref 136), some (.int x1)]) (st' := [.int x1, .ref 136]) (h' := hs σ) [(.aload_n 0, 1, 0, 0, 0, 0, 0, 0), (.iload_n 1, 1, 1, 0, 0, 0, 0, 0)] (by decide +kernel) rfl rfl ?_
    refine XA.callV (as := [.int x1]) (rest := []) (mc' := 0) (ms' := 0) (idx := 262) (t := 1214) cv_X11_sumOf (by decide +kernel) rfl rfl rfl (Nat.le_of_ble_eq_true rfl) (Nat.le_of_ble_eq_true rfl) (Nat.le_of_ble_eq_true rfl) (Nat.le_of_ble_eq_true rfl) (H) (fun rv h' hp => ?_)
    obtain ⟨r9, s9, rfl, rfl, hK⟩ := hp
    exact ⟨rfl, rfl, XA.drop (by simp [leL]) hK⟩
set_option maxRecDepth 20000 in
theorem W_X11_sum_12 {scr : ScA}   {y0 : Int32}  {σ : Nat → Nat → Int32} {P : Int32 → (Nat → Nat → Int32) → Prop} (H : P y0 σ) : K_X11_sum_12 scr y0 σ P := by
  show XA scr 8 mX11_sum 172 4705 12 [none, none] [.int y0] (hs σ) (pI P)
  refine XA.blk (e9 := 17) (ok := true) (ls' := [none, none]) (st' := [.int y0]) (h' := hs σ) [(.goto 5, 3, 17, 0, 0, 0, 0, 0)] (by decide +kernel) rfl rfl ?_
  exact XA.ret (some (.int y0)) rfl (show ckRt mX11_sum 17 .ireturn = true by decide +kernel) trivial (Nat.le_of_ble_eq_true rfl) (Nat.le_of_ble_eq_true rfl) ⟨_, _, rfl, rfl, H⟩
theorem E_X11_sum {scr : ScA}  {x1 : Int32} {σ : Nat → Nat → Int32} {P : Int32 → (Nat → Nat → Int32) → Prop} (h : K_X11_sum_0 scr x1 σ P) : CiA scr 8 mX11_sum [.ref 136, .int x1] σ P := CtA.of (by decide) (Nat.le_of_ble_eq_true rfl) (XA.drop (by simp [leL, enL]) h)
def K_X11_topOf_0 (scr : ScA)  (x1 : Int32) (σ : Nat → Nat → Int32) (P : Int32 → (Nat → Nat → Int32) → Prop) : Prop := XA scr 7 mX11_topOf 172 4705 0 [some (.ref 136), some (.int x1)] [] (hs σ) (pI P)
def K_X11_topOf_4 (scr : ScA)  (x1 : Int32) (σ : Nat → Nat → Int32) (P : Int32 → (Nat → Nat → Int32) → Prop) : Prop := XA scr 7 mX11_topOf 172 4705 4 [some (.ref 136), some (.int x1)] [] (hs σ) (pI P)
set_option maxRecDepth 20000 in
theorem W_X11_topOf_0 {scr : ScA}   {x1 : Int32}  {σ : Nat → Nat → Int32} {P : Int32 → (Nat → Nat → Int32) → Prop} (H : CvA scr 6 mX11_runsTold [.ref 136] σ (fun σ' => K_X11_topOf_4 scr x1 σ' P)) : K_X11_topOf_0 scr x1 σ P := by
  show XA scr 7 mX11_topOf 172 4705 0 [some (.ref 136), some (.int x1)] [] (hs σ) (pI P)
  refine XA.blk (e9 := 1) (ok := true) (ls' := [some (.ref 136), some (.int x1)]) (st' := [.ref 136]) (h' := hs σ) [(.aload_n 0, 1, 0, 0, 0, 0, 0, 0)] (by decide +kernel) rfl rfl ?_
  refine XA.callV (as := []) (rest := []) (mc' := 0) (ms' := 0) (idx := 247) (t := 1145) cv_X11_runsTold (by decide +kernel) rfl rfl rfl (Nat.le_of_ble_eq_true rfl) (Nat.le_of_ble_eq_true rfl) (Nat.le_of_ble_eq_true rfl) (Nat.le_of_ble_eq_true rfl) (H) (fun rv h' hp => ?_)
  obtain ⟨s9, rfl, rfl, hK⟩ := hp
  exact ⟨rfl, rfl, hK⟩
set_option maxRecDepth 20000 in
theorem W_X11_topOf_4 {scr : ScA}   {x1 : Int32}  {σ : Nat → Nat → Int32} {P : Int32 → (Nat → Nat → Int32) → Prop} (H : P (if ¬ x1 = 0 then σ 136 23 else σ 136 22 : Int32) σ) : K_X11_topOf_4 scr x1 σ P := by
  show XA scr 7 mX11_topOf 172 4705 4 [some (.ref 136), some (.int x1)] [] (hs σ) (pI P)
  refine XA.blk (e9 := 5) (ok := true) (ls' := [some (.ref 136), some (.int x1)]) (st' := [.int x1]) (h' := hs σ) [(.iload_n 1, 1, 1, 0, 0, 0, 0, 0)] (by decide +kernel) rfl rfl ?_
  have hJ5 : XA scr 7 mX11_topOf 172 4705 19 [none, none] [.int (if ¬ x1 = 0 then σ 136 23 else σ 136 22 : Int32)] (hs σ) (pI P) := by
    exact XA.ret (some (.int (if ¬ x1 = 0 then σ 136 23 else σ 136 22 : Int32))) rfl (show ckRt mX11_topOf 19 .ireturn = true by decide +kernel) trivial (Nat.le_of_ble_eq_true rfl) (Nat.le_of_ble_eq_true rfl) ⟨_, _, rfl, rfl, H⟩
  refine XA.if_ne (10) 15 (by decide +kernel) (fun c1 => ?_) (fun c1 => ?_)
  · refine XA.blk (e9 := 19) (ok := true) (ls' := [some (.ref 136), some (.int x1)]) (st' := [.int (σ 136 23)]) (h' := hs σ) [(.aload_n 0, 1, 0, 0, 0, 0, 0, 0), (.getfield 226, 3, 11, 23, 0, 916, 0, 0)] (by decide +kernel) rfl rfl ?_
    refine XA.drop (ls := [none, none]) (by simp [leL]) ?_
    simpa only [if_pos c1] using hJ5
  · refine XA.blk (e9 := 19) (ok := true) (ls' := [some (.ref 136), some (.int x1)]) (st' := [.int (σ 136 22)]) (h' := hs σ) [(.aload_n 0, 1, 0, 0, 0, 0, 0, 0), (.getfield 223, 3, 11, 22, 0, 915, 0, 0), (.goto 7, 3, 19, 0, 0, 0, 0, 0)] (by decide +kernel) rfl rfl ?_
    refine XA.drop (ls := [none, none]) (by simp [leL]) ?_
    simpa only [if_neg (not_not_intro c1)] using hJ5
theorem E_X11_topOf {scr : ScA}  {x1 : Int32} {σ : Nat → Nat → Int32} {P : Int32 → (Nat → Nat → Int32) → Prop} (h : K_X11_topOf_0 scr x1 σ P) : CiA scr 7 mX11_topOf [.ref 136, .int x1] σ P := CtA.of (by decide) (Nat.le_of_ble_eq_true rfl) (XA.drop (by simp [leL, enL]) h)
def K_X11_top_0 (scr : ScA)  (x1 : Int32) (σ : Nat → Nat → Int32) (P : Int32 → (Nat → Nat → Int32) → Prop) : Prop := XA scr 8 mX11_top 172 4705 0 [some (.ref 136), some (.int x1)] [] (hs σ) (pI P)
def K_X11_top_12 (scr : ScA)  (y0 : Int32) (σ : Nat → Nat → Int32) (P : Int32 → (Nat → Nat → Int32) → Prop) : Prop := XA scr 8 mX11_top 172 4705 12 [none, none] [.int y0] (hs σ) (pI P)
set_option maxRecDepth 20000 in
theorem W_X11_top_0 {scr : ScA}   {x1 : Int32}  {σ : Nat → Nat → Int32} {P : Int32 → (Nat → Nat → Int32) → Prop} (H : ((inV x1 0 1) = 0 → P (-2) σ) ∧ (¬ (inV x1 0 1) = 0 → CiA scr 7 mX11_topOf [.ref 136, .int x1] σ (fun r9 σ' => K_X11_top_12 scr r9 σ' P))) : K_X11_top_0 scr x1 σ P := by
  show XA scr 8 mX11_top 172 4705 0 [some (.ref 136), some (.int x1)] [] (hs σ) (pI P)
  refine XA.blk (e9 := 1) (ok := true) (ls' := [some (.ref 136), some (.int x1)]) (st' := [.int x1]) (h' := hs σ) [(.iload_n 1, 1, 1, 0, 0, 0, 0, 0)] (by decide +kernel) rfl rfl ?_
  refine XA.callS (as := [.int x1]) (rest := []) (mc' := 0) (ms' := 0) (idx := 256) (t := 1203) cs_X11_isTwo (by decide +kernel) rfl rfl (Nat.le_of_ble_eq_true rfl) (Nat.le_of_ble_eq_true rfl) (Nat.le_of_ble_eq_true rfl) (Nat.le_of_ble_eq_true rfl) (pu_X11_isTwo scr σ x1) (fun rv h' hp => ?_)
  obtain ⟨rfl, rfl⟩ := hp
  refine ⟨rfl, rfl, ?_⟩
  show XA scr 8 mX11_top 172 4705 4 [some (.ref 136), some (.int x1)] [.int (inV x1 0 1)] (hs σ) (pI P)
  refine XA.if_eq (11) 15 (by decide +kernel) (fun c1 => ?_) (fun c1 => ?_)
  · have H := H.1 c1
    refine XA.blk (e9 := 17) (ok := true) (ls' := [some (.ref 136), some (.int x1)]) (st' := [.int (-2)]) (h' := hs σ) [(.bipush (-2), 2, 0, 0, 0, 0, (-2), 0)] (by decide +kernel) rfl rfl ?_
    exact XA.ret (some (.int (-2))) rfl (show ckRt mX11_top 17 .ireturn = true by decide +kernel) trivial (Nat.le_of_ble_eq_true rfl) (Nat.le_of_ble_eq_true rfl) ⟨_, _, rfl, rfl, H⟩
  · have H := H.2 c1
    refine XA.blk (e9 := 9) (ok := true) (ls' := [some (.ref 136), some (.int x1)]) (st' := [.int x1, .ref 136]) (h' := hs σ) [(.aload_n 0, 1, 0, 0, 0, 0, 0, 0), (.iload_n 1, 1, 1, 0, 0, 0, 0, 0)] (by decide +kernel) rfl rfl ?_
    refine XA.callV (as := [.int x1]) (rest := []) (mc' := 0) (ms' := 0) (idx := 265) (t := 1222) cv_X11_topOf (by decide +kernel) rfl rfl rfl (Nat.le_of_ble_eq_true rfl) (Nat.le_of_ble_eq_true rfl) (Nat.le_of_ble_eq_true rfl) (Nat.le_of_ble_eq_true rfl) (H) (fun rv h' hp => ?_)
    obtain ⟨r9, s9, rfl, rfl, hK⟩ := hp
    exact ⟨rfl, rfl, XA.drop (by simp [leL]) hK⟩
set_option maxRecDepth 20000 in
theorem W_X11_top_12 {scr : ScA}   {y0 : Int32}  {σ : Nat → Nat → Int32} {P : Int32 → (Nat → Nat → Int32) → Prop} (H : P y0 σ) : K_X11_top_12 scr y0 σ P := by
  show XA scr 8 mX11_top 172 4705 12 [none, none] [.int y0] (hs σ) (pI P)
  refine XA.blk (e9 := 17) (ok := true) (ls' := [none, none]) (st' := [.int y0]) (h' := hs σ) [(.goto 5, 3, 17, 0, 0, 0, 0, 0)] (by decide +kernel) rfl rfl ?_
  exact XA.ret (some (.int y0)) rfl (show ckRt mX11_top 17 .ireturn = true by decide +kernel) trivial (Nat.le_of_ble_eq_true rfl) (Nat.le_of_ble_eq_true rfl) ⟨_, _, rfl, rfl, H⟩
theorem E_X11_top {scr : ScA}  {x1 : Int32} {σ : Nat → Nat → Int32} {P : Int32 → (Nat → Nat → Int32) → Prop} (h : K_X11_top_0 scr x1 σ P) : CiA scr 8 mX11_top [.ref 136, .int x1] σ P := CtA.of (by decide) (Nat.le_of_ble_eq_true rfl) (XA.drop (by simp [leL, enL]) h)
def K_X11_mostOf_0 (scr : ScA)  (x1 : Int32) (σ : Nat → Nat → Int32) (P : Int32 → (Nat → Nat → Int32) → Prop) : Prop := XA scr 7 mX11_mostOf 172 4705 0 [some (.ref 136), some (.int x1)] [] (hs σ) (pI P)
def K_X11_mostOf_4 (scr : ScA)  (x1 : Int32) (σ : Nat → Nat → Int32) (P : Int32 → (Nat → Nat → Int32) → Prop) : Prop := XA scr 7 mX11_mostOf 172 4705 4 [some (.ref 136), some (.int x1)] [] (hs σ) (pI P)
set_option maxRecDepth 20000 in
theorem W_X11_mostOf_0 {scr : ScA}   {x1 : Int32}  {σ : Nat → Nat → Int32} {P : Int32 → (Nat → Nat → Int32) → Prop} (H : CvA scr 6 mX11_runsTold [.ref 136] σ (fun σ' => K_X11_mostOf_4 scr x1 σ' P)) : K_X11_mostOf_0 scr x1 σ P := by
  show XA scr 7 mX11_mostOf 172 4705 0 [some (.ref 136), some (.int x1)] [] (hs σ) (pI P)
  refine XA.blk (e9 := 1) (ok := true) (ls' := [some (.ref 136), some (.int x1)]) (st' := [.ref 136]) (h' := hs σ) [(.aload_n 0, 1, 0, 0, 0, 0, 0, 0)] (by decide +kernel) rfl rfl ?_
  refine XA.callV (as := []) (rest := []) (mc' := 0) (ms' := 0) (idx := 247) (t := 1145) cv_X11_runsTold (by decide +kernel) rfl rfl rfl (Nat.le_of_ble_eq_true rfl) (Nat.le_of_ble_eq_true rfl) (Nat.le_of_ble_eq_true rfl) (Nat.le_of_ble_eq_true rfl) (H) (fun rv h' hp => ?_)
  obtain ⟨s9, rfl, rfl, hK⟩ := hp
  exact ⟨rfl, rfl, hK⟩
set_option maxRecDepth 20000 in
theorem W_X11_mostOf_4 {scr : ScA}   {x1 : Int32}  {σ : Nat → Nat → Int32} {P : Int32 → (Nat → Nat → Int32) → Prop} (H : P (if ¬ x1 = 0 then σ 136 21 else σ 136 20 : Int32) σ) : K_X11_mostOf_4 scr x1 σ P := by
  show XA scr 7 mX11_mostOf 172 4705 4 [some (.ref 136), some (.int x1)] [] (hs σ) (pI P)
  refine XA.blk (e9 := 5) (ok := true) (ls' := [some (.ref 136), some (.int x1)]) (st' := [.int x1]) (h' := hs σ) [(.iload_n 1, 1, 1, 0, 0, 0, 0, 0)] (by decide +kernel) rfl rfl ?_
  have hJ5 : XA scr 7 mX11_mostOf 172 4705 19 [none, none] [.int (if ¬ x1 = 0 then σ 136 21 else σ 136 20 : Int32)] (hs σ) (pI P) := by
    exact XA.ret (some (.int (if ¬ x1 = 0 then σ 136 21 else σ 136 20 : Int32))) rfl (show ckRt mX11_mostOf 19 .ireturn = true by decide +kernel) trivial (Nat.le_of_ble_eq_true rfl) (Nat.le_of_ble_eq_true rfl) ⟨_, _, rfl, rfl, H⟩
  refine XA.if_ne (10) 15 (by decide +kernel) (fun c1 => ?_) (fun c1 => ?_)
  · refine XA.blk (e9 := 19) (ok := true) (ls' := [some (.ref 136), some (.int x1)]) (st' := [.int (σ 136 21)]) (h' := hs σ) [(.aload_n 0, 1, 0, 0, 0, 0, 0, 0), (.getfield 220, 3, 11, 21, 0, 914, 0, 0)] (by decide +kernel) rfl rfl ?_
    refine XA.drop (ls := [none, none]) (by simp [leL]) ?_
    simpa only [if_pos c1] using hJ5
  · refine XA.blk (e9 := 19) (ok := true) (ls' := [some (.ref 136), some (.int x1)]) (st' := [.int (σ 136 20)]) (h' := hs σ) [(.aload_n 0, 1, 0, 0, 0, 0, 0, 0), (.getfield 217, 3, 11, 20, 0, 913, 0, 0), (.goto 7, 3, 19, 0, 0, 0, 0, 0)] (by decide +kernel) rfl rfl ?_
    refine XA.drop (ls := [none, none]) (by simp [leL]) ?_
    simpa only [if_neg (not_not_intro c1)] using hJ5
theorem E_X11_mostOf {scr : ScA}  {x1 : Int32} {σ : Nat → Nat → Int32} {P : Int32 → (Nat → Nat → Int32) → Prop} (h : K_X11_mostOf_0 scr x1 σ P) : CiA scr 7 mX11_mostOf [.ref 136, .int x1] σ P := CtA.of (by decide) (Nat.le_of_ble_eq_true rfl) (XA.drop (by simp [leL, enL]) h)
