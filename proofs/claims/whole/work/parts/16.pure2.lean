/-! the small functions that call small functions -/
theorem lit_nI (n : Nat) : (OfNat.ofNat n : Int32) = nI n := rfl
theorem isW_in {i b : Int32} (n : Nat) (hb : b = nI n) (hn : n < 2 ^ 31) (h : ¬ isW i b = 0) : inB i n = true := by
  unfold isW at h
  by_cases h1 : i < 0
  · rw [if_pos h1] at h; exact absurd rfl h
  · rw [if_neg h1] at h
    by_cases h2 : b ≤ i
    · rw [if_pos h2] at h; exact absurd rfl h
    · rw [hb] at h2
      rw [inB_iff]
      rcases pk_ix i hn with q | q | ⟨j, hj, rfl⟩
      · exact absurd q h1
      · exact absurd q h2
      · exact vp_in_nI hj hn
theorem pu_X11_isMoment (scr : ScA) (σ : Sg) (i : Int32) : CpI scr 1 mX11_isMoment [.int i] σ (inV i 0 23) := CpI.of (E_X11_isMoment (W_X11_isMoment_0 ⟨inV01 i 0 23, rfl, rfl⟩))
theorem pu_X11_isTen (scr : ScA) (σ : Sg) (i : Int32) : CpI scr 1 mX11_isTen [.int i] σ (inV i 0 9) := CpI.of (E_X11_isTen (W_X11_isTen_0 ⟨inV01 i 0 9, rfl, rfl⟩))
theorem pu_X11_isTwo (scr : ScA) (σ : Sg) (i : Int32) : CpI scr 1 mX11_isTwo [.int i] σ (inV i 0 1) := CpI.of (E_X11_isTwo (W_X11_isTwo_0 ⟨inV01 i 0 1, rfl, rfl⟩))
theorem pu_X11_isThree (scr : ScA) (σ : Sg) (i : Int32) : CpI scr 1 mX11_isThree [.int i] σ (inV i 0 2) := CpI.of (E_X11_isThree (W_X11_isThree_0 ⟨inV01 i 0 2, rfl, rfl⟩))
theorem pu_X11_isSheet (scr : ScA) (σ : Sg) (i : Int32) : CpI scr 1 mX11_isSheet [.int i] σ (inV i 0 3) := CpI.of (E_X11_isSheet (W_X11_isSheet_0 ⟨inV01 i 0 3, rfl, rfl⟩))
theorem pu_X11_isUp (scr : ScA) (σ : Sg) (i : Int32) : CpI scr 1 mX11_isUp [.ref 136, .int i] σ (iiV (σ 136 25) i) := CpI.of (E_X11_isUp (W_X11_isUp_0 ⟨iiV01 (σ 136 25) i, rfl, rfl⟩))
def laV (σ : Sg) (s f i : Int32) : Int32 := if ¬ (σ 167 (Int32.toNatClampNeg s)) = 0 then if (σ 168 (Int32.toNatClampNeg s)) = f then if (inV i 0 ((σ 169 (Int32.toNatClampNeg s)) - 1)) = 0 then 2 else 0 else 3 else 1
theorem pu_X11_lacks (scr : ScA) (σ : Sg) (s f i : Int32) (h : inB s 4 = true) : CpI scr 1 mX11_lacks [.ref 136, .int s, .int f, .int i] σ (laV σ s f i) := CpI.of (E_X11_lacks (W_X11_lacks_0 ⟨h, rfl, rfl⟩))
def itV (σ : Sg) (k : Nat) (i : Int32) : Int32 := if isW i 60 = 0 then 0 else σ (k + 1) (Int32.toNatClampNeg i)
theorem pu_X4_item (scr : ScA) (σ : Sg) {k : Nat} (hk : isSe k) (i : Int32) : CpI scr 1 mX4_item [.ref k, .int i] σ (itV σ k i) := CpI.of (E_X4_item (W_X4_item_0 hk ⟨isW_in 60 rfl (by decide), rfl, rfl⟩))
def wfV (σ : Sg) (k : Nat) (f i : Int32) : Int32 := if σ k 3 = 0 then (if f = σ k 1 then (if isW i (σ k 2) = 0 then 2 else 0) else 3) else 1
theorem pu_X4_whatFails (scr : ScA) (σ : Sg) {k : Nat} (hk : isSe k) (f i : Int32) : CpI scr 1 mX4_whatFails [.ref k, .int f, .int i] σ (wfV σ k f i) := CpI.of (E_X4_whatFails (W_X4_whatFails_0 hk ⟨fun h1 => ⟨fun h2 => ⟨by unfold wfV; rw [if_pos h1, if_pos h2], rfl⟩, fun h2 => ⟨by unfold wfV; rw [if_pos h1, if_neg h2], rfl⟩⟩, fun h1 => ⟨by unfold wfV; rw [if_neg h1], rfl⟩⟩))
def whV (σ : Sg) (k q : Nat) (m p : Int32) : Int32 := if isW m 24 = 0 then (-1) else if isW p 10 = 0 then (-1) else if hbV (σ (k + 1) (Int32.toNatClampNeg m)) p = 0 then (-1) else σ (q + 6) (Int32.toNatClampNeg p)
theorem pu_X5_whoIsAt (scr : ScA) (σ : Sg) {k q : Nat} (hk : isSw k) (hq : isTr q) (m p : Int32) : CpI scr 1 mX5_whoIsAt [.ref k, .ref q, .int m, .int p] σ (whV σ k q m p) := CpI.of (E_X5_whoIsAt (W_X5_whoIsAt_0 hk hq ⟨fun h1 => ⟨by unfold whV; rw [if_pos h1], rfl⟩, fun h1 => ⟨fun h2 => ⟨by unfold whV; rw [if_neg h1, if_pos h2], rfl⟩, fun h2 => ⟨isW_in 24 rfl (by decide) h1, fun h3 => ⟨isW_in 10 rfl (by decide) h2, by unfold whV; rw [if_neg h1, if_neg h2, if_neg h3], rfl⟩, fun h3 => ⟨by unfold whV; rw [if_neg h1, if_neg h2, if_pos h3], rfl⟩⟩⟩⟩))
def soV (σ : Sg) (k q : Nat) (a m : Int32) : Int32 := if (σ (q + 4) (Int32.toNatClampNeg a)) ≤ m then (if (hbV (σ k 6) (σ (q + 5) (Int32.toNatClampNeg a))) = 0 then (if (σ (k + 4) (Int32.toNatClampNeg a)) < m then 1 else 3) else 2) else 0
theorem pu_X5_stateOf (scr : ScA) (σ : Sg) {k q : Nat} (hk : isSw k) (hq : isTr q) (a m : Int32) (h : inB a 10 = true) : CpI scr 1 mX5_stateOf [.ref k, .ref q, .int a, .int m] σ (soV σ k q a m) := CpI.of (E_X5_stateOf (W_X5_stateOf_0 hk hq ⟨h, fun h1 => ⟨fun h2 => ⟨by unfold soV; rw [if_pos h1, if_pos h2], rfl⟩, fun h2 => ⟨by unfold soV; rw [if_pos h1, if_neg h2], rfl⟩⟩, fun h1 => ⟨by unfold soV; rw [if_neg h1], rfl⟩⟩))
