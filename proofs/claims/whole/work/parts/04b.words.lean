theorem inL0 : ∀ w ∈ u_ws RX0 TX0 4, w ∈ gwT := by
  have e : u_ws RX0 TX0 4 = ([284, 286, 288, 290] : List Nat).filterMap (fun i => lw_tbl[i]?) := by decide +kernel
  have g : (u_ws RX0 TX0 4).all goodWord = true := by decide +kernel
  intro w hw
  have hg := List.all_eq_true.mp g w hw
  rw [e] at hw
  obtain ⟨i, -, hi⟩ := List.mem_filterMap.mp hw
  exact List.mem_filter.mpr ⟨List.mem_of_getElem? hi, hg⟩
theorem inL1 : ∀ w ∈ u_ws RX1 TX1 4, w ∈ gwT := by
  have e : u_ws RX1 TX1 4 = ([176, 178, 180, 182] : List Nat).filterMap (fun i => lw_tbl[i]?) := by decide +kernel
  have g : (u_ws RX1 TX1 4).all goodWord = true := by decide +kernel
  intro w hw
  have hg := List.all_eq_true.mp g w hw
  rw [e] at hw
  obtain ⟨i, -, hi⟩ := List.mem_filterMap.mp hw
  exact List.mem_filter.mpr ⟨List.mem_of_getElem? hi, hg⟩
theorem inL2 : ∀ w ∈ u_ws RX2 TX2 7, w ∈ gwT := by
  have e : u_ws RX2 TX2 7 = ([336, 338, 340, 342, 344, 346, 348] : List Nat).filterMap (fun i => lw_tbl[i]?) := by decide +kernel
  have g : (u_ws RX2 TX2 7).all goodWord = true := by decide +kernel
  intro w hw
  have hg := List.all_eq_true.mp g w hw
  rw [e] at hw
  obtain ⟨i, -, hi⟩ := List.mem_filterMap.mp hw
  exact List.mem_filter.mpr ⟨List.mem_of_getElem? hi, hg⟩
theorem inL3 : ∀ w ∈ u_ws RX3 TX3 5, w ∈ gwT := by
  have e : u_ws RX3 TX3 5 = ([299, 301, 303, 305, 307] : List Nat).filterMap (fun i => lw_tbl[i]?) := by decide +kernel
  have g : (u_ws RX3 TX3 5).all goodWord = true := by decide +kernel
  intro w hw
  have hg := List.all_eq_true.mp g w hw
  rw [e] at hw
  obtain ⟨i, -, hi⟩ := List.mem_filterMap.mp hw
  exact List.mem_filter.mpr ⟨List.mem_of_getElem? hi, hg⟩
theorem inL4 : ∀ w ∈ u_ws RX4 TX4 4, w ∈ gwT := by
  have e : u_ws RX4 TX4 4 = ([389, 391, 393, 395] : List Nat).filterMap (fun i => lw_tbl[i]?) := by decide +kernel
  have g : (u_ws RX4 TX4 4).all goodWord = true := by decide +kernel
  intro w hw
  have hg := List.all_eq_true.mp g w hw
  rw [e] at hw
  obtain ⟨i, -, hi⟩ := List.mem_filterMap.mp hw
  exact List.mem_filter.mpr ⟨List.mem_of_getElem? hi, hg⟩
theorem inL5 : ∀ w ∈ u_ws RX5 TX5 13, w ∈ gwT := by
  have e : u_ws RX5 TX5 13 = ([234, 236, 238, 240, 242, 244, 246, 248, 250, 252, 254, 256, 258] : List Nat).filterMap (fun i => lw_tbl[i]?) := by decide +kernel
  have g : (u_ws RX5 TX5 13).all goodWord = true := by decide +kernel
  intro w hw
  have hg := List.all_eq_true.mp g w hw
  rw [e] at hw
  obtain ⟨i, -, hi⟩ := List.mem_filterMap.mp hw
  exact List.mem_filter.mpr ⟨List.mem_of_getElem? hi, hg⟩
theorem inL6 : ∀ w ∈ u_ws RX6 TX6 4, w ∈ gwT := by
  have e : u_ws RX6 TX6 4 = ([196, 198, 200, 202] : List Nat).filterMap (fun i => lw_tbl[i]?) := by decide +kernel
  have g : (u_ws RX6 TX6 4).all goodWord = true := by decide +kernel
  intro w hw
  have hg := List.all_eq_true.mp g w hw
  rw [e] at hw
  obtain ⟨i, -, hi⟩ := List.mem_filterMap.mp hw
  exact List.mem_filter.mpr ⟨List.mem_of_getElem? hi, hg⟩
theorem inL7 : ∀ w ∈ u_ws RX7 TX7 2, w ∈ gwT := by
  have e : u_ws RX7 TX7 2 = ([98, 100] : List Nat).filterMap (fun i => lw_tbl[i]?) := by decide +kernel
  have g : (u_ws RX7 TX7 2).all goodWord = true := by decide +kernel
  intro w hw
  have hg := List.all_eq_true.mp g w hw
  rw [e] at hw
  obtain ⟨i, -, hi⟩ := List.mem_filterMap.mp hw
  exact List.mem_filter.mpr ⟨List.mem_of_getElem? hi, hg⟩
theorem inL8 : ∀ w ∈ u_ws RX8 TX8 7, w ∈ gwT := by
  have e : u_ws RX8 TX8 7 = ([144, 146, 148, 150, 152, 154, 156] : List Nat).filterMap (fun i => lw_tbl[i]?) := by decide +kernel
  have g : (u_ws RX8 TX8 7).all goodWord = true := by decide +kernel
  intro w hw
  have hg := List.all_eq_true.mp g w hw
  rw [e] at hw
  obtain ⟨i, -, hi⟩ := List.mem_filterMap.mp hw
  exact List.mem_filter.mpr ⟨List.mem_of_getElem? hi, hg⟩
theorem inL9 : ∀ w ∈ u_ws RX9 TX9 4, w ∈ gwT := by
  have e : u_ws RX9 TX9 4 = ([365, 367, 369, 371] : List Nat).filterMap (fun i => lw_tbl[i]?) := by decide +kernel
  have g : (u_ws RX9 TX9 4).all goodWord = true := by decide +kernel
  intro w hw
  have hg := List.all_eq_true.mp g w hw
  rw [e] at hw
  obtain ⟨i, -, hi⟩ := List.mem_filterMap.mp hw
  exact List.mem_filter.mpr ⟨List.mem_of_getElem? hi, hg⟩
theorem inL10 : ∀ w ∈ u_ws RX10 TX10 14, w ∈ gwT := by
  have e : u_ws RX10 TX10 14 = ([412, 414, 416, 418, 420, 422, 424, 426, 428, 430, 432, 434, 436, 438] : List Nat).filterMap (fun i => lw_tbl[i]?) := by decide +kernel
  have g : (u_ws RX10 TX10 14).all goodWord = true := by decide +kernel
  intro w hw
  have hg := List.all_eq_true.mp g w hw
  rw [e] at hw
  obtain ⟨i, -, hi⟩ := List.mem_filterMap.mp hw
  exact List.mem_filter.mpr ⟨List.mem_of_getElem? hi, hg⟩
theorem inL11 : ∀ w ∈ u_ws RX11 TX11 54, w ∈ gwT := by
  have e : u_ws RX11 TX11 54 = ([947, 949, 951, 953, 955, 957, 959, 961, 963, 965, 967, 969, 971, 973, 975, 977, 979, 981, 983, 985, 987, 989, 991, 993, 995, 997, 999, 1001, 1003, 1005, 1007, 1009, 1011, 1013, 1015, 1017, 1019, 1021, 1023, 1025, 1027, 1029, 1031, 1033, 1035, 1037, 1039, 1041, 1043, 1045, 1047, 1049, 1051, 1053] : List Nat).filterMap (fun i => lw_tbl[i]?) := by decide +kernel
  have g : (u_ws RX11 TX11 54).all goodWord = true := by decide +kernel
  intro w hw
  have hg := List.all_eq_true.mp g w hw
  rw [e] at hw
  obtain ⟨i, -, hi⟩ := List.mem_filterMap.mp hw
  exact List.mem_filter.mpr ⟨List.mem_of_getElem? hi, hg⟩
theorem inL {a : Nat} (ha : a < 12) : ∀ w ∈ u_ws (clF a).1 (clF a).2.1 (nF a), w ∈ gwT := by
  match a, ha with
  | 0, _ => exact inL0
  | 1, _ => exact inL1
  | 2, _ => exact inL2
  | 3, _ => exact inL3
  | 4, _ => exact inL4
  | 5, _ => exact inL5
  | 6, _ => exact inL6
  | 7, _ => exact inL7
  | 8, _ => exact inL8
  | 9, _ => exact inL9
  | 10, _ => exact inL10
  | 11, _ => exact inL11
theorem w_oi : Cond.instanceMethod Lib.objectInit ∈ gwT := inT_mem (p := 87) (by decide +kernel)
theorem w_oc : Cond.code Lib.objectInit ⟨#[0xb1]⟩ 1 none ∈ gwT := inT_mem (p := 88) (by decide +kernel)
theorem w_xs : Cond.static Lib.Math.max.name ∈ gwT := inT_mem (p := 584) (by decide +kernel)
theorem w_xi : Cond.initialized "java/lang/Math" ∈ gwT := inT_mem (p := 78) (by decide +kernel)
theorem w_xc : Cond.code Lib.Math.max.name Lib.Math.max.code 2 (some .int) ∈ gwT := inT_mem (p := 585) (by decide +kernel)
theorem w_ns : Cond.static Lib.Math.min.name ∈ gwT := inT_mem (p := 465) (by decide +kernel)
theorem w_nc : Cond.code Lib.Math.min.name Lib.Math.min.code 2 (some .int) ∈ gwT := inT_mem (p := 466) (by decide +kernel)
theorem w_yn : Cond.native arraycopyName ∈ gwT := inT_mem (p := 669) (by decide +kernel)
theorem w_ys : Cond.static arraycopyName ∈ gwT := inT_mem (p := 668) (by decide +kernel)
theorem w_yi : Cond.initialized "java/lang/System" ∈ gwT := inT_mem (p := 80) (by decide +kernel)
theorem w_ai : Cond.arrayClass .int ∈ gwT := inT_mem (p := 103) (by decide +kernel)
theorem w_ab : Cond.arrayClass .boolean ∈ gwT := inT_mem (p := 1056) (by decide +kernel)
