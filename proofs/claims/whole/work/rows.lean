section
-- ===== PART A: goes FIRST, ahead of the names: the tables' words, and 'selects' of the private methods out of them =====
/-- a private method of a class that the tables say can be made, by its rows of tables_1 -/
def lw_okq (q : MethodName × Nat) : Prop := (q.1.cls ≠ "java/lang/invoke/MethodHandle" ∧ q.1.cls ≠ "java/lang/invoke/VarHandle") ∧ Cond.instantiable q.1.cls q.2 ∈ tables_1 ∧ Cond.privateMethod q.1 ∈ tables_1 ∧ Cond.instanceMethod q.1 ∈ tables_1
theorem lw_p0 : lw_okq (⟨"HumanPyramid", "castAnew", "()V"⟩, 14) := ⟨⟨by decide +kernel, by decide +kernel⟩, List.mem_of_getElem? (i := 18) (by decide +kernel), List.mem_of_getElem? (i := 389) (by decide +kernel), List.mem_of_getElem? (i := 390) (by decide +kernel)⟩
theorem lw_p1 : lw_okq (⟨"HumanPyramid", "forgetAnswers", "()V"⟩, 14) := ⟨⟨by decide +kernel, by decide +kernel⟩, List.mem_of_getElem? (i := 18) (by decide +kernel), List.mem_of_getElem? (i := 416) (by decide +kernel), List.mem_of_getElem? (i := 417) (by decide +kernel)⟩
theorem lw_p2 : lw_okq (⟨"HumanPyramid", "finding", "(I)I"⟩, 14) := ⟨⟨by decide +kernel, by decide +kernel⟩, List.mem_of_getElem? (i := 18) (by decide +kernel), List.mem_of_getElem? (i := 461) (by decide +kernel), List.mem_of_getElem? (i := 462) (by decide +kernel)⟩
theorem lw_p3 : lw_okq (⟨"HumanPyramid", "played", "()LHumanPyramid$Show;"⟩, 14) := ⟨⟨by decide +kernel, by decide +kernel⟩, List.mem_of_getElem? (i := 18) (by decide +kernel), List.mem_of_getElem? (i := 475) (by decide +kernel), List.mem_of_getElem? (i := 476) (by decide +kernel)⟩
theorem lw_p4 : lw_okq (⟨"HumanPyramid$Show", "begin", "()V"⟩, 13) := ⟨⟨by decide +kernel, by decide +kernel⟩, List.mem_of_getElem? (i := 142) (by decide +kernel), List.mem_of_getElem? (i := 487) (by decide +kernel), List.mem_of_getElem? (i := 488) (by decide +kernel)⟩
theorem lw_p5 : lw_okq (⟨"HumanPyramid$Show", "gather", "(LHumanPyramid$Events;II)V"⟩, 13) := ⟨⟨by decide +kernel, by decide +kernel⟩, List.mem_of_getElem? (i := 142) (by decide +kernel), List.mem_of_getElem? (i := 492) (by decide +kernel), List.mem_of_getElem? (i := 493) (by decide +kernel)⟩
theorem lw_p6 : lw_okq (⟨"HumanPyramid$Show", "sneezing", "(LHumanPyramid$Troupe;)I"⟩, 13) := ⟨⟨by decide +kernel, by decide +kernel⟩, List.mem_of_getElem? (i := 142) (by decide +kernel), List.mem_of_getElem? (i := 499) (by decide +kernel), List.mem_of_getElem? (i := 500) (by decide +kernel)⟩
theorem lw_p7 : lw_okq (⟨"HumanPyramid$Show", "topple", "(LHumanPyramid$Troupe;II)V"⟩, 13) := ⟨⟨by decide +kernel, by decide +kernel⟩, List.mem_of_getElem? (i := 142) (by decide +kernel), List.mem_of_getElem? (i := 503) (by decide +kernel), List.mem_of_getElem? (i := 504) (by decide +kernel)⟩
theorem lw_p8 : lw_okq (⟨"HumanPyramid$Show", "applaud", "(LHumanPyramid$Troupe;)V"⟩, 13) := ⟨⟨by decide +kernel, by decide +kernel⟩, List.mem_of_getElem? (i := 142) (by decide +kernel), List.mem_of_getElem? (i := 516) (by decide +kernel), List.mem_of_getElem? (i := 517) (by decide +kernel)⟩
theorem lw_p9 : lw_okq (⟨"HumanPyramid$Show", "climb", "(LHumanPyramid$Troupe;I)V"⟩, 13) := ⟨⟨by decide +kernel, by decide +kernel⟩, List.mem_of_getElem? (i := 142) (by decide +kernel), List.mem_of_getElem? (i := 523) (by decide +kernel), List.mem_of_getElem? (i := 524) (by decide +kernel)⟩
theorem lw_p10 : lw_okq (⟨"HumanPyramid$Show", "bear", "(LHumanPyramid$Troupe;)V"⟩, 13) := ⟨⟨by decide +kernel, by decide +kernel⟩, List.mem_of_getElem? (i := 142) (by decide +kernel), List.mem_of_getElem? (i := 528) (by decide +kernel), List.mem_of_getElem? (i := 529) (by decide +kernel)⟩
theorem lw_p11 : lw_okq (⟨"HumanPyramid$Show", "tire", "(LHumanPyramid$Troupe;)I"⟩, 13) := ⟨⟨by decide +kernel, by decide +kernel⟩, List.mem_of_getElem? (i := 142) (by decide +kernel), List.mem_of_getElem? (i := 534) (by decide +kernel), List.mem_of_getElem? (i := 535) (by decide +kernel)⟩
theorem lw_p12 : lw_okq (⟨"HumanPyramid$Show", "keepFacts", "(LHumanPyramid$Troupe;I)V"⟩, 13) := ⟨⟨by decide +kernel, by decide +kernel⟩, List.mem_of_getElem? (i := 142) (by decide +kernel), List.mem_of_getElem? (i := 541) (by decide +kernel), List.mem_of_getElem? (i := 542) (by decide +kernel)⟩
theorem lw_p13 : lw_okq (⟨"HumanPyramid$Show", "stateOf", "(LHumanPyramid$Troupe;II)I"⟩, 13) := ⟨⟨by decide +kernel, by decide +kernel⟩, List.mem_of_getElem? (i := 142) (by decide +kernel), List.mem_of_getElem? (i := 545) (by decide +kernel), List.mem_of_getElem? (i := 546) (by decide +kernel)⟩
theorem lw_p14 : lw_okq (⟨"HumanPyramid$Tumbles", "firstFall", "(LHumanPyramid$Troupe;LHumanPyramid$Events;I)I"⟩, 4) := ⟨⟨by decide +kernel, by decide +kernel⟩, List.mem_of_getElem? (i := 288) (by decide +kernel), List.mem_of_getElem? (i := 649) (by decide +kernel), List.mem_of_getElem? (i := 650) (by decide +kernel)⟩
theorem lw_p15 : lw_okq (⟨"HumanPyramid$Guesses", "tellingMoment", "(I)I"⟩, 7) := ⟨⟨by decide +kernel, by decide +kernel⟩, List.mem_of_getElem? (i := 247) (by decide +kernel), List.mem_of_getElem? (i := 694) (by decide +kernel), List.mem_of_getElem? (i := 695) (by decide +kernel)⟩
def lw_privs_1 : List (MethodName × Nat) := [(⟨"HumanPyramid", "castAnew", "()V"⟩, 14), (⟨"HumanPyramid", "forgetAnswers", "()V"⟩, 14), (⟨"HumanPyramid", "finding", "(I)I"⟩, 14), (⟨"HumanPyramid", "played", "()LHumanPyramid$Show;"⟩, 14), (⟨"HumanPyramid$Show", "begin", "()V"⟩, 13), (⟨"HumanPyramid$Show", "gather", "(LHumanPyramid$Events;II)V"⟩, 13), (⟨"HumanPyramid$Show", "sneezing", "(LHumanPyramid$Troupe;)I"⟩, 13), (⟨"HumanPyramid$Show", "topple", "(LHumanPyramid$Troupe;II)V"⟩, 13), (⟨"HumanPyramid$Show", "applaud", "(LHumanPyramid$Troupe;)V"⟩, 13), (⟨"HumanPyramid$Show", "climb", "(LHumanPyramid$Troupe;I)V"⟩, 13), (⟨"HumanPyramid$Show", "bear", "(LHumanPyramid$Troupe;)V"⟩, 13), (⟨"HumanPyramid$Show", "tire", "(LHumanPyramid$Troupe;)I"⟩, 13), (⟨"HumanPyramid$Show", "keepFacts", "(LHumanPyramid$Troupe;I)V"⟩, 13), (⟨"HumanPyramid$Show", "stateOf", "(LHumanPyramid$Troupe;II)I"⟩, 13), (⟨"HumanPyramid$Tumbles", "firstFall", "(LHumanPyramid$Troupe;LHumanPyramid$Events;I)I"⟩, 4), (⟨"HumanPyramid$Guesses", "tellingMoment", "(I)I"⟩, 7)]
theorem lw_r1 : ∀ q ∈ lw_privs_1, lw_okq q := List.forall_mem_cons.mpr ⟨lw_p0, List.forall_mem_cons.mpr ⟨lw_p1, List.forall_mem_cons.mpr ⟨lw_p2, List.forall_mem_cons.mpr ⟨lw_p3, List.forall_mem_cons.mpr ⟨lw_p4, List.forall_mem_cons.mpr ⟨lw_p5, List.forall_mem_cons.mpr ⟨lw_p6, List.forall_mem_cons.mpr ⟨lw_p7, List.forall_mem_cons.mpr ⟨lw_p8, List.forall_mem_cons.mpr ⟨lw_p9, List.forall_mem_cons.mpr ⟨lw_p10, List.forall_mem_cons.mpr ⟨lw_p11, List.forall_mem_cons.mpr ⟨lw_p12, List.forall_mem_cons.mpr ⟨lw_p13, List.forall_mem_cons.mpr ⟨lw_p14, List.forall_mem_cons.mpr ⟨lw_p15, fun _ h => absurd h List.not_mem_nil⟩⟩⟩⟩⟩⟩⟩⟩⟩⟩⟩⟩⟩⟩⟩⟩
theorem lw_p16 : lw_okq (⟨"HumanPyramid$Guesses", "mostAlike", "(II)I"⟩, 7) := ⟨⟨by decide +kernel, by decide +kernel⟩, List.mem_of_getElem? (i := 247) (by decide +kernel), List.mem_of_getElem? (i := 698) (by decide +kernel), List.mem_of_getElem? (i := 699) (by decide +kernel)⟩
theorem lw_p17 : lw_okq (⟨"HumanPyramid", "mixedWithAcrobat", "(JI)J"⟩, 14) := ⟨⟨by decide +kernel, by decide +kernel⟩, List.mem_of_getElem? (i := 18) (by decide +kernel), List.mem_of_getElem? (i := 803) (by decide +kernel), List.mem_of_getElem? (i := 804) (by decide +kernel)⟩
theorem lw_p18 : lw_okq (⟨"HumanPyramidModel", "faultOf", "()I"⟩, 54) := ⟨⟨by decide +kernel, by decide +kernel⟩, List.mem_of_getElem? (i := 824) (by decide +kernel), List.mem_of_getElem? (i := 1013) (by decide +kernel), List.mem_of_getElem? (i := 1014) (by decide +kernel)⟩
theorem lw_p19 : lw_okq (⟨"HumanPyramidModel", "readsOne", "(II)I"⟩, 54) := ⟨⟨by decide +kernel, by decide +kernel⟩, List.mem_of_getElem? (i := 824) (by decide +kernel), List.mem_of_getElem? (i := 1017) (by decide +kernel), List.mem_of_getElem? (i := 1018) (by decide +kernel)⟩
theorem lw_p20 : lw_okq (⟨"HumanPyramidModel", "byteAt", "(I)I"⟩, 54) := ⟨⟨by decide +kernel, by decide +kernel⟩, List.mem_of_getElem? (i := 824) (by decide +kernel), List.mem_of_getElem? (i := 1021) (by decide +kernel), List.mem_of_getElem? (i := 1022) (by decide +kernel)⟩
theorem lw_p21 : lw_okq (⟨"HumanPyramidModel", "isTaken", "(II)Z"⟩, 54) := ⟨⟨by decide +kernel, by decide +kernel⟩, List.mem_of_getElem? (i := 824) (by decide +kernel), List.mem_of_getElem? (i := 1031) (by decide +kernel), List.mem_of_getElem? (i := 1032) (by decide +kernel)⟩
theorem lw_p22 : lw_okq (⟨"HumanPyramidModel", "isAcrobat", "(I)Z"⟩, 54) := ⟨⟨by decide +kernel, by decide +kernel⟩, List.mem_of_getElem? (i := 824) (by decide +kernel), List.mem_of_getElem? (i := 1039) (by decide +kernel), List.mem_of_getElem? (i := 1040) (by decide +kernel)⟩
theorem lw_p23 : lw_okq (⟨"HumanPyramidModel", "reads", "()V"⟩, 54) := ⟨⟨by decide +kernel, by decide +kernel⟩, List.mem_of_getElem? (i := 824) (by decide +kernel), List.mem_of_getElem? (i := 1043) (by decide +kernel), List.mem_of_getElem? (i := 1044) (by decide +kernel)⟩
theorem lw_p24 : lw_okq (⟨"HumanPyramidModel", "acrobatOf", "(II)I"⟩, 54) := ⟨⟨by decide +kernel, by decide +kernel⟩, List.mem_of_getElem? (i := 824) (by decide +kernel), List.mem_of_getElem? (i := 1047) (by decide +kernel), List.mem_of_getElem? (i := 1048) (by decide +kernel)⟩
theorem lw_p25 : lw_okq (⟨"HumanPyramidModel", "meets", "(I)I"⟩, 54) := ⟨⟨by decide +kernel, by decide +kernel⟩, List.mem_of_getElem? (i := 824) (by decide +kernel), List.mem_of_getElem? (i := 1069) (by decide +kernel), List.mem_of_getElem? (i := 1070) (by decide +kernel)⟩
theorem lw_p26 : lw_okq (⟨"HumanPyramidModel", "atOf", "(III)I"⟩, 54) := ⟨⟨by decide +kernel, by decide +kernel⟩, List.mem_of_getElem? (i := 824) (by decide +kernel), List.mem_of_getElem? (i := 1078) (by decide +kernel), List.mem_of_getElem? (i := 1079) (by decide +kernel)⟩
theorem lw_p27 : lw_okq (⟨"HumanPyramidModel", "runsTold", "()V"⟩, 54) := ⟨⟨by decide +kernel, by decide +kernel⟩, List.mem_of_getElem? (i := 824) (by decide +kernel), List.mem_of_getElem? (i := 1082) (by decide +kernel), List.mem_of_getElem? (i := 1083) (by decide +kernel)⟩
theorem lw_p28 : lw_okq (⟨"HumanPyramidModel", "asTold", "()V"⟩, 54) := ⟨⟨by decide +kernel, by decide +kernel⟩, List.mem_of_getElem? (i := 824) (by decide +kernel), List.mem_of_getElem? (i := 1086) (by decide +kernel), List.mem_of_getElem? (i := 1087) (by decide +kernel)⟩
theorem lw_p29 : lw_okq (⟨"HumanPyramidModel", "runs", "()V"⟩, 54) := ⟨⟨by decide +kernel, by decide +kernel⟩, List.mem_of_getElem? (i := 824) (by decide +kernel), List.mem_of_getElem? (i := 1090) (by decide +kernel), List.mem_of_getElem? (i := 1091) (by decide +kernel)⟩
theorem lw_p30 : lw_okq (⟨"HumanPyramidModel", "befalls", "(I)V"⟩, 54) := ⟨⟨by decide +kernel, by decide +kernel⟩, List.mem_of_getElem? (i := 824) (by decide +kernel), List.mem_of_getElem? (i := 1094) (by decide +kernel), List.mem_of_getElem? (i := 1095) (by decide +kernel)⟩
theorem lw_p31 : lw_okq (⟨"HumanPyramidModel", "isUp", "(I)Z"⟩, 54) := ⟨⟨by decide +kernel, by decide +kernel⟩, List.mem_of_getElem? (i := 824) (by decide +kernel), List.mem_of_getElem? (i := 1101) (by decide +kernel), List.mem_of_getElem? (i := 1102) (by decide +kernel)⟩
def lw_privs_2 : List (MethodName × Nat) := [(⟨"HumanPyramid$Guesses", "mostAlike", "(II)I"⟩, 7), (⟨"HumanPyramid", "mixedWithAcrobat", "(JI)J"⟩, 14), (⟨"HumanPyramidModel", "faultOf", "()I"⟩, 54), (⟨"HumanPyramidModel", "readsOne", "(II)I"⟩, 54), (⟨"HumanPyramidModel", "byteAt", "(I)I"⟩, 54), (⟨"HumanPyramidModel", "isTaken", "(II)Z"⟩, 54), (⟨"HumanPyramidModel", "isAcrobat", "(I)Z"⟩, 54), (⟨"HumanPyramidModel", "reads", "()V"⟩, 54), (⟨"HumanPyramidModel", "acrobatOf", "(II)I"⟩, 54), (⟨"HumanPyramidModel", "meets", "(I)I"⟩, 54), (⟨"HumanPyramidModel", "atOf", "(III)I"⟩, 54), (⟨"HumanPyramidModel", "runsTold", "()V"⟩, 54), (⟨"HumanPyramidModel", "asTold", "()V"⟩, 54), (⟨"HumanPyramidModel", "runs", "()V"⟩, 54), (⟨"HumanPyramidModel", "befalls", "(I)V"⟩, 54), (⟨"HumanPyramidModel", "isUp", "(I)Z"⟩, 54)]
theorem lw_r2 : ∀ q ∈ lw_privs_2, lw_okq q := List.forall_mem_cons.mpr ⟨lw_p16, List.forall_mem_cons.mpr ⟨lw_p17, List.forall_mem_cons.mpr ⟨lw_p18, List.forall_mem_cons.mpr ⟨lw_p19, List.forall_mem_cons.mpr ⟨lw_p20, List.forall_mem_cons.mpr ⟨lw_p21, List.forall_mem_cons.mpr ⟨lw_p22, List.forall_mem_cons.mpr ⟨lw_p23, List.forall_mem_cons.mpr ⟨lw_p24, List.forall_mem_cons.mpr ⟨lw_p25, List.forall_mem_cons.mpr ⟨lw_p26, List.forall_mem_cons.mpr ⟨lw_p27, List.forall_mem_cons.mpr ⟨lw_p28, List.forall_mem_cons.mpr ⟨lw_p29, List.forall_mem_cons.mpr ⟨lw_p30, List.forall_mem_cons.mpr ⟨lw_p31, fun _ h => absurd h List.not_mem_nil⟩⟩⟩⟩⟩⟩⟩⟩⟩⟩⟩⟩⟩⟩⟩⟩
theorem lw_p32 : lw_okq (⟨"HumanPyramidModel", "allFall", "(I)V"⟩, 54) := ⟨⟨by decide +kernel, by decide +kernel⟩, List.mem_of_getElem? (i := 824) (by decide +kernel), List.mem_of_getElem? (i := 1105) (by decide +kernel), List.mem_of_getElem? (i := 1106) (by decide +kernel)⟩
theorem lw_p33 : lw_okq (⟨"HumanPyramidModel", "climbs", "(I)V"⟩, 54) := ⟨⟨by decide +kernel, by decide +kernel⟩, List.mem_of_getElem? (i := 824) (by decide +kernel), List.mem_of_getElem? (i := 1112) (by decide +kernel), List.mem_of_getElem? (i := 1113) (by decide +kernel)⟩
theorem lw_p34 : lw_okq (⟨"HumanPyramidModel", "lies", "(II)Z"⟩, 54) := ⟨⟨by decide +kernel, by decide +kernel⟩, List.mem_of_getElem? (i := 824) (by decide +kernel), List.mem_of_getElem? (i := 1116) (by decide +kernel), List.mem_of_getElem? (i := 1117) (by decide +kernel)⟩
theorem lw_p35 : lw_okq (⟨"HumanPyramidModel", "bears", "()V"⟩, 54) := ⟨⟨by decide +kernel, by decide +kernel⟩, List.mem_of_getElem? (i := 824) (by decide +kernel), List.mem_of_getElem? (i := 1120) (by decide +kernel), List.mem_of_getElem? (i := 1121) (by decide +kernel)⟩
theorem lw_p36 : lw_okq (⟨"HumanPyramidModel", "notes", "(I)V"⟩, 54) := ⟨⟨by decide +kernel, by decide +kernel⟩, List.mem_of_getElem? (i := 824) (by decide +kernel), List.mem_of_getElem? (i := 1124) (by decide +kernel), List.mem_of_getElem? (i := 1125) (by decide +kernel)⟩
theorem lw_p37 : lw_okq (⟨"HumanPyramidModel", "standsOf", "(II)I"⟩, 54) := ⟨⟨by decide +kernel, by decide +kernel⟩, List.mem_of_getElem? (i := 824) (by decide +kernel), List.mem_of_getElem? (i := 1132) (by decide +kernel), List.mem_of_getElem? (i := 1133) (by decide +kernel)⟩
theorem lw_p38 : lw_okq (⟨"HumanPyramidModel", "towerOf", "(II)I"⟩, 54) := ⟨⟨by decide +kernel, by decide +kernel⟩, List.mem_of_getElem? (i := 824) (by decide +kernel), List.mem_of_getElem? (i := 1143) (by decide +kernel), List.mem_of_getElem? (i := 1144) (by decide +kernel)⟩
theorem lw_p39 : lw_okq (⟨"HumanPyramidModel", "sumOf", "(I)I"⟩, 54) := ⟨⟨by decide +kernel, by decide +kernel⟩, List.mem_of_getElem? (i := 824) (by decide +kernel), List.mem_of_getElem? (i := 1151) (by decide +kernel), List.mem_of_getElem? (i := 1152) (by decide +kernel)⟩
theorem lw_p40 : lw_okq (⟨"HumanPyramidModel", "topOf", "(I)I"⟩, 54) := ⟨⟨by decide +kernel, by decide +kernel⟩, List.mem_of_getElem? (i := 824) (by decide +kernel), List.mem_of_getElem? (i := 1159) (by decide +kernel), List.mem_of_getElem? (i := 1160) (by decide +kernel)⟩
theorem lw_p41 : lw_okq (⟨"HumanPyramidModel", "mostOf", "(I)I"⟩, 54) := ⟨⟨by decide +kernel, by decide +kernel⟩, List.mem_of_getElem? (i := 824) (by decide +kernel), List.mem_of_getElem? (i := 1167) (by decide +kernel), List.mem_of_getElem? (i := 1168) (by decide +kernel)⟩
theorem lw_p42 : lw_okq (⟨"HumanPyramidModel", "clumsyOf", "()I"⟩, 54) := ⟨⟨by decide +kernel, by decide +kernel⟩, List.mem_of_getElem? (i := 824) (by decide +kernel), List.mem_of_getElem? (i := 1175) (by decide +kernel), List.mem_of_getElem? (i := 1176) (by decide +kernel)⟩
theorem lw_p43 : lw_okq (⟨"HumanPyramidModel", "downOf", "()I"⟩, 54) := ⟨⟨by decide +kernel, by decide +kernel⟩, List.mem_of_getElem? (i := 824) (by decide +kernel), List.mem_of_getElem? (i := 1183) (by decide +kernel), List.mem_of_getElem? (i := 1184) (by decide +kernel)⟩
theorem lw_p44 : lw_okq (⟨"HumanPyramidModel", "swapOf", "(I)I"⟩, 54) := ⟨⟨by decide +kernel, by decide +kernel⟩, List.mem_of_getElem? (i := 824) (by decide +kernel), List.mem_of_getElem? (i := 1191) (by decide +kernel), List.mem_of_getElem? (i := 1192) (by decide +kernel)⟩
theorem lw_p45 : lw_okq (⟨"HumanPyramidModel", "starts", "()V"⟩, 54) := ⟨⟨by decide +kernel, by decide +kernel⟩, List.mem_of_getElem? (i := 824) (by decide +kernel), List.mem_of_getElem? (i := 1195) (by decide +kernel), List.mem_of_getElem? (i := 1196) (by decide +kernel)⟩
theorem lw_p46 : lw_okq (⟨"HumanPyramidModel", "tries", "(I)V"⟩, 54) := ⟨⟨by decide +kernel, by decide +kernel⟩, List.mem_of_getElem? (i := 824) (by decide +kernel), List.mem_of_getElem? (i := 1199) (by decide +kernel), List.mem_of_getElem? (i := 1200) (by decide +kernel)⟩
theorem lw_p47 : lw_okq (⟨"HumanPyramidModel", "comeOf", "(II)I"⟩, 54) := ⟨⟨by decide +kernel, by decide +kernel⟩, List.mem_of_getElem? (i := 824) (by decide +kernel), List.mem_of_getElem? (i := 1207) (by decide +kernel), List.mem_of_getElem? (i := 1208) (by decide +kernel)⟩
def lw_privs_3 : List (MethodName × Nat) := [(⟨"HumanPyramidModel", "allFall", "(I)V"⟩, 54), (⟨"HumanPyramidModel", "climbs", "(I)V"⟩, 54), (⟨"HumanPyramidModel", "lies", "(II)Z"⟩, 54), (⟨"HumanPyramidModel", "bears", "()V"⟩, 54), (⟨"HumanPyramidModel", "notes", "(I)V"⟩, 54), (⟨"HumanPyramidModel", "standsOf", "(II)I"⟩, 54), (⟨"HumanPyramidModel", "towerOf", "(II)I"⟩, 54), (⟨"HumanPyramidModel", "sumOf", "(I)I"⟩, 54), (⟨"HumanPyramidModel", "topOf", "(I)I"⟩, 54), (⟨"HumanPyramidModel", "mostOf", "(I)I"⟩, 54), (⟨"HumanPyramidModel", "clumsyOf", "()I"⟩, 54), (⟨"HumanPyramidModel", "downOf", "()I"⟩, 54), (⟨"HumanPyramidModel", "swapOf", "(I)I"⟩, 54), (⟨"HumanPyramidModel", "starts", "()V"⟩, 54), (⟨"HumanPyramidModel", "tries", "(I)V"⟩, 54), (⟨"HumanPyramidModel", "comeOf", "(II)I"⟩, 54)]
theorem lw_r3 : ∀ q ∈ lw_privs_3, lw_okq q := List.forall_mem_cons.mpr ⟨lw_p32, List.forall_mem_cons.mpr ⟨lw_p33, List.forall_mem_cons.mpr ⟨lw_p34, List.forall_mem_cons.mpr ⟨lw_p35, List.forall_mem_cons.mpr ⟨lw_p36, List.forall_mem_cons.mpr ⟨lw_p37, List.forall_mem_cons.mpr ⟨lw_p38, List.forall_mem_cons.mpr ⟨lw_p39, List.forall_mem_cons.mpr ⟨lw_p40, List.forall_mem_cons.mpr ⟨lw_p41, List.forall_mem_cons.mpr ⟨lw_p42, List.forall_mem_cons.mpr ⟨lw_p43, List.forall_mem_cons.mpr ⟨lw_p44, List.forall_mem_cons.mpr ⟨lw_p45, List.forall_mem_cons.mpr ⟨lw_p46, List.forall_mem_cons.mpr ⟨lw_p47, fun _ h => absurd h List.not_mem_nil⟩⟩⟩⟩⟩⟩⟩⟩⟩⟩⟩⟩⟩⟩⟩⟩
theorem lw_p48 : lw_okq (⟨"HumanPyramidModel", "trainOf", "(I)I"⟩, 54) := ⟨⟨by decide +kernel, by decide +kernel⟩, List.mem_of_getElem? (i := 824) (by decide +kernel), List.mem_of_getElem? (i := 1215) (by decide +kernel), List.mem_of_getElem? (i := 1216) (by decide +kernel)⟩
theorem lw_p49 : lw_okq (⟨"HumanPyramidModel", "spareBy", "()I"⟩, 54) := ⟨⟨by decide +kernel, by decide +kernel⟩, List.mem_of_getElem? (i := 824) (by decide +kernel), List.mem_of_getElem? (i := 1223) (by decide +kernel), List.mem_of_getElem? (i := 1224) (by decide +kernel)⟩
theorem lw_p50 : lw_okq (⟨"HumanPyramidModel", "isSpared", "(I)Z"⟩, 54) := ⟨⟨by decide +kernel, by decide +kernel⟩, List.mem_of_getElem? (i := 824) (by decide +kernel), List.mem_of_getElem? (i := 1227) (by decide +kernel), List.mem_of_getElem? (i := 1228) (by decide +kernel)⟩
theorem lw_p51 : lw_okq (⟨"HumanPyramidModel", "ofRow", "(II)I"⟩, 54) := ⟨⟨by decide +kernel, by decide +kernel⟩, List.mem_of_getElem? (i := 824) (by decide +kernel), List.mem_of_getElem? (i := 1231) (by decide +kernel), List.mem_of_getElem? (i := 1232) (by decide +kernel)⟩
theorem lw_p52 : lw_okq (⟨"HumanPyramidModel", "neverNow", "()I"⟩, 54) := ⟨⟨by decide +kernel, by decide +kernel⟩, List.mem_of_getElem? (i := 824) (by decide +kernel), List.mem_of_getElem? (i := 1247) (by decide +kernel), List.mem_of_getElem? (i := 1248) (by decide +kernel)⟩
theorem lw_p53 : lw_okq (⟨"HumanPyramidModel", "isSeen", "()Z"⟩, 54) := ⟨⟨by decide +kernel, by decide +kernel⟩, List.mem_of_getElem? (i := 824) (by decide +kernel), List.mem_of_getElem? (i := 1251) (by decide +kernel), List.mem_of_getElem? (i := 1252) (by decide +kernel)⟩
theorem lw_p54 : lw_okq (⟨"HumanPyramidModel", "strengthsBy", "(I)I"⟩, 54) := ⟨⟨by decide +kernel, by decide +kernel⟩, List.mem_of_getElem? (i := 824) (by decide +kernel), List.mem_of_getElem? (i := 1259) (by decide +kernel), List.mem_of_getElem? (i := 1260) (by decide +kernel)⟩
theorem lw_p55 : lw_okq (⟨"HumanPyramidModel", "weightsBy", "(I)I"⟩, 54) := ⟨⟨by decide +kernel, by decide +kernel⟩, List.mem_of_getElem? (i := 824) (by decide +kernel), List.mem_of_getElem? (i := 1263) (by decide +kernel), List.mem_of_getElem? (i := 1264) (by decide +kernel)⟩
theorem lw_p56 : lw_okq (⟨"HumanPyramidModel", "askOf", "(I)I"⟩, 54) := ⟨⟨by decide +kernel, by decide +kernel⟩, List.mem_of_getElem? (i := 824) (by decide +kernel), List.mem_of_getElem? (i := 1271) (by decide +kernel), List.mem_of_getElem? (i := 1272) (by decide +kernel)⟩
theorem lw_p57 : lw_okq (⟨"HumanPyramidModel", "chanceOf", "(III)J"⟩, 54) := ⟨⟨by decide +kernel, by decide +kernel⟩, List.mem_of_getElem? (i := 824) (by decide +kernel), List.mem_of_getElem? (i := 1279) (by decide +kernel), List.mem_of_getElem? (i := 1280) (by decide +kernel)⟩
theorem lw_p58 : lw_okq (⟨"HumanPyramidModel", "yearsOf", "(III)I"⟩, 54) := ⟨⟨by decide +kernel, by decide +kernel⟩, List.mem_of_getElem? (i := 824) (by decide +kernel), List.mem_of_getElem? (i := 1294) (by decide +kernel), List.mem_of_getElem? (i := 1295) (by decide +kernel)⟩
theorem lw_p59 : lw_okq (⟨"HumanPyramidModel", "lacks", "(III)I"⟩, 54) := ⟨⟨by decide +kernel, by decide +kernel⟩, List.mem_of_getElem? (i := 824) (by decide +kernel), List.mem_of_getElem? (i := 1311) (by decide +kernel), List.mem_of_getElem? (i := 1312) (by decide +kernel)⟩
theorem lw_p60 : lw_okq (⟨"HumanPyramidModel", "keep", "(III)V"⟩, 54) := ⟨⟨by decide +kernel, by decide +kernel⟩, List.mem_of_getElem? (i := 824) (by decide +kernel), List.mem_of_getElem? (i := 1315) (by decide +kernel), List.mem_of_getElem? (i := 1316) (by decide +kernel)⟩
theorem lw_p61 : lw_okq (⟨"HumanPyramidModel", "acrobatsOf", "()I"⟩, 54) := ⟨⟨by decide +kernel, by decide +kernel⟩, List.mem_of_getElem? (i := 824) (by decide +kernel), List.mem_of_getElem? (i := 1336) (by decide +kernel), List.mem_of_getElem? (i := 1337) (by decide +kernel)⟩
theorem lw_p62 : lw_okq (⟨"HumanPyramidModel", "acrobatDigest", "(JI)J"⟩, 54) := ⟨⟨by decide +kernel, by decide +kernel⟩, List.mem_of_getElem? (i := 824) (by decide +kernel), List.mem_of_getElem? (i := 1347) (by decide +kernel), List.mem_of_getElem? (i := 1348) (by decide +kernel)⟩
theorem lw_p63 : lw_okq (⟨"HumanPyramidModel", "atDigest", "(JII)J"⟩, 54) := ⟨⟨by decide +kernel, by decide +kernel⟩, List.mem_of_getElem? (i := 824) (by decide +kernel), List.mem_of_getElem? (i := 1351) (by decide +kernel), List.mem_of_getElem? (i := 1352) (by decide +kernel)⟩
def lw_privs_4 : List (MethodName × Nat) := [(⟨"HumanPyramidModel", "trainOf", "(I)I"⟩, 54), (⟨"HumanPyramidModel", "spareBy", "()I"⟩, 54), (⟨"HumanPyramidModel", "isSpared", "(I)Z"⟩, 54), (⟨"HumanPyramidModel", "ofRow", "(II)I"⟩, 54), (⟨"HumanPyramidModel", "neverNow", "()I"⟩, 54), (⟨"HumanPyramidModel", "isSeen", "()Z"⟩, 54), (⟨"HumanPyramidModel", "strengthsBy", "(I)I"⟩, 54), (⟨"HumanPyramidModel", "weightsBy", "(I)I"⟩, 54), (⟨"HumanPyramidModel", "askOf", "(I)I"⟩, 54), (⟨"HumanPyramidModel", "chanceOf", "(III)J"⟩, 54), (⟨"HumanPyramidModel", "yearsOf", "(III)I"⟩, 54), (⟨"HumanPyramidModel", "lacks", "(III)I"⟩, 54), (⟨"HumanPyramidModel", "keep", "(III)V"⟩, 54), (⟨"HumanPyramidModel", "acrobatsOf", "()I"⟩, 54), (⟨"HumanPyramidModel", "acrobatDigest", "(JI)J"⟩, 54), (⟨"HumanPyramidModel", "atDigest", "(JII)J"⟩, 54)]
theorem lw_r4 : ∀ q ∈ lw_privs_4, lw_okq q := List.forall_mem_cons.mpr ⟨lw_p48, List.forall_mem_cons.mpr ⟨lw_p49, List.forall_mem_cons.mpr ⟨lw_p50, List.forall_mem_cons.mpr ⟨lw_p51, List.forall_mem_cons.mpr ⟨lw_p52, List.forall_mem_cons.mpr ⟨lw_p53, List.forall_mem_cons.mpr ⟨lw_p54, List.forall_mem_cons.mpr ⟨lw_p55, List.forall_mem_cons.mpr ⟨lw_p56, List.forall_mem_cons.mpr ⟨lw_p57, List.forall_mem_cons.mpr ⟨lw_p58, List.forall_mem_cons.mpr ⟨lw_p59, List.forall_mem_cons.mpr ⟨lw_p60, List.forall_mem_cons.mpr ⟨lw_p61, List.forall_mem_cons.mpr ⟨lw_p62, List.forall_mem_cons.mpr ⟨lw_p63, fun _ h => absurd h List.not_mem_nil⟩⟩⟩⟩⟩⟩⟩⟩⟩⟩⟩⟩⟩⟩⟩⟩
def lw_privs : List (MethodName × Nat) := lw_privs_1 ++ (lw_privs_2 ++ (lw_privs_3 ++ (lw_privs_4)))
def lw_tbl : List Cond := k2_sels lw_privs ++ tables_1
theorem lw_privs_ok : ∀ q ∈ lw_privs, lw_okq q := by
  show ∀ q ∈ lw_privs_1 ++ (lw_privs_2 ++ (lw_privs_3 ++ (lw_privs_4))), lw_okq q
  exact List.forall_mem_append.mpr ⟨lw_r1, List.forall_mem_append.mpr ⟨lw_r2, List.forall_mem_append.mpr ⟨lw_r3, lw_r4⟩⟩⟩
def RX0 : String := "HumanPyramid$Best"
def TX0 : u_T := fun k => match k with
  | 0 => ("HumanPyramid$Best", "first", "I", false)
  | 1 => ("HumanPyramid$Best", "second", "I", false)
  | 2 => ("HumanPyramid$Best", "amount", "I", false)
  | _ => ("HumanPyramid$Best", "isKnown", "Z", false)
def tyX0 : Nat → FieldType := fun k => match k with
  | 0 => .int
  | 1 => .int
  | 2 => .int
  | _ => .boolean
theorem nmX0 : ∀ a, a < 4 → ∀ b, b < 4 → a ≠ b → (TX0 a).2.1 ≠ (TX0 b).2.1 := by decide +kernel
theorem tyX0_ok : ∀ k, k < 4 → parseFieldDescriptor (TX0 k).2.2.1 = some (tyX0 k) := by decide +kernel
abbrev cX0_init : ByteArray := prog_2_method_1_code
def yX0_init : MethodName := ⟨RX0, "<init>", "()V"⟩
abbrev cX0_begin : ByteArray := prog_2_method_2_code
def yX0_begin : MethodName := ⟨RX0, "begin", "()V"⟩
abbrev cX0_offer : ByteArray := prog_2_method_3_code
def yX0_offer : MethodName := ⟨RX0, "offer", "(III)V"⟩
abbrev cX0_part : ByteArray := prog_2_method_4_code
def yX0_part : MethodName := ⟨RX0, "part", "(I)I"⟩
def RX1 : String := "HumanPyramid$Events"
def TX1 : u_T := fun k => match k with
  | 0 => ("HumanPyramid$Events", "kind", "[I", true)
  | 1 => ("HumanPyramid$Events", "moment", "[I", true)
  | 2 => ("HumanPyramid$Events", "number", "[I", true)
  | _ => ("HumanPyramid$Events", "size", "I", false)
def tyX1 : Nat → FieldType := fun k => match k with
  | 0 => .array .int
  | 1 => .array .int
  | 2 => .array .int
  | _ => .int
theorem nmX1 : ∀ a, a < 4 → ∀ b, b < 4 → a ≠ b → (TX1 a).2.1 ≠ (TX1 b).2.1 := by decide +kernel
theorem tyX1_ok : ∀ k, k < 4 → parseFieldDescriptor (TX1 k).2.2.1 = some (tyX1 k) := by decide +kernel
abbrev cX1_init : ByteArray := prog_3_method_1_code
def yX1_init : MethodName := ⟨RX1, "<init>", "()V"⟩
abbrev cX1_add : ByteArray := prog_3_method_2_code
def yX1_add : MethodName := ⟨RX1, "add", "(III)V"⟩
abbrev cX1_allBits : ByteArray := prog_3_method_3_code
def yX1_allBits : MethodName := ⟨RX1, "allBits", "()I"⟩
abbrev cX1_drawByLot : ByteArray := prog_3_method_4_code
def yX1_drawByLot : MethodName := ⟨RX1, "drawByLot", "(III)V"⟩
abbrev cX1_following : ByteArray := prog_3_method_5_code
def yX1_following : MethodName := ⟨RX1, "following", "(I)I"⟩
def RX2 : String := "HumanPyramid$Guesses"
def TX2 : u_T := fun k => match k with
  | 0 => ("HumanPyramid$Guesses", "trial", "LHumanPyramid$Troupe;", true)
  | 1 => ("HumanPyramid$Guesses", "show", "LHumanPyramid$Show;", true)
  | 2 => ("HumanPyramid$Guesses", "strengths", "[I", true)
  | 3 => ("HumanPyramid$Guesses", "weights", "[I", true)
  | 4 => ("HumanPyramid$Guesses", "asks", "[I", true)
  | 5 => ("HumanPyramid$Guesses", "takenBy", "[[I", true)
  | _ => ("HumanPyramid$Guesses", "nevers", "I", false)
def tyX2 : Nat → FieldType := fun k => match k with
  | 0 => .object "HumanPyramid$Troupe"
  | 1 => .object "HumanPyramid$Show"
  | 2 => .array .int
  | 3 => .array .int
  | 4 => .array .int
  | 5 => .array (.array .int)
  | _ => .int
theorem nmX2 : ∀ a, a < 7 → ∀ b, b < 7 → a ≠ b → (TX2 a).2.1 ≠ (TX2 b).2.1 := by decide +kernel
theorem tyX2_ok : ∀ k, k < 7 → parseFieldDescriptor (TX2 k).2.2.1 = some (tyX2 k) := by decide +kernel
abbrev cX2_init : ByteArray := prog_4_method_1_code
def yX2_init : MethodName := ⟨RX2, "<init>", "()V"⟩
abbrev cX2_forgetAnswers : ByteArray := prog_4_method_2_code
def yX2_forgetAnswers : MethodName := ⟨RX2, "forgetAnswers", "()V"⟩
abbrev cX2_neverBits : ByteArray := prog_4_method_3_code
def yX2_neverBits : MethodName := ⟨RX2, "neverBits", "(LHumanPyramid$Troupe;LHumanPyramid$Events;LHumanPyramid$Sights;)I"⟩
abbrev cX2_tryWeights : ByteArray := prog_4_method_4_code
def yX2_tryWeights : MethodName := ⟨RX2, "tryWeights", "(LHumanPyramid$Troupe;LHumanPyramid$Events;LHumanPyramid$Sights;I)V"⟩
abbrev cX2_tryStrengths : ByteArray := prog_4_method_5_code
def yX2_tryStrengths : MethodName := ⟨RX2, "tryStrengths", "(LHumanPyramid$Troupe;LHumanPyramid$Events;LHumanPyramid$Sights;I)V"⟩
abbrev cX2_tellingMoment : ByteArray := prog_4_method_6_code
def yX2_tellingMoment : MethodName := ⟨RX2, "tellingMoment", "(I)I"⟩
abbrev cX2_mostAlike : ByteArray := prog_4_method_7_code
def yX2_mostAlike : MethodName := ⟨RX2, "mostAlike", "(II)I"⟩
def RX3 : String := "HumanPyramid$Plans"
def TX3 : u_T := fun k => match k with
  | 0 => ("HumanPyramid$Plans", "trial", "LHumanPyramid$Troupe;", true)
  | 1 => ("HumanPyramid$Plans", "show", "LHumanPyramid$Show;", true)
  | 2 => ("HumanPyramid$Plans", "swapping", "LHumanPyramid$Best;", true)
  | 3 => ("HumanPyramid$Plans", "training", "LHumanPyramid$Best;", true)
  | _ => ("HumanPyramid$Plans", "coming", "[LHumanPyramid$Best;", true)
def tyX3 : Nat → FieldType := fun k => match k with
  | 0 => .object "HumanPyramid$Troupe"
  | 1 => .object "HumanPyramid$Show"
  | 2 => .object "HumanPyramid$Best"
  | 3 => .object "HumanPyramid$Best"
  | _ => .array (.object "HumanPyramid$Best")
theorem nmX3 : ∀ a, a < 5 → ∀ b, b < 5 → a ≠ b → (TX3 a).2.1 ≠ (TX3 b).2.1 := by decide +kernel
theorem tyX3_ok : ∀ k, k < 5 → parseFieldDescriptor (TX3 k).2.2.1 = some (tyX3 k) := by decide +kernel
abbrev cX3_init : ByteArray := prog_5_method_1_code
def yX3_init : MethodName := ⟨RX3, "<init>", "()V"⟩
abbrev cX3_forgetAnswers : ByteArray := prog_5_method_2_code
def yX3_forgetAnswers : MethodName := ⟨RX3, "forgetAnswers", "()V"⟩
abbrev cX3_bestSwap : ByteArray := prog_5_method_3_code
def yX3_bestSwap : MethodName := ⟨RX3, "bestSwap", "(LHumanPyramid$Troupe;LHumanPyramid$Events;)LHumanPyramid$Best;"⟩
abbrev cX3_bestMoment : ByteArray := prog_5_method_4_code
def yX3_bestMoment : MethodName := ⟨RX3, "bestMoment", "(LHumanPyramid$Troupe;LHumanPyramid$Events;I)LHumanPyramid$Best;"⟩
abbrev cX3_bestTraining : ByteArray := prog_5_method_5_code
def yX3_bestTraining : MethodName := ⟨RX3, "bestTraining", "(LHumanPyramid$Troupe;LHumanPyramid$Events;)LHumanPyramid$Best;"⟩
def RX4 : String := "HumanPyramid$Sheet"
def TX4 : u_T := fun k => match k with
  | 0 => ("HumanPyramid$Sheet", "items", "[I", true)
  | 1 => ("HumanPyramid$Sheet", "form", "I", false)
  | 2 => ("HumanPyramid$Sheet", "size", "I", false)
  | _ => ("HumanPyramid$Sheet", "isLost", "Z", false)
def tyX4 : Nat → FieldType := fun k => match k with
  | 0 => .array .int
  | 1 => .int
  | 2 => .int
  | _ => .boolean
theorem nmX4 : ∀ a, a < 4 → ∀ b, b < 4 → a ≠ b → (TX4 a).2.1 ≠ (TX4 b).2.1 := by decide +kernel
theorem tyX4_ok : ∀ k, k < 4 → parseFieldDescriptor (TX4 k).2.2.1 = some (tyX4 k) := by decide +kernel
abbrev cX4_init : ByteArray := prog_6_method_1_code
def yX4_init : MethodName := ⟨RX4, "<init>", "()V"⟩
abbrev cX4_renew : ByteArray := prog_6_method_2_code
def yX4_renew : MethodName := ⟨RX4, "renew", "(II)V"⟩
abbrev cX4_whatFails : ByteArray := prog_6_method_3_code
def yX4_whatFails : MethodName := ⟨RX4, "whatFails", "(II)I"⟩
abbrev cX4_hasRange : ByteArray := prog_6_method_4_code
def yX4_hasRange : MethodName := ⟨RX4, "hasRange", "(II)Z"⟩
abbrev cX4_item : ByteArray := prog_6_method_5_code
def yX4_item : MethodName := ⟨RX4, "item", "(I)I"⟩
abbrev cX4_setItem : ByteArray := prog_6_method_6_code
def yX4_setItem : MethodName := ⟨RX4, "setItem", "(II)V"⟩
def RX5 : String := "HumanPyramid$Show"
def TX5 : u_T := fun k => match k with
  | 0 => ("HumanPyramid$Show", "taken", "[I", true)
  | 1 => ("HumanPyramid$Show", "diary", "[[I", true)
  | 2 => ("HumanPyramid$Show", "tired", "[I", true)
  | 3 => ("HumanPyramid$Show", "fell", "[I", true)
  | 4 => ("HumanPyramid$Show", "lastLying", "[I", true)
  | 5 => ("HumanPyramid$Show", "load", "[I", true)
  | 6 => ("HumanPyramid$Show", "takenNow", "I", false)
  | 7 => ("HumanPyramid$Show", "sneezers", "I", false)
  | 8 => ("HumanPyramid$Show", "held", "I", false)
  | 9 => ("HumanPyramid$Show", "relief", "I", false)
  | 10 => ("HumanPyramid$Show", "standing", "I", false)
  | 11 => ("HumanPyramid$Show", "falls", "I", false)
  | _ => ("HumanPyramid$Show", "firstFall", "I", false)
def tyX5 : Nat → FieldType := fun k => match k with
  | 0 => .array .int
  | 1 => .array (.array .int)
  | 2 => .array .int
  | 3 => .array .int
  | 4 => .array .int
  | 5 => .array .int
  | 6 => .int
  | 7 => .int
  | 8 => .int
  | 9 => .int
  | 10 => .int
  | 11 => .int
  | _ => .int
theorem nmX5 : ∀ a, a < 13 → ∀ b, b < 13 → a ≠ b → (TX5 a).2.1 ≠ (TX5 b).2.1 := by decide +kernel
theorem tyX5_ok : ∀ k, k < 13 → parseFieldDescriptor (TX5 k).2.2.1 = some (tyX5 k) := by decide +kernel
abbrev cX5_init : ByteArray := prog_7_method_1_code
def yX5_init : MethodName := ⟨RX5, "<init>", "(Z)V"⟩
abbrev cX5_play : ByteArray := prog_7_method_2_code
def yX5_play : MethodName := ⟨RX5, "play", "(LHumanPyramid$Troupe;LHumanPyramid$Events;IZ)V"⟩
abbrev cX5_begin : ByteArray := prog_7_method_3_code
def yX5_begin : MethodName := ⟨RX5, "begin", "()V"⟩
abbrev cX5_gather : ByteArray := prog_7_method_4_code
def yX5_gather : MethodName := ⟨RX5, "gather", "(LHumanPyramid$Events;II)V"⟩
abbrev cX5_sneezing : ByteArray := prog_7_method_5_code
def yX5_sneezing : MethodName := ⟨RX5, "sneezing", "(LHumanPyramid$Troupe;)I"⟩
abbrev cX5_applaud : ByteArray := prog_7_method_6_code
def yX5_applaud : MethodName := ⟨RX5, "applaud", "(LHumanPyramid$Troupe;)V"⟩
abbrev cX5_climb : ByteArray := prog_7_method_7_code
def yX5_climb : MethodName := ⟨RX5, "climb", "(LHumanPyramid$Troupe;I)V"⟩
abbrev cX5_bear : ByteArray := prog_7_method_8_code
def yX5_bear : MethodName := ⟨RX5, "bear", "(LHumanPyramid$Troupe;)V"⟩
abbrev cX5_tire : ByteArray := prog_7_method_9_code
def yX5_tire : MethodName := ⟨RX5, "tire", "(LHumanPyramid$Troupe;)I"⟩
abbrev cX5_tiring : ByteArray := prog_7_method_10_code
def yX5_tiring : MethodName := ⟨RX5, "tiring", "(II)I"⟩
abbrev cX5_topple : ByteArray := prog_7_method_11_code
def yX5_topple : MethodName := ⟨RX5, "topple", "(LHumanPyramid$Troupe;II)V"⟩
abbrev cX5_keepFacts : ByteArray := prog_7_method_12_code
def yX5_keepFacts : MethodName := ⟨RX5, "keepFacts", "(LHumanPyramid$Troupe;I)V"⟩
abbrev cX5_stateOf : ByteArray := prog_7_method_13_code
def yX5_stateOf : MethodName := ⟨RX5, "stateOf", "(LHumanPyramid$Troupe;II)I"⟩
abbrev cX5_whoIsAt : ByteArray := prog_7_method_14_code
def yX5_whoIsAt : MethodName := ⟨RX5, "whoIsAt", "(LHumanPyramid$Troupe;II)I"⟩
def RX6 : String := "HumanPyramid$Sights"
def TX6 : u_T := fun k => match k with
  | 0 => ("HumanPyramid$Sights", "moment", "[I", true)
  | 1 => ("HumanPyramid$Sights", "place", "[I", true)
  | 2 => ("HumanPyramid$Sights", "who", "[I", true)
  | _ => ("HumanPyramid$Sights", "size", "I", false)
def tyX6 : Nat → FieldType := fun k => match k with
  | 0 => .array .int
  | 1 => .array .int
  | 2 => .array .int
  | _ => .int
theorem nmX6 : ∀ a, a < 4 → ∀ b, b < 4 → a ≠ b → (TX6 a).2.1 ≠ (TX6 b).2.1 := by decide +kernel
theorem tyX6_ok : ∀ k, k < 4 → parseFieldDescriptor (TX6 k).2.2.1 = some (tyX6 k) := by decide +kernel
abbrev cX6_init : ByteArray := prog_8_method_1_code
def yX6_init : MethodName := ⟨RX6, "<init>", "()V"⟩
abbrev cX6_add : ByteArray := prog_8_method_2_code
def yX6_add : MethodName := ⟨RX6, "add", "(III)V"⟩
abbrev cX6_fit : ByteArray := prog_8_method_3_code
def yX6_fit : MethodName := ⟨RX6, "fit", "(LHumanPyramid$Show;LHumanPyramid$Troupe;)Z"⟩
def RX7 : String := "HumanPyramid$Text"
def TX7 : u_T := fun k => match k with
  | 0 => ("HumanPyramid$Text", "bytes", "[I", true)
  | _ => ("HumanPyramid$Text", "length", "I", false)
def tyX7 : Nat → FieldType := fun k => match k with
  | 0 => .array .int
  | _ => .int
theorem nmX7 : ∀ a, a < 2 → ∀ b, b < 2 → a ≠ b → (TX7 a).2.1 ≠ (TX7 b).2.1 := by decide +kernel
theorem tyX7_ok : ∀ k, k < 2 → parseFieldDescriptor (TX7 k).2.2.1 = some (tyX7 k) := by decide +kernel
abbrev cX7_init : ByteArray := prog_9_method_1_code
def yX7_init : MethodName := ⟨RX7, "<init>", "()V"⟩
abbrev cX7_append : ByteArray := prog_9_method_2_code
def yX7_append : MethodName := ⟨RX7, "append", "(I)V"⟩
abbrev cX7_castInto : ByteArray := prog_9_method_3_code
def yX7_castInto : MethodName := ⟨RX7, "castInto", "(LHumanPyramid$Troupe;)I"⟩
abbrev cX7_takes : ByteArray := prog_9_method_4_code
def yX7_takes : MethodName := ⟨RX7, "takes", "(LHumanPyramid$Troupe;III)Z"⟩
abbrev cX7_takesPlace : ByteArray := prog_9_method_5_code
def yX7_takesPlace : MethodName := ⟨RX7, "takesPlace", "(LHumanPyramid$Troupe;II)Z"⟩
def RX8 : String := "HumanPyramid$Troupe"
def TX8 : u_T := fun k => match k with
  | 0 => ("HumanPyramid$Troupe", "sort", "[I", true)
  | 1 => ("HumanPyramid$Troupe", "weight", "[I", true)
  | 2 => ("HumanPyramid$Troupe", "strength", "[I", true)
  | 3 => ("HumanPyramid$Troupe", "moment", "[I", true)
  | 4 => ("HumanPyramid$Troupe", "place", "[I", true)
  | 5 => ("HumanPyramid$Troupe", "holder", "[I", true)
  | _ => ("HumanPyramid$Troupe", "size", "I", false)
def tyX8 : Nat → FieldType := fun k => match k with
  | 0 => .array .int
  | 1 => .array .int
  | 2 => .array .int
  | 3 => .array .int
  | 4 => .array .int
  | 5 => .array .int
  | _ => .int
theorem nmX8 : ∀ a, a < 7 → ∀ b, b < 7 → a ≠ b → (TX8 a).2.1 ≠ (TX8 b).2.1 := by decide +kernel
theorem tyX8_ok : ∀ k, k < 7 → parseFieldDescriptor (TX8 k).2.2.1 = some (tyX8 k) := by decide +kernel
abbrev cX8_init : ByteArray := prog_10_method_1_code
def yX8_init : MethodName := ⟨RX8, "<init>", "()V"⟩
abbrev cX8_dismiss : ByteArray := prog_10_method_2_code
def yX8_dismiss : MethodName := ⟨RX8, "dismiss", "()V"⟩
abbrev cX8_become : ByteArray := prog_10_method_3_code
def yX8_become : MethodName := ⟨RX8, "become", "(LHumanPyramid$Troupe;)V"⟩
abbrev cX8_seat : ByteArray := prog_10_method_4_code
def yX8_seat : MethodName := ⟨RX8, "seat", "(II)V"⟩
abbrev cX8_exchange : ByteArray := prog_10_method_5_code
def yX8_exchange : MethodName := ⟨RX8, "exchange", "(II)V"⟩
def RX9 : String := "HumanPyramid$Tumbles"
def TX9 : u_T := fun k => match k with
  | 0 => ("HumanPyramid$Tumbles", "show", "LHumanPyramid$Show;", true)
  | 1 => ("HumanPyramid$Tumbles", "firstFalls", "[I", true)
  | 2 => ("HumanPyramid$Tumbles", "sparing", "LHumanPyramid$Best;", true)
  | _ => ("HumanPyramid$Tumbles", "isBegun", "Z", false)
def tyX9 : Nat → FieldType := fun k => match k with
  | 0 => .object "HumanPyramid$Show"
  | 1 => .array .int
  | 2 => .object "HumanPyramid$Best"
  | _ => .boolean
theorem nmX9 : ∀ a, a < 4 → ∀ b, b < 4 → a ≠ b → (TX9 a).2.1 ≠ (TX9 b).2.1 := by decide +kernel
theorem tyX9_ok : ∀ k, k < 4 → parseFieldDescriptor (TX9 k).2.2.1 = some (tyX9 k) := by decide +kernel
abbrev cX9_init : ByteArray := prog_11_method_1_code
def yX9_init : MethodName := ⟨RX9, "<init>", "()V"⟩
abbrev cX9_forgetAnswers : ByteArray := prog_11_method_2_code
def yX9_forgetAnswers : MethodName := ⟨RX9, "forgetAnswers", "()V"⟩
abbrev cX9_firstFall : ByteArray := prog_11_method_3_code
def yX9_firstFall : MethodName := ⟨RX9, "firstFall", "(LHumanPyramid$Troupe;LHumanPyramid$Events;I)I"⟩
abbrev cX9_fewestToSpare : ByteArray := prog_11_method_4_code
def yX9_fewestToSpare : MethodName := ⟨RX9, "fewestToSpare", "(LHumanPyramid$Troupe;LHumanPyramid$Events;)LHumanPyramid$Best;"⟩
abbrev cX9_chanceAbove : ByteArray := prog_11_method_5_code
def yX9_chanceAbove : MethodName := ⟨RX9, "chanceAbove", "(LHumanPyramid$Troupe;LHumanPyramid$Events;II)J"⟩
abbrev cX9_shareOf : ByteArray := prog_11_method_6_code
def yX9_shareOf : MethodName := ⟨RX9, "shareOf", "(III)J"⟩
def RX10 : String := "HumanPyramid"
def TX10 : u_T := fun k => match k with
  | 0 => ("HumanPyramid", "text", "LHumanPyramid$Text;", true)
  | 1 => ("HumanPyramid", "troupe", "LHumanPyramid$Troupe;", true)
  | 2 => ("HumanPyramid", "events", "LHumanPyramid$Events;", true)
  | 3 => ("HumanPyramid", "sights", "LHumanPyramid$Sights;", true)
  | 4 => ("HumanPyramid", "show", "LHumanPyramid$Show;", true)
  | 5 => ("HumanPyramid", "plans", "LHumanPyramid$Plans;", true)
  | 6 => ("HumanPyramid", "guesses", "LHumanPyramid$Guesses;", true)
  | 7 => ("HumanPyramid", "tumbles", "LHumanPyramid$Tumbles;", true)
  | 8 => ("HumanPyramid", "yearEvents", "LHumanPyramid$Events;", true)
  | 9 => ("HumanPyramid", "yearShow", "LHumanPyramid$Show;", true)
  | 10 => ("HumanPyramid", "sheets", "[LHumanPyramid$Sheet;", true)
  | 11 => ("HumanPyramid", "faultPlace", "I", false)
  | 12 => ("HumanPyramid", "showIsPlayed", "Z", false)
  | _ => ("HumanPyramid", "latestFinding", "I", false)
def tyX10 : Nat → FieldType := fun k => match k with
  | 0 => .object "HumanPyramid$Text"
  | 1 => .object "HumanPyramid$Troupe"
  | 2 => .object "HumanPyramid$Events"
  | 3 => .object "HumanPyramid$Sights"
  | 4 => .object "HumanPyramid$Show"
  | 5 => .object "HumanPyramid$Plans"
  | 6 => .object "HumanPyramid$Guesses"
  | 7 => .object "HumanPyramid$Tumbles"
  | 8 => .object "HumanPyramid$Events"
  | 9 => .object "HumanPyramid$Show"
  | 10 => .array (.object "HumanPyramid$Sheet")
  | 11 => .int
  | 12 => .boolean
  | _ => .int
theorem nmX10 : ∀ a, a < 14 → ∀ b, b < 14 → a ≠ b → (TX10 a).2.1 ≠ (TX10 b).2.1 := by decide +kernel
theorem tyX10_ok : ∀ k, k < 14 → parseFieldDescriptor (TX10 k).2.2.1 = some (tyX10 k) := by decide +kernel
abbrev cX10_init : ByteArray := prog_1_method_1_code
def yX10_init : MethodName := ⟨RX10, "<init>", "()V"⟩
abbrev cX10_type : ByteArray := prog_1_method_2_code
def yX10_type : MethodName := ⟨RX10, "type", "(I)I"⟩
abbrev cX10_wipe : ByteArray := prog_1_method_3_code
def yX10_wipe : MethodName := ⟨RX10, "wipe", "()I"⟩
abbrev cX10_undo : ByteArray := prog_1_method_4_code
def yX10_undo : MethodName := ⟨RX10, "undo", "()I"⟩
abbrev cX10_fault : ByteArray := prog_1_method_5_code
def yX10_fault : MethodName := ⟨RX10, "fault", "()I"⟩
abbrev cX10_acrobat : ByteArray := prog_1_method_6_code
def yX10_acrobat : MethodName := ⟨RX10, "acrobat", "(II)I"⟩
abbrev cX10_event : ByteArray := prog_1_method_7_code
def yX10_event : MethodName := ⟨RX10, "event", "(III)I"⟩
abbrev cX10_back : ByteArray := prog_1_method_8_code
def yX10_back : MethodName := ⟨RX10, "back", "()I"⟩
abbrev cX10_read : ByteArray := prog_1_method_9_code
def yX10_read : MethodName := ⟨RX10, "read", "(I)I"⟩
abbrev cX10_at : ByteArray := prog_1_method_10_code
def yX10_at : MethodName := ⟨RX10, "at", "(III)I"⟩
abbrev cX10_stands : ByteArray := prog_1_method_11_code
def yX10_stands : MethodName := ⟨RX10, "stands", "(II)I"⟩
abbrev cX10_tower : ByteArray := prog_1_method_12_code
def yX10_tower : MethodName := ⟨RX10, "tower", "(II)I"⟩
abbrev cX10_sum : ByteArray := prog_1_method_13_code
def yX10_sum : MethodName := ⟨RX10, "sum", "(I)I"⟩
abbrev cX10_top : ByteArray := prog_1_method_14_code
def yX10_top : MethodName := ⟨RX10, "top", "(I)I"⟩
abbrev cX10_most : ByteArray := prog_1_method_15_code
def yX10_most : MethodName := ⟨RX10, "most", "(I)I"⟩
abbrev cX10_clumsy : ByteArray := prog_1_method_16_code
def yX10_clumsy : MethodName := ⟨RX10, "clumsy", "()I"⟩
abbrev cX10_down : ByteArray := prog_1_method_17_code
def yX10_down : MethodName := ⟨RX10, "down", "()I"⟩
abbrev cX10_swap : ByteArray := prog_1_method_18_code
def yX10_swap : MethodName := ⟨RX10, "swap", "(I)I"⟩
abbrev cX10_come : ByteArray := prog_1_method_19_code
def yX10_come : MethodName := ⟨RX10, "come", "(II)I"⟩
abbrev cX10_train : ByteArray := prog_1_method_20_code
def yX10_train : MethodName := ⟨RX10, "train", "(I)I"⟩
abbrev cX10_spare : ByteArray := prog_1_method_21_code
def yX10_spare : MethodName := ⟨RX10, "spare", "(I)I"⟩
abbrev cX10_seen : ByteArray := prog_1_method_22_code
def yX10_seen : MethodName := ⟨RX10, "seen", "(III)I"⟩
abbrev cX10_forget : ByteArray := prog_1_method_23_code
def yX10_forget : MethodName := ⟨RX10, "forget", "()I"⟩
abbrev cX10_never : ByteArray := prog_1_method_24_code
def yX10_never : MethodName := ⟨RX10, "never", "()I"⟩
abbrev cX10_was : ByteArray := prog_1_method_25_code
def yX10_was : MethodName := ⟨RX10, "was", "(II)I"⟩
abbrev cX10_ask : ByteArray := prog_1_method_26_code
def yX10_ask : MethodName := ⟨RX10, "ask", "(I)I"⟩
abbrev cX10_chance : ByteArray := prog_1_method_27_code
def yX10_chance : MethodName := ⟨RX10, "chance", "(III)J"⟩
abbrev cX10_years : ByteArray := prog_1_method_28_code
def yX10_years : MethodName := ⟨RX10, "years", "(III)I"⟩
abbrev cX10_sheet : ByteArray := prog_1_method_29_code
def yX10_sheet : MethodName := ⟨RX10, "sheet", "(III)I"⟩
abbrev cX10_lose : ByteArray := prog_1_method_30_code
def yX10_lose : MethodName := ⟨RX10, "lose", "(I)I"⟩
abbrev cX10_put : ByteArray := prog_1_method_31_code
def yX10_put : MethodName := ⟨RX10, "put", "(IIII)I"⟩
abbrev cX10_get : ByteArray := prog_1_method_32_code
def yX10_get : MethodName := ⟨RX10, "get", "(III)I"⟩
abbrev cX10_copy : ByteArray := prog_1_method_33_code
def yX10_copy : MethodName := ⟨RX10, "copy", "(IIIII)I"⟩
abbrev cX10_write : ByteArray := prog_1_method_34_code
def yX10_write : MethodName := ⟨RX10, "write", "(II)I"⟩
abbrev cX10_count : ByteArray := prog_1_method_35_code
def yX10_count : MethodName := ⟨RX10, "count", "(I)I"⟩
abbrev cX10_digest : ByteArray := prog_1_method_36_code
def yX10_digest : MethodName := ⟨RX10, "digest", "()J"⟩
abbrev cX10_mixedWithAcrobat : ByteArray := prog_1_method_37_code
def yX10_mixedWithAcrobat : MethodName := ⟨RX10, "mixedWithAcrobat", "(JI)J"⟩
abbrev cX10_mixed : ByteArray := prog_1_method_38_code
def yX10_mixed : MethodName := ⟨RX10, "mixed", "(JJ)J"⟩
abbrev cX10_isWithin : ByteArray := prog_1_method_39_code
def yX10_isWithin : MethodName := ⟨RX10, "isWithin", "(II)Z"⟩
abbrev cX10_hasBit : ByteArray := prog_1_method_40_code
def yX10_hasBit : MethodName := ⟨RX10, "hasBit", "(II)Z"⟩
abbrev cX10_height : ByteArray := prog_1_method_41_code
def yX10_height : MethodName := ⟨RX10, "height", "(I)I"⟩
abbrev cX10_finding : ByteArray := prog_1_method_42_code
def yX10_finding : MethodName := ⟨RX10, "finding", "(I)I"⟩
abbrev cX10_castAnew : ByteArray := prog_1_method_43_code
def yX10_castAnew : MethodName := ⟨RX10, "castAnew", "()V"⟩
abbrev cX10_forgetAnswers : ByteArray := prog_1_method_44_code
def yX10_forgetAnswers : MethodName := ⟨RX10, "forgetAnswers", "()V"⟩
abbrev cX10_played : ByteArray := prog_1_method_45_code
def yX10_played : MethodName := ⟨RX10, "played", "()LHumanPyramid$Show;"⟩
def RX11 : String := "HumanPyramidModel"
def TX11 : u_T := fun k => match k with
  | 0 => ("HumanPyramidModel", "typed", "I", false)
  | 1 => ("HumanPyramidModel", "bytes", "[I", true)
  | 2 => ("HumanPyramidModel", "acrobats", "I", false)
  | 3 => ("HumanPyramidModel", "sorts", "[I", true)
  | 4 => ("HumanPyramidModel", "weights", "[I", true)
  | 5 => ("HumanPyramidModel", "strengths", "[I", true)
  | 6 => ("HumanPyramidModel", "comes", "[I", true)
  | 7 => ("HumanPyramidModel", "places", "[I", true)
  | 8 => ("HumanPyramidModel", "events", "I", false)
  | 9 => ("HumanPyramidModel", "eventKind", "[I", true)
  | 10 => ("HumanPyramidModel", "eventAt", "[I", true)
  | 11 => ("HumanPyramidModel", "eventNumber", "[I", true)
  | 12 => ("HumanPyramidModel", "eventsNow", "I", false)
  | 13 => ("HumanPyramidModel", "kindNow", "[I", true)
  | 14 => ("HumanPyramidModel", "whenNow", "[I", true)
  | 15 => ("HumanPyramidModel", "numberNow", "[I", true)
  | 16 => ("HumanPyramidModel", "notEvents", "I", false)
  | 17 => ("HumanPyramidModel", "standing", "I", false)
  | 18 => ("HumanPyramidModel", "allFalls", "I", false)
  | 19 => ("HumanPyramidModel", "firstFall", "I", false)
  | 20 => ("HumanPyramidModel", "mostNow", "I", false)
  | 21 => ("HumanPyramidModel", "mostAt", "I", false)
  | 22 => ("HumanPyramidModel", "topAt", "I", false)
  | 23 => ("HumanPyramidModel", "topMany", "I", false)
  | 24 => ("HumanPyramidModel", "everUp", "I", false)
  | 25 => ("HumanPyramidModel", "upNow", "I", false)
  | 26 => ("HumanPyramidModel", "heldNow", "I", false)
  | 27 => ("HumanPyramidModel", "whoAt", "[I", true)
  | 28 => ("HumanPyramidModel", "tired", "[I", true)
  | 29 => ("HumanPyramidModel", "loads", "[I", true)
  | 30 => ("HumanPyramidModel", "fell", "[I", true)
  | 31 => ("HumanPyramidModel", "fellAt", "[I", true)
  | 32 => ("HumanPyramidModel", "falling", "[I", true)
  | 33 => ("HumanPyramidModel", "manyAt", "[I", true)
  | 34 => ("HumanPyramidModel", "takenAt", "[I", true)
  | 35 => ("HumanPyramidModel", "placeAt", "[I", true)
  | 36 => ("HumanPyramidModel", "stateAt", "[I", true)
  | 37 => ("HumanPyramidModel", "loadAt", "[I", true)
  | 38 => ("HumanPyramidModel", "tiredAt", "[I", true)
  | 39 => ("HumanPyramidModel", "fellBy", "[I", true)
  | 40 => ("HumanPyramidModel", "bestNow", "I", false)
  | 41 => ("HumanPyramidModel", "bestMuch", "I", false)
  | 42 => ("HumanPyramidModel", "planRow", "[I", true)
  | 43 => ("HumanPyramidModel", "seens", "I", false)
  | 44 => ("HumanPyramidModel", "seenAt", "[I", true)
  | 45 => ("HumanPyramidModel", "seenPlace", "[I", true)
  | 46 => ("HumanPyramidModel", "seenWho", "[I", true)
  | 47 => ("HumanPyramidModel", "takenBy", "[I", true)
  | 48 => ("HumanPyramidModel", "isThere", "[Z", true)
  | 49 => ("HumanPyramidModel", "forms", "[I", true)
  | 50 => ("HumanPyramidModel", "sizes", "[I", true)
  | 51 => ("HumanPyramidModel", "items", "[I", true)
  | 52 => ("HumanPyramidModel", "moved", "[I", true)
  | _ => ("HumanPyramidModel", "finding", "I", false)
def tyX11 : Nat → FieldType := fun k => match k with
  | 0 => .int
  | 1 => .array .int
  | 2 => .int
  | 3 => .array .int
  | 4 => .array .int
  | 5 => .array .int
  | 6 => .array .int
  | 7 => .array .int
  | 8 => .int
  | 9 => .array .int
  | 10 => .array .int
  | 11 => .array .int
  | 12 => .int
  | 13 => .array .int
  | 14 => .array .int
  | 15 => .array .int
  | 16 => .int
  | 17 => .int
  | 18 => .int
  | 19 => .int
  | 20 => .int
  | 21 => .int
  | 22 => .int
  | 23 => .int
  | 24 => .int
  | 25 => .int
  | 26 => .int
  | 27 => .array .int
  | 28 => .array .int
  | 29 => .array .int
  | 30 => .array .int
  | 31 => .array .int
  | 32 => .array .int
  | 33 => .array .int
  | 34 => .array .int
  | 35 => .array .int
  | 36 => .array .int
  | 37 => .array .int
  | 38 => .array .int
  | 39 => .array .int
  | 40 => .int
  | 41 => .int
  | 42 => .array .int
  | 43 => .int
  | 44 => .array .int
  | 45 => .array .int
  | 46 => .array .int
  | 47 => .array .int
  | 48 => .array .boolean
  | 49 => .array .int
  | 50 => .array .int
  | 51 => .array .int
  | 52 => .array .int
  | _ => .int
theorem nmX11 : ∀ a, a < 54 → ∀ b, b < 54 → a ≠ b → (TX11 a).2.1 ≠ (TX11 b).2.1 := by decide +kernel
theorem tyX11_ok : ∀ k, k < 54 → parseFieldDescriptor (TX11 k).2.2.1 = some (tyX11 k) := by decide +kernel
abbrev cX11_init : ByteArray := prog_13_method_1_code
def yX11_init : MethodName := ⟨RX11, "<init>", "()V"⟩
abbrev cX11_in : ByteArray := prog_13_method_3_code
def yX11_in : MethodName := ⟨RX11, "in", "(III)Z"⟩
abbrev cX11_isIn : ByteArray := prog_13_method_4_code
def yX11_isIn : MethodName := ⟨RX11, "isIn", "(II)Z"⟩
abbrev cX11_no : ByteArray := prog_13_method_5_code
def yX11_no : MethodName := ⟨RX11, "no", "(I)J"⟩
abbrev cX11_lowest : ByteArray := prog_13_method_6_code
def yX11_lowest : MethodName := ⟨RX11, "lowest", "(JJI)J"⟩
abbrev cX11_isMoment : ByteArray := prog_13_method_7_code
def yX11_isMoment : MethodName := ⟨RX11, "isMoment", "(I)Z"⟩
abbrev cX11_isTen : ByteArray := prog_13_method_8_code
def yX11_isTen : MethodName := ⟨RX11, "isTen", "(I)Z"⟩
abbrev cX11_isTwo : ByteArray := prog_13_method_9_code
def yX11_isTwo : MethodName := ⟨RX11, "isTwo", "(I)Z"⟩
abbrev cX11_isThree : ByteArray := prog_13_method_10_code
def yX11_isThree : MethodName := ⟨RX11, "isThree", "(I)Z"⟩
abbrev cX11_type : ByteArray := prog_13_method_11_code
def yX11_type : MethodName := ⟨RX11, "type", "(I)I"⟩
abbrev cX11_wipe : ByteArray := prog_13_method_12_code
def yX11_wipe : MethodName := ⟨RX11, "wipe", "()I"⟩
abbrev cX11_undo : ByteArray := prog_13_method_13_code
def yX11_undo : MethodName := ⟨RX11, "undo", "()I"⟩
abbrev cX11_byteAt : ByteArray := prog_13_method_14_code
def yX11_byteAt : MethodName := ⟨RX11, "byteAt", "(I)I"⟩
abbrev cX11_isTaken : ByteArray := prog_13_method_15_code
def yX11_isTaken : MethodName := ⟨RX11, "isTaken", "(II)Z"⟩
abbrev cX11_readsOne : ByteArray := prog_13_method_16_code
def yX11_readsOne : MethodName := ⟨RX11, "readsOne", "(II)I"⟩
abbrev cX11_faultOf : ByteArray := prog_13_method_17_code
def yX11_faultOf : MethodName := ⟨RX11, "faultOf", "()I"⟩
abbrev cX11_reads : ByteArray := prog_13_method_18_code
def yX11_reads : MethodName := ⟨RX11, "reads", "()V"⟩
abbrev cX11_fault : ByteArray := prog_13_method_19_code
def yX11_fault : MethodName := ⟨RX11, "fault", "()I"⟩
abbrev cX11_isAcrobat : ByteArray := prog_13_method_20_code
def yX11_isAcrobat : MethodName := ⟨RX11, "isAcrobat", "(I)Z"⟩
abbrev cX11_acrobatOf : ByteArray := prog_13_method_21_code
def yX11_acrobatOf : MethodName := ⟨RX11, "acrobatOf", "(II)I"⟩
abbrev cX11_acrobat : ByteArray := prog_13_method_22_code
def yX11_acrobat : MethodName := ⟨RX11, "acrobat", "(II)I"⟩
abbrev cX11_event : ByteArray := prog_13_method_23_code
def yX11_event : MethodName := ⟨RX11, "event", "(III)I"⟩
abbrev cX11_back : ByteArray := prog_13_method_24_code
def yX11_back : MethodName := ⟨RX11, "back", "()I"⟩
abbrev cX11_read : ByteArray := prog_13_method_25_code
def yX11_read : MethodName := ⟨RX11, "read", "(I)I"⟩
abbrev cX11_asTold : ByteArray := prog_13_method_26_code
def yX11_asTold : MethodName := ⟨RX11, "asTold", "()V"⟩
abbrev cX11_below : ByteArray := prog_13_method_27_code
def yX11_below : MethodName := ⟨RX11, "below", "(I)I"⟩
abbrev cX11_isUp : ByteArray := prog_13_method_28_code
def yX11_isUp : MethodName := ⟨RX11, "isUp", "(I)Z"⟩
abbrev cX11_allFall : ByteArray := prog_13_method_29_code
def yX11_allFall : MethodName := ⟨RX11, "allFall", "(I)V"⟩
abbrev cX11_befalls : ByteArray := prog_13_method_30_code
def yX11_befalls : MethodName := ⟨RX11, "befalls", "(I)V"⟩
abbrev cX11_lies : ByteArray := prog_13_method_31_code
def yX11_lies : MethodName := ⟨RX11, "lies", "(II)Z"⟩
abbrev cX11_climbs : ByteArray := prog_13_method_32_code
def yX11_climbs : MethodName := ⟨RX11, "climbs", "(I)V"⟩
abbrev cX11_bears : ByteArray := prog_13_method_33_code
def yX11_bears : MethodName := ⟨RX11, "bears", "()V"⟩
abbrev cX11_notes : ByteArray := prog_13_method_34_code
def yX11_notes : MethodName := ⟨RX11, "notes", "(I)V"⟩
abbrev cX11_runs : ByteArray := prog_13_method_35_code
def yX11_runs : MethodName := ⟨RX11, "runs", "()V"⟩
abbrev cX11_runsTold : ByteArray := prog_13_method_36_code
def yX11_runsTold : MethodName := ⟨RX11, "runsTold", "()V"⟩
abbrev cX11_atOf : ByteArray := prog_13_method_37_code
def yX11_atOf : MethodName := ⟨RX11, "atOf", "(III)I"⟩
abbrev cX11_at : ByteArray := prog_13_method_38_code
def yX11_at : MethodName := ⟨RX11, "at", "(III)I"⟩
abbrev cX11_standsOf : ByteArray := prog_13_method_39_code
def yX11_standsOf : MethodName := ⟨RX11, "standsOf", "(II)I"⟩
abbrev cX11_stands : ByteArray := prog_13_method_40_code
def yX11_stands : MethodName := ⟨RX11, "stands", "(II)I"⟩
abbrev cX11_towerOf : ByteArray := prog_13_method_41_code
def yX11_towerOf : MethodName := ⟨RX11, "towerOf", "(II)I"⟩
abbrev cX11_tower : ByteArray := prog_13_method_42_code
def yX11_tower : MethodName := ⟨RX11, "tower", "(II)I"⟩
abbrev cX11_sumOf : ByteArray := prog_13_method_43_code
def yX11_sumOf : MethodName := ⟨RX11, "sumOf", "(I)I"⟩
abbrev cX11_sum : ByteArray := prog_13_method_44_code
def yX11_sum : MethodName := ⟨RX11, "sum", "(I)I"⟩
abbrev cX11_topOf : ByteArray := prog_13_method_45_code
def yX11_topOf : MethodName := ⟨RX11, "topOf", "(I)I"⟩
abbrev cX11_top : ByteArray := prog_13_method_46_code
def yX11_top : MethodName := ⟨RX11, "top", "(I)I"⟩
abbrev cX11_mostOf : ByteArray := prog_13_method_47_code
def yX11_mostOf : MethodName := ⟨RX11, "mostOf", "(I)I"⟩
abbrev cX11_most : ByteArray := prog_13_method_48_code
def yX11_most : MethodName := ⟨RX11, "most", "(I)I"⟩
abbrev cX11_clumsyOf : ByteArray := prog_13_method_49_code
def yX11_clumsyOf : MethodName := ⟨RX11, "clumsyOf", "()I"⟩
abbrev cX11_clumsy : ByteArray := prog_13_method_50_code
def yX11_clumsy : MethodName := ⟨RX11, "clumsy", "()I"⟩
abbrev cX11_downOf : ByteArray := prog_13_method_51_code
def yX11_downOf : MethodName := ⟨RX11, "downOf", "()I"⟩
abbrev cX11_down : ByteArray := prog_13_method_52_code
def yX11_down : MethodName := ⟨RX11, "down", "()I"⟩
abbrev cX11_starts : ByteArray := prog_13_method_53_code
def yX11_starts : MethodName := ⟨RX11, "starts", "()V"⟩
abbrev cX11_tries : ByteArray := prog_13_method_54_code
def yX11_tries : MethodName := ⟨RX11, "tries", "(I)V"⟩
abbrev cX11_swapOf : ByteArray := prog_13_method_55_code
def yX11_swapOf : MethodName := ⟨RX11, "swapOf", "(I)I"⟩
abbrev cX11_swap : ByteArray := prog_13_method_56_code
def yX11_swap : MethodName := ⟨RX11, "swap", "(I)I"⟩
abbrev cX11_comeOf : ByteArray := prog_13_method_57_code
def yX11_comeOf : MethodName := ⟨RX11, "comeOf", "(II)I"⟩
abbrev cX11_come : ByteArray := prog_13_method_58_code
def yX11_come : MethodName := ⟨RX11, "come", "(II)I"⟩
abbrev cX11_trainOf : ByteArray := prog_13_method_59_code
def yX11_trainOf : MethodName := ⟨RX11, "trainOf", "(I)I"⟩
abbrev cX11_train : ByteArray := prog_13_method_60_code
def yX11_train : MethodName := ⟨RX11, "train", "(I)I"⟩
abbrev cX11_isSpared : ByteArray := prog_13_method_61_code
def yX11_isSpared : MethodName := ⟨RX11, "isSpared", "(I)Z"⟩
abbrev cX11_spareBy : ByteArray := prog_13_method_62_code
def yX11_spareBy : MethodName := ⟨RX11, "spareBy", "()I"⟩
abbrev cX11_ofRow : ByteArray := prog_13_method_63_code
def yX11_ofRow : MethodName := ⟨RX11, "ofRow", "(II)I"⟩
abbrev cX11_spare : ByteArray := prog_13_method_64_code
def yX11_spare : MethodName := ⟨RX11, "spare", "(I)I"⟩
abbrev cX11_seen : ByteArray := prog_13_method_65_code
def yX11_seen : MethodName := ⟨RX11, "seen", "(III)I"⟩
abbrev cX11_forget : ByteArray := prog_13_method_66_code
def yX11_forget : MethodName := ⟨RX11, "forget", "()I"⟩
abbrev cX11_isSeen : ByteArray := prog_13_method_67_code
def yX11_isSeen : MethodName := ⟨RX11, "isSeen", "()Z"⟩
abbrev cX11_neverNow : ByteArray := prog_13_method_68_code
def yX11_neverNow : MethodName := ⟨RX11, "neverNow", "()I"⟩
abbrev cX11_never : ByteArray := prog_13_method_69_code
def yX11_never : MethodName := ⟨RX11, "never", "()I"⟩
abbrev cX11_strengthsBy : ByteArray := prog_13_method_70_code
def yX11_strengthsBy : MethodName := ⟨RX11, "strengthsBy", "(I)I"⟩
abbrev cX11_weightsBy : ByteArray := prog_13_method_71_code
def yX11_weightsBy : MethodName := ⟨RX11, "weightsBy", "(I)I"⟩
abbrev cX11_was : ByteArray := prog_13_method_72_code
def yX11_was : MethodName := ⟨RX11, "was", "(II)I"⟩
abbrev cX11_askOf : ByteArray := prog_13_method_73_code
def yX11_askOf : MethodName := ⟨RX11, "askOf", "(I)I"⟩
abbrev cX11_ask : ByteArray := prog_13_method_74_code
def yX11_ask : MethodName := ⟨RX11, "ask", "(I)I"⟩
abbrev cX11_chanceOf : ByteArray := prog_13_method_75_code
def yX11_chanceOf : MethodName := ⟨RX11, "chanceOf", "(III)J"⟩
abbrev cX11_chance : ByteArray := prog_13_method_76_code
def yX11_chance : MethodName := ⟨RX11, "chance", "(III)J"⟩
abbrev cX11_yearsOf : ByteArray := prog_13_method_77_code
def yX11_yearsOf : MethodName := ⟨RX11, "yearsOf", "(III)I"⟩
abbrev cX11_years : ByteArray := prog_13_method_78_code
def yX11_years : MethodName := ⟨RX11, "years", "(III)I"⟩
abbrev cX11_meets : ByteArray := prog_13_method_79_code
def yX11_meets : MethodName := ⟨RX11, "meets", "(I)I"⟩
abbrev cX11_isSheet : ByteArray := prog_13_method_80_code
def yX11_isSheet : MethodName := ⟨RX11, "isSheet", "(I)Z"⟩
abbrev cX11_sheet : ByteArray := prog_13_method_81_code
def yX11_sheet : MethodName := ⟨RX11, "sheet", "(III)I"⟩
abbrev cX11_lose : ByteArray := prog_13_method_82_code
def yX11_lose : MethodName := ⟨RX11, "lose", "(I)I"⟩
abbrev cX11_lacks : ByteArray := prog_13_method_83_code
def yX11_lacks : MethodName := ⟨RX11, "lacks", "(III)I"⟩
abbrev cX11_keep : ByteArray := prog_13_method_84_code
def yX11_keep : MethodName := ⟨RX11, "keep", "(III)V"⟩
abbrev cX11_put : ByteArray := prog_13_method_85_code
def yX11_put : MethodName := ⟨RX11, "put", "(IIII)I"⟩
abbrev cX11_get : ByteArray := prog_13_method_86_code
def yX11_get : MethodName := ⟨RX11, "get", "(III)I"⟩
abbrev cX11_copy : ByteArray := prog_13_method_87_code
def yX11_copy : MethodName := ⟨RX11, "copy", "(IIIII)I"⟩
abbrev cX11_write : ByteArray := prog_13_method_88_code
def yX11_write : MethodName := ⟨RX11, "write", "(II)I"⟩
abbrev cX11_acrobatsOf : ByteArray := prog_13_method_89_code
def yX11_acrobatsOf : MethodName := ⟨RX11, "acrobatsOf", "()I"⟩
abbrev cX11_count : ByteArray := prog_13_method_90_code
def yX11_count : MethodName := ⟨RX11, "count", "(I)I"⟩
abbrev cX11_atDigest : ByteArray := prog_13_method_91_code
def yX11_atDigest : MethodName := ⟨RX11, "atDigest", "(JII)J"⟩
abbrev cX11_acrobatDigest : ByteArray := prog_13_method_92_code
def yX11_acrobatDigest : MethodName := ⟨RX11, "acrobatDigest", "(JI)J"⟩
abbrev cX11_digest : ByteArray := prog_13_method_93_code
def yX11_digest : MethodName := ⟨RX11, "digest", "()J"⟩
def RJ6 : String := "java/lang/Integer"
abbrev cJ6_bitCount_0f7a4 : ByteArray := prog_14_method_49_code
def yJ6_bitCount_0f7a4 : MethodName := ⟨RJ6, "bitCount", "(I)I"⟩
def RJ9 : String := "java/lang/Math"
abbrev cJ9_max_7cf53 : ByteArray := prog_15_method_65_code
def yJ9_max_7cf53 : MethodName := ⟨RJ9, "max", "(II)I"⟩
abbrev cJ9_min_7cf53 : ByteArray := prog_15_method_69_code
def yJ9_min_7cf53 : MethodName := ⟨RJ9, "min", "(II)I"⟩
def RJ10 : String := "java/lang/System"
def RJ7 : String := "java/util/Arrays"
abbrev cJ7_fill_53178 : ByteArray := prog_17_method_103_code
def yJ7_fill_53178 : MethodName := ⟨RJ7, "fill", "([II)V"⟩
def RL : String := "HumanPyramidLaw"
abbrev vwCl : List vw_C := [(RX0, TX0, 4), (RX1, TX1, 4), (RX2, TX2, 7), (RX3, TX3, 5), (RX4, TX4, 4), (RX5, TX5, 13), (RX6, TX6, 4), (RX7, TX7, 2), (RX8, TX8, 7), (RX9, TX9, 4), (RX10, TX10, 14), (RX11, TX11, 54)]
def mX0_init : MethodName × ByteArray × Nat × Option FieldType := (yX0_init, cX0_init, 1, none)
def mX0_begin : MethodName × ByteArray × Nat × Option FieldType := (yX0_begin, cX0_begin, 1, none)
def mX0_offer : MethodName × ByteArray × Nat × Option FieldType := (yX0_offer, cX0_offer, 4, none)
def mX0_part : MethodName × ByteArray × Nat × Option FieldType := (yX0_part, cX0_part, 2, some .int)
def mX1_init : MethodName × ByteArray × Nat × Option FieldType := (yX1_init, cX1_init, 1, none)
def mX1_add : MethodName × ByteArray × Nat × Option FieldType := (yX1_add, cX1_add, 4, none)
def mX1_allBits : MethodName × ByteArray × Nat × Option FieldType := (yX1_allBits, cX1_allBits, 1, some .int)
def mX1_drawByLot : MethodName × ByteArray × Nat × Option FieldType := (yX1_drawByLot, cX1_drawByLot, 8, none)
def mX1_following : MethodName × ByteArray × Nat × Option FieldType := (yX1_following, cX1_following, 1, some .int)
def mX2_init : MethodName × ByteArray × Nat × Option FieldType := (yX2_init, cX2_init, 1, none)
def mX2_forgetAnswers : MethodName × ByteArray × Nat × Option FieldType := (yX2_forgetAnswers, cX2_forgetAnswers, 1, none)
def mX2_neverBits : MethodName × ByteArray × Nat × Option FieldType := (yX2_neverBits, cX2_neverBits, 5, some .int)
def mX2_tryWeights : MethodName × ByteArray × Nat × Option FieldType := (yX2_tryWeights, cX2_tryWeights, 7, none)
def mX2_tryStrengths : MethodName × ByteArray × Nat × Option FieldType := (yX2_tryStrengths, cX2_tryStrengths, 7, none)
def mX2_tellingMoment : MethodName × ByteArray × Nat × Option FieldType := (yX2_tellingMoment, cX2_tellingMoment, 6, some .int)
def mX2_mostAlike : MethodName × ByteArray × Nat × Option FieldType := (yX2_mostAlike, cX2_mostAlike, 7, some .int)
def mX3_init : MethodName × ByteArray × Nat × Option FieldType := (yX3_init, cX3_init, 2, none)
def mX3_forgetAnswers : MethodName × ByteArray × Nat × Option FieldType := (yX3_forgetAnswers, cX3_forgetAnswers, 2, none)
def mX3_bestSwap : MethodName × ByteArray × Nat × Option FieldType := (yX3_bestSwap, cX3_bestSwap, 5, some (.object "HumanPyramid$Best"))
def mX3_bestMoment : MethodName × ByteArray × Nat × Option FieldType := (yX3_bestMoment, cX3_bestMoment, 6, some (.object "HumanPyramid$Best"))
def mX3_bestTraining : MethodName × ByteArray × Nat × Option FieldType := (yX3_bestTraining, cX3_bestTraining, 4, some (.object "HumanPyramid$Best"))
def mX4_init : MethodName × ByteArray × Nat × Option FieldType := (yX4_init, cX4_init, 1, none)
def mX4_renew : MethodName × ByteArray × Nat × Option FieldType := (yX4_renew, cX4_renew, 3, none)
def mX4_whatFails : MethodName × ByteArray × Nat × Option FieldType := (yX4_whatFails, cX4_whatFails, 3, some .int)
def mX4_hasRange : MethodName × ByteArray × Nat × Option FieldType := (yX4_hasRange, cX4_hasRange, 3, some .boolean)
def mX4_item : MethodName × ByteArray × Nat × Option FieldType := (yX4_item, cX4_item, 2, some .int)
def mX4_setItem : MethodName × ByteArray × Nat × Option FieldType := (yX4_setItem, cX4_setItem, 3, none)
def mX5_init : MethodName × ByteArray × Nat × Option FieldType := (yX5_init, cX5_init, 2, none)
def mX5_play : MethodName × ByteArray × Nat × Option FieldType := (yX5_play, cX5_play, 6, none)
def mX5_begin : MethodName × ByteArray × Nat × Option FieldType := (yX5_begin, cX5_begin, 1, none)
def mX5_gather : MethodName × ByteArray × Nat × Option FieldType := (yX5_gather, cX5_gather, 5, none)
def mX5_sneezing : MethodName × ByteArray × Nat × Option FieldType := (yX5_sneezing, cX5_sneezing, 4, some .int)
def mX5_applaud : MethodName × ByteArray × Nat × Option FieldType := (yX5_applaud, cX5_applaud, 3, none)
def mX5_climb : MethodName × ByteArray × Nat × Option FieldType := (yX5_climb, cX5_climb, 6, none)
def mX5_bear : MethodName × ByteArray × Nat × Option FieldType := (yX5_bear, cX5_bear, 5, none)
def mX5_tire : MethodName × ByteArray × Nat × Option FieldType := (yX5_tire, cX5_tire, 5, some .int)
def mX5_tiring : MethodName × ByteArray × Nat × Option FieldType := (yX5_tiring, cX5_tiring, 3, some .int)
def mX5_topple : MethodName × ByteArray × Nat × Option FieldType := (yX5_topple, cX5_topple, 6, none)
def mX5_keepFacts : MethodName × ByteArray × Nat × Option FieldType := (yX5_keepFacts, cX5_keepFacts, 6, none)
def mX5_stateOf : MethodName × ByteArray × Nat × Option FieldType := (yX5_stateOf, cX5_stateOf, 4, some .int)
def mX5_whoIsAt : MethodName × ByteArray × Nat × Option FieldType := (yX5_whoIsAt, cX5_whoIsAt, 4, some .int)
def mX6_init : MethodName × ByteArray × Nat × Option FieldType := (yX6_init, cX6_init, 1, none)
def mX6_add : MethodName × ByteArray × Nat × Option FieldType := (yX6_add, cX6_add, 4, none)
def mX6_fit : MethodName × ByteArray × Nat × Option FieldType := (yX6_fit, cX6_fit, 4, some .boolean)
def mX7_init : MethodName × ByteArray × Nat × Option FieldType := (yX7_init, cX7_init, 1, none)
def mX7_append : MethodName × ByteArray × Nat × Option FieldType := (yX7_append, cX7_append, 2, none)
def mX7_castInto : MethodName × ByteArray × Nat × Option FieldType := (yX7_castInto, cX7_castInto, 4, some .int)
def mX7_takes : MethodName × ByteArray × Nat × Option FieldType := (yX7_takes, cX7_takes, 4, some .boolean)
def mX7_takesPlace : MethodName × ByteArray × Nat × Option FieldType := (yX7_takesPlace, cX7_takesPlace, 3, some .boolean)
def mX8_init : MethodName × ByteArray × Nat × Option FieldType := (yX8_init, cX8_init, 1, none)
def mX8_dismiss : MethodName × ByteArray × Nat × Option FieldType := (yX8_dismiss, cX8_dismiss, 1, none)
def mX8_become : MethodName × ByteArray × Nat × Option FieldType := (yX8_become, cX8_become, 2, none)
def mX8_seat : MethodName × ByteArray × Nat × Option FieldType := (yX8_seat, cX8_seat, 3, none)
def mX8_exchange : MethodName × ByteArray × Nat × Option FieldType := (yX8_exchange, cX8_exchange, 4, none)
def mX9_init : MethodName × ByteArray × Nat × Option FieldType := (yX9_init, cX9_init, 1, none)
def mX9_forgetAnswers : MethodName × ByteArray × Nat × Option FieldType := (yX9_forgetAnswers, cX9_forgetAnswers, 1, none)
def mX9_firstFall : MethodName × ByteArray × Nat × Option FieldType := (yX9_firstFall, cX9_firstFall, 4, some .int)
def mX9_fewestToSpare : MethodName × ByteArray × Nat × Option FieldType := (yX9_fewestToSpare, cX9_fewestToSpare, 6, some (.object "HumanPyramid$Best"))
def mX9_chanceAbove : MethodName × ByteArray × Nat × Option FieldType := (yX9_chanceAbove, cX9_chanceAbove, 11, some .long)
def mX9_shareOf : MethodName × ByteArray × Nat × Option FieldType := (yX9_shareOf, cX9_shareOf, 6, some .long)
def mX10_init : MethodName × ByteArray × Nat × Option FieldType := (yX10_init, cX10_init, 2, none)
def mX10_type : MethodName × ByteArray × Nat × Option FieldType := (yX10_type, cX10_type, 2, some .int)
def mX10_wipe : MethodName × ByteArray × Nat × Option FieldType := (yX10_wipe, cX10_wipe, 2, some .int)
def mX10_undo : MethodName × ByteArray × Nat × Option FieldType := (yX10_undo, cX10_undo, 1, some .int)
def mX10_fault : MethodName × ByteArray × Nat × Option FieldType := (yX10_fault, cX10_fault, 1, some .int)
def mX10_acrobat : MethodName × ByteArray × Nat × Option FieldType := (yX10_acrobat, cX10_acrobat, 3, some .int)
def mX10_event : MethodName × ByteArray × Nat × Option FieldType := (yX10_event, cX10_event, 4, some .int)
def mX10_back : MethodName × ByteArray × Nat × Option FieldType := (yX10_back, cX10_back, 1, some .int)
def mX10_read : MethodName × ByteArray × Nat × Option FieldType := (yX10_read, cX10_read, 5, some .int)
def mX10_at : MethodName × ByteArray × Nat × Option FieldType := (yX10_at, cX10_at, 4, some .int)
def mX10_stands : MethodName × ByteArray × Nat × Option FieldType := (yX10_stands, cX10_stands, 3, some .int)
def mX10_tower : MethodName × ByteArray × Nat × Option FieldType := (yX10_tower, cX10_tower, 4, some .int)
def mX10_sum : MethodName × ByteArray × Nat × Option FieldType := (yX10_sum, cX10_sum, 2, some .int)
def mX10_top : MethodName × ByteArray × Nat × Option FieldType := (yX10_top, cX10_top, 6, some .int)
def mX10_most : MethodName × ByteArray × Nat × Option FieldType := (yX10_most, cX10_most, 5, some .int)
def mX10_clumsy : MethodName × ByteArray × Nat × Option FieldType := (yX10_clumsy, cX10_clumsy, 5, some .int)
def mX10_down : MethodName × ByteArray × Nat × Option FieldType := (yX10_down, cX10_down, 5, some .int)
def mX10_swap : MethodName × ByteArray × Nat × Option FieldType := (yX10_swap, cX10_swap, 2, some .int)
def mX10_come : MethodName × ByteArray × Nat × Option FieldType := (yX10_come, cX10_come, 4, some .int)
def mX10_train : MethodName × ByteArray × Nat × Option FieldType := (yX10_train, cX10_train, 3, some .int)
def mX10_spare : MethodName × ByteArray × Nat × Option FieldType := (yX10_spare, cX10_spare, 3, some .int)
def mX10_seen : MethodName × ByteArray × Nat × Option FieldType := (yX10_seen, cX10_seen, 4, some .int)
def mX10_forget : MethodName × ByteArray × Nat × Option FieldType := (yX10_forget, cX10_forget, 2, some .int)
def mX10_never : MethodName × ByteArray × Nat × Option FieldType := (yX10_never, cX10_never, 1, some .int)
def mX10_was : MethodName × ByteArray × Nat × Option FieldType := (yX10_was, cX10_was, 3, some .int)
def mX10_ask : MethodName × ByteArray × Nat × Option FieldType := (yX10_ask, cX10_ask, 2, some .int)
def mX10_chance : MethodName × ByteArray × Nat × Option FieldType := (yX10_chance, cX10_chance, 9, some .long)
def mX10_years : MethodName × ByteArray × Nat × Option FieldType := (yX10_years, cX10_years, 4, some .int)
def mX10_sheet : MethodName × ByteArray × Nat × Option FieldType := (yX10_sheet, cX10_sheet, 4, some .int)
def mX10_lose : MethodName × ByteArray × Nat × Option FieldType := (yX10_lose, cX10_lose, 2, some .int)
def mX10_put : MethodName × ByteArray × Nat × Option FieldType := (yX10_put, cX10_put, 6, some .int)
def mX10_get : MethodName × ByteArray × Nat × Option FieldType := (yX10_get, cX10_get, 5, some .int)
def mX10_copy : MethodName × ByteArray × Nat × Option FieldType := (yX10_copy, cX10_copy, 8, some .int)
def mX10_write : MethodName × ByteArray × Nat × Option FieldType := (yX10_write, cX10_write, 6, some .int)
def mX10_count : MethodName × ByteArray × Nat × Option FieldType := (yX10_count, cX10_count, 2, some .int)
def mX10_digest : MethodName × ByteArray × Nat × Option FieldType := (yX10_digest, cX10_digest, 4, some .long)
def mX10_mixedWithAcrobat : MethodName × ByteArray × Nat × Option FieldType := (yX10_mixedWithAcrobat, cX10_mixedWithAcrobat, 11, some .long)
def mX10_mixed : MethodName × ByteArray × Nat × Option FieldType := (yX10_mixed, cX10_mixed, 4, some .long)
def mX10_isWithin : MethodName × ByteArray × Nat × Option FieldType := (yX10_isWithin, cX10_isWithin, 2, some .boolean)
def mX10_hasBit : MethodName × ByteArray × Nat × Option FieldType := (yX10_hasBit, cX10_hasBit, 2, some .boolean)
def mX10_height : MethodName × ByteArray × Nat × Option FieldType := (yX10_height, cX10_height, 6, some .int)
def mX10_finding : MethodName × ByteArray × Nat × Option FieldType := (yX10_finding, cX10_finding, 2, some .int)
def mX10_castAnew : MethodName × ByteArray × Nat × Option FieldType := (yX10_castAnew, cX10_castAnew, 1, none)
def mX10_forgetAnswers : MethodName × ByteArray × Nat × Option FieldType := (yX10_forgetAnswers, cX10_forgetAnswers, 1, none)
def mX10_played : MethodName × ByteArray × Nat × Option FieldType := (yX10_played, cX10_played, 1, some (.object "HumanPyramid$Show"))
def mX11_init : MethodName × ByteArray × Nat × Option FieldType := (yX11_init, cX11_init, 1, none)
def mX11_in : MethodName × ByteArray × Nat × Option FieldType := (yX11_in, cX11_in, 3, some .boolean)
def mX11_isIn : MethodName × ByteArray × Nat × Option FieldType := (yX11_isIn, cX11_isIn, 2, some .boolean)
def mX11_no : MethodName × ByteArray × Nat × Option FieldType := (yX11_no, cX11_no, 1, some .long)
def mX11_lowest : MethodName × ByteArray × Nat × Option FieldType := (yX11_lowest, cX11_lowest, 11, some .long)
def mX11_isMoment : MethodName × ByteArray × Nat × Option FieldType := (yX11_isMoment, cX11_isMoment, 1, some .boolean)
def mX11_isTen : MethodName × ByteArray × Nat × Option FieldType := (yX11_isTen, cX11_isTen, 1, some .boolean)
def mX11_isTwo : MethodName × ByteArray × Nat × Option FieldType := (yX11_isTwo, cX11_isTwo, 1, some .boolean)
def mX11_isThree : MethodName × ByteArray × Nat × Option FieldType := (yX11_isThree, cX11_isThree, 1, some .boolean)
def mX11_type : MethodName × ByteArray × Nat × Option FieldType := (yX11_type, cX11_type, 2, some .int)
def mX11_wipe : MethodName × ByteArray × Nat × Option FieldType := (yX11_wipe, cX11_wipe, 2, some .int)
def mX11_undo : MethodName × ByteArray × Nat × Option FieldType := (yX11_undo, cX11_undo, 1, some .int)
def mX11_byteAt : MethodName × ByteArray × Nat × Option FieldType := (yX11_byteAt, cX11_byteAt, 2, some .int)
def mX11_isTaken : MethodName × ByteArray × Nat × Option FieldType := (yX11_isTaken, cX11_isTaken, 5, some .boolean)
def mX11_readsOne : MethodName × ByteArray × Nat × Option FieldType := (yX11_readsOne, cX11_readsOne, 9, some .int)
def mX11_faultOf : MethodName × ByteArray × Nat × Option FieldType := (yX11_faultOf, cX11_faultOf, 4, some .int)
def mX11_reads : MethodName × ByteArray × Nat × Option FieldType := (yX11_reads, cX11_reads, 2, none)
def mX11_fault : MethodName × ByteArray × Nat × Option FieldType := (yX11_fault, cX11_fault, 1, some .int)
def mX11_isAcrobat : MethodName × ByteArray × Nat × Option FieldType := (yX11_isAcrobat, cX11_isAcrobat, 2, some .boolean)
def mX11_acrobatOf : MethodName × ByteArray × Nat × Option FieldType := (yX11_acrobatOf, cX11_acrobatOf, 3, some .int)
def mX11_acrobat : MethodName × ByteArray × Nat × Option FieldType := (yX11_acrobat, cX11_acrobat, 3, some .int)
def mX11_event : MethodName × ByteArray × Nat × Option FieldType := (yX11_event, cX11_event, 4, some .int)
def mX11_back : MethodName × ByteArray × Nat × Option FieldType := (yX11_back, cX11_back, 1, some .int)
def mX11_read : MethodName × ByteArray × Nat × Option FieldType := (yX11_read, cX11_read, 4, some .int)
def mX11_asTold : MethodName × ByteArray × Nat × Option FieldType := (yX11_asTold, cX11_asTold, 2, none)
def mX11_below : MethodName × ByteArray × Nat × Option FieldType := (yX11_below, cX11_below, 1, some .int)
def mX11_isUp : MethodName × ByteArray × Nat × Option FieldType := (yX11_isUp, cX11_isUp, 2, some .boolean)
def mX11_allFall : MethodName × ByteArray × Nat × Option FieldType := (yX11_allFall, cX11_allFall, 6, none)
def mX11_befalls : MethodName × ByteArray × Nat × Option FieldType := (yX11_befalls, cX11_befalls, 5, none)
def mX11_lies : MethodName × ByteArray × Nat × Option FieldType := (yX11_lies, cX11_lies, 3, some .boolean)
def mX11_climbs : MethodName × ByteArray × Nat × Option FieldType := (yX11_climbs, cX11_climbs, 5, none)
def mX11_bears : MethodName × ByteArray × Nat × Option FieldType := (yX11_bears, cX11_bears, 4, none)
def mX11_notes : MethodName × ByteArray × Nat × Option FieldType := (yX11_notes, cX11_notes, 4, none)
def mX11_runs : MethodName × ByteArray × Nat × Option FieldType := (yX11_runs, cX11_runs, 2, none)
def mX11_runsTold : MethodName × ByteArray × Nat × Option FieldType := (yX11_runsTold, cX11_runsTold, 1, none)
def mX11_atOf : MethodName × ByteArray × Nat × Option FieldType := (yX11_atOf, cX11_atOf, 5, some .int)
def mX11_at : MethodName × ByteArray × Nat × Option FieldType := (yX11_at, cX11_at, 4, some .int)
def mX11_standsOf : MethodName × ByteArray × Nat × Option FieldType := (yX11_standsOf, cX11_standsOf, 3, some .int)
def mX11_stands : MethodName × ByteArray × Nat × Option FieldType := (yX11_stands, cX11_stands, 3, some .int)
def mX11_towerOf : MethodName × ByteArray × Nat × Option FieldType := (yX11_towerOf, cX11_towerOf, 5, some .int)
def mX11_tower : MethodName × ByteArray × Nat × Option FieldType := (yX11_tower, cX11_tower, 3, some .int)
def mX11_sumOf : MethodName × ByteArray × Nat × Option FieldType := (yX11_sumOf, cX11_sumOf, 2, some .int)
def mX11_sum : MethodName × ByteArray × Nat × Option FieldType := (yX11_sum, cX11_sum, 2, some .int)
def mX11_topOf : MethodName × ByteArray × Nat × Option FieldType := (yX11_topOf, cX11_topOf, 2, some .int)
def mX11_top : MethodName × ByteArray × Nat × Option FieldType := (yX11_top, cX11_top, 2, some .int)
def mX11_mostOf : MethodName × ByteArray × Nat × Option FieldType := (yX11_mostOf, cX11_mostOf, 2, some .int)
def mX11_most : MethodName × ByteArray × Nat × Option FieldType := (yX11_most, cX11_most, 2, some .int)
def mX11_clumsyOf : MethodName × ByteArray × Nat × Option FieldType := (yX11_clumsyOf, cX11_clumsyOf, 4, some .int)
def mX11_clumsy : MethodName × ByteArray × Nat × Option FieldType := (yX11_clumsy, cX11_clumsy, 1, some .int)
def mX11_downOf : MethodName × ByteArray × Nat × Option FieldType := (yX11_downOf, cX11_downOf, 1, some .int)
def mX11_down : MethodName × ByteArray × Nat × Option FieldType := (yX11_down, cX11_down, 1, some .int)
def mX11_starts : MethodName × ByteArray × Nat × Option FieldType := (yX11_starts, cX11_starts, 1, none)
def mX11_tries : MethodName × ByteArray × Nat × Option FieldType := (yX11_tries, cX11_tries, 2, none)
def mX11_swapOf : MethodName × ByteArray × Nat × Option FieldType := (yX11_swapOf, cX11_swapOf, 6, some .int)
def mX11_swap : MethodName × ByteArray × Nat × Option FieldType := (yX11_swap, cX11_swap, 2, some .int)
def mX11_comeOf : MethodName × ByteArray × Nat × Option FieldType := (yX11_comeOf, cX11_comeOf, 5, some .int)
def mX11_come : MethodName × ByteArray × Nat × Option FieldType := (yX11_come, cX11_come, 3, some .int)
def mX11_trainOf : MethodName × ByteArray × Nat × Option FieldType := (yX11_trainOf, cX11_trainOf, 4, some .int)
def mX11_train : MethodName × ByteArray × Nat × Option FieldType := (yX11_train, cX11_train, 2, some .int)
def mX11_isSpared : MethodName × ByteArray × Nat × Option FieldType := (yX11_isSpared, cX11_isSpared, 2, some .boolean)
def mX11_spareBy : MethodName × ByteArray × Nat × Option FieldType := (yX11_spareBy, cX11_spareBy, 3, some .int)
def mX11_ofRow : MethodName × ByteArray × Nat × Option FieldType := (yX11_ofRow, cX11_ofRow, 3, some .int)
def mX11_spare : MethodName × ByteArray × Nat × Option FieldType := (yX11_spare, cX11_spare, 2, some .int)
def mX11_seen : MethodName × ByteArray × Nat × Option FieldType := (yX11_seen, cX11_seen, 4, some .int)
def mX11_forget : MethodName × ByteArray × Nat × Option FieldType := (yX11_forget, cX11_forget, 2, some .int)
def mX11_isSeen : MethodName × ByteArray × Nat × Option FieldType := (yX11_isSeen, cX11_isSeen, 4, some .boolean)
def mX11_neverNow : MethodName × ByteArray × Nat × Option FieldType := (yX11_neverNow, cX11_neverNow, 3, some .int)
def mX11_never : MethodName × ByteArray × Nat × Option FieldType := (yX11_never, cX11_never, 1, some .int)
def mX11_strengthsBy : MethodName × ByteArray × Nat × Option FieldType := (yX11_strengthsBy, cX11_strengthsBy, 6, some .int)
def mX11_weightsBy : MethodName × ByteArray × Nat × Option FieldType := (yX11_weightsBy, cX11_weightsBy, 5, some .int)
def mX11_was : MethodName × ByteArray × Nat × Option FieldType := (yX11_was, cX11_was, 3, some .int)
def mX11_askOf : MethodName × ByteArray × Nat × Option FieldType := (yX11_askOf, cX11_askOf, 10, some .int)
def mX11_ask : MethodName × ByteArray × Nat × Option FieldType := (yX11_ask, cX11_ask, 2, some .int)
def mX11_chanceOf : MethodName × ByteArray × Nat × Option FieldType := (yX11_chanceOf, cX11_chanceOf, 10, some .long)
def mX11_chance : MethodName × ByteArray × Nat × Option FieldType := (yX11_chance, cX11_chance, 4, some .long)
def mX11_yearsOf : MethodName × ByteArray × Nat × Option FieldType := (yX11_yearsOf, cX11_yearsOf, 6, some .int)
def mX11_years : MethodName × ByteArray × Nat × Option FieldType := (yX11_years, cX11_years, 4, some .int)
def mX11_meets : MethodName × ByteArray × Nat × Option FieldType := (yX11_meets, cX11_meets, 2, some .int)
def mX11_isSheet : MethodName × ByteArray × Nat × Option FieldType := (yX11_isSheet, cX11_isSheet, 1, some .boolean)
def mX11_sheet : MethodName × ByteArray × Nat × Option FieldType := (yX11_sheet, cX11_sheet, 5, some .int)
def mX11_lose : MethodName × ByteArray × Nat × Option FieldType := (yX11_lose, cX11_lose, 2, some .int)
def mX11_lacks : MethodName × ByteArray × Nat × Option FieldType := (yX11_lacks, cX11_lacks, 4, some .int)
def mX11_keep : MethodName × ByteArray × Nat × Option FieldType := (yX11_keep, cX11_keep, 4, none)
def mX11_put : MethodName × ByteArray × Nat × Option FieldType := (yX11_put, cX11_put, 6, some .int)
def mX11_get : MethodName × ByteArray × Nat × Option FieldType := (yX11_get, cX11_get, 5, some .int)
def mX11_copy : MethodName × ByteArray × Nat × Option FieldType := (yX11_copy, cX11_copy, 7, some .int)
def mX11_write : MethodName × ByteArray × Nat × Option FieldType := (yX11_write, cX11_write, 4, some .int)
def mX11_acrobatsOf : MethodName × ByteArray × Nat × Option FieldType := (yX11_acrobatsOf, cX11_acrobatsOf, 1, some .int)
def mX11_count : MethodName × ByteArray × Nat × Option FieldType := (yX11_count, cX11_count, 2, some .int)
def mX11_atDigest : MethodName × ByteArray × Nat × Option FieldType := (yX11_atDigest, cX11_atDigest, 8, some .long)
def mX11_acrobatDigest : MethodName × ByteArray × Nat × Option FieldType := (yX11_acrobatDigest, cX11_acrobatDigest, 7, some .long)
def mX11_digest : MethodName × ByteArray × Nat × Option FieldType := (yX11_digest, cX11_digest, 4, some .long)
def mJ6_bitCount_0f7a4 : MethodName × ByteArray × Nat × Option FieldType := (yJ6_bitCount_0f7a4, cJ6_bitCount_0f7a4, 1, some .int)
def mJ9_max_7cf53 : MethodName × ByteArray × Nat × Option FieldType := (yJ9_max_7cf53, cJ9_max_7cf53, 2, some .int)
def mJ9_min_7cf53 : MethodName × ByteArray × Nat × Option FieldType := (yJ9_min_7cf53, cJ9_min_7cf53, 2, some .int)
def mJ7_fill_53178 : MethodName × ByteArray × Nat × Option FieldType := (yJ7_fill_53178, cJ7_fill_53178, 4, none)
end
section
/-! THE ABSTRACT MACHINE: a heap of numbered cells (count, slots, shapes, references, ints), instructions as a function, tied to W -/
abbrev MD : Type := MethodName × ByteArray × Nat × Option FieldType
abbrev Hp : Type := Nat × Nat × (Nat → Nat × Nat) × (Nat → Nat → Option Nat) × (Nat → Nat → Int32)
abbrev AI : Type := Instr × Nat × Nat × Nat × Nat × Nat × Int32 × Int64
abbrev LsA : Type := List (Option Value)
abbrev ScA : Type := Nat × (Nat → Int32)
def su (σ : Nat → Nat → Int32) (k j : Nat) (v : Int32) : Nat → Nat → Int32 := fun a b => if a = k ∧ b = j then v else σ a b
def sr (σ : Nat → Nat → Int32) (k : Nat) (f : Nat → Int32) : Nat → Nat → Int32 := fun a b => if a = k then f b else σ a b
def ru (r : Nat → Nat → Option Nat) (k j : Nat) (v : Option Nat) : Nat → Nat → Option Nat := fun a b => if a = k ∧ b = j then v else r a b
def rr (r : Nat → Nat → Option Nat) (k : Nat) (f : Nat → Option Nat) : Nat → Nat → Option Nat := fun a b => if a = k then f b else r a b
theorem su_eq (σ : Nat → Nat → Int32) (k j : Nat) (v : Int32) : su σ k j v k j = v := if_pos ⟨rfl, rfl⟩
theorem su_ne (σ : Nat → Nat → Int32) (k j : Nat) (v : Int32) {a b : Nat} (h : a ≠ k ∨ b ≠ j) : su σ k j v a b = σ a b := if_neg (fun q => h.elim (fun z => z q.1) (fun z => z q.2))
theorem su_row (σ : Nat → Nat → Int32) (k j : Nat) (v : Int32) : su σ k j v k = upd (σ k) j v := by
  funext b
  by_cases h : b = j <;> simp [su, upd, h]
theorem su_off (σ : Nat → Nat → Int32) (k j : Nat) (v : Int32) {a : Nat} (h : a ≠ k) : su σ k j v a = σ a := by
  funext b
  exact su_ne σ k j v (Or.inl h)
theorem sr_row (σ : Nat → Nat → Int32) (k : Nat) (f : Nat → Int32) : sr σ k f k = f := by
  funext b
  simp [sr]
theorem sr_off (σ : Nat → Nat → Int32) (k : Nat) (f : Nat → Int32) {a : Nat} (h : a ≠ k) : sr σ k f a = σ a := by
  funext b
  simp [sr, h]
theorem ru_off (σ : Nat → Nat → Option Nat) (k j : Nat) (v : Option Nat) {a : Nat} (h : a ≠ k) : ru σ k j v a = σ a := by
  funext b
  simp [ru, h]
theorem ru_row (σ : Nat → Nat → Option Nat) (k j : Nat) (v : Option Nat) : ru σ k j v k = va_up (σ k) j v := by
  funext b
  by_cases h : b = j <;> simp [ru, va_up, h]
theorem rr_off (σ : Nat → Nat → Option Nat) (k : Nat) (f : Nat → Option Nat) {a : Nat} (h : a ≠ k) : rr σ k f a = σ a := by
  funext b
  simp [rr, h]
theorem rr_row (σ : Nat → Nat → Option Nat) (k : Nat) (f : Nat → Option Nat) : rr σ k f k = f := by
  funext b
  simp [rr]
def nF (ci : Nat) : Nat := ([4, 4, 7, 5, 4, 13, 4, 2, 7, 4, 14, 54] : List Nat).getD ci 0
def tyF (ci : Nat) : Nat → FieldType := ([tyX0, tyX1, tyX2, tyX3, tyX4, tyX5, tyX6, tyX7, tyX8, tyX9, tyX10, tyX11] : List (Nat → FieldType)).getD ci (fun _ => .int)
def clF (ci : Nat) : vw_C := vwCl.getD ci (RX0, TX0, 0)
def isRf (ci j : Nat) : Bool := (tyF ci j).isReference
def inB (i : Int32) (n : Nat) : Bool := decide (¬ (i < 0 ∨ n ≤ i.toNatClampNeg))
theorem inB_iff {i : Int32} {n : Nat} : inB i n = true ↔ vp_in i n := by
  unfold inB vp_in
  exact decide_eq_true_iff
/-- the static tables of the class, read only: 0 LEFT_BELOW, 1 SUPPORTS, 2 ROWS, 3 DIGEST_MOMENTS; 4 the script -/
def tbN (j : Nat) : String := ([ "LEFT_BELOW", "SUPPORTS", "ROWS", "DIGEST_MOMENTS"] : List String).getD j ""
def tbL (j : Nat) : List Int32 := ([[0, 0, 0, 0, 0, 1, 2, 4, 5, 7], [0, 0, 0, 0, 3, 6, 12, 48, 96, 384], [15, 112, 384, 512], [0, 4, 10, 17, 23]] : List (List Int32)).getD j []
def tbV (scr : ScA) (j : Nat) (i : Nat) : Int32 := match j with
  | 0 => (tbL 0).getD i 0
  | 1 => (tbL 1).getD i 0
  | 2 => (tbL 2).getD i 0
  | 3 => (tbL 3).getD i 0
  | _ => scr.2 i
def tbS (scr : ScA) (j : Nat) : Nat := match j with
  | 0 => 10
  | 1 => 10
  | 2 => 4
  | 3 => 5
  | _ => scr.1
def rvA (z : Nat) (tb : Nat → Nat) (v : Value) : Value := match v with
  | .ref k => .ref (z + k)
  | .retAddr j => .ref (tb j)
  | v => v
theorem rvA_cat (z : Nat) (tb : Nat → Nat) (v : Value) : (rvA z tb v).category = v.category := by cases v <;> rfl
/-- locals -/
def gL (ls : LsA) (a : Nat) : Option Value := ls.getD a none
def kiL (ls : LsA) (i : Nat) : LsA := match i with
  | 0 => ls
  | j + 1 => match ls.getD j none with
    | none => ls
    | some w => match w with
      | .long _ => ls.set j none
      | .double _ => ls.set j none
      | _ => ls
def stL (ls : LsA) (i : Nat) (v : Value) : LsA := (kiL ls i).set i (some v)
def stL2 (ls : LsA) (i : Nat) (v : Value) : LsA := ((kiL ls i).set (i + 1) none).set i (some v)
def lsOK (nL z : Nat) (tb : Nat → Nat) (ls : LsA) (A : Array Slot) : Prop := A.size = nL ∧ lv_wf A ∧ ∀ (i : Nat) (v : Value), ls.getD i none = some v → A[i]? = some (.val (rvA z tb v))
def lsP (z : Nat) (tb : Nat → Nat) (ls : LsA) : List (Nat × Value) := (List.range ls.length).filterMap (fun i => (ls.getD i none).map (fun v => (i, rvA z tb v)))
theorem lsP_mem {z : Nat} {tb : Nat → Nat} {ls : LsA} {q : Nat × Value} : q ∈ lsP z tb ls ↔ ∃ v, ls.getD q.1 none = some v ∧ q.2 = rvA z tb v := by
  unfold lsP
  rw [List.mem_filterMap]
  constructor
  · rintro ⟨i, hi, h⟩
    cases hv : ls.getD i none with
    | none => rw [hv] at h; cases h
    | some v => rw [hv] at h; cases h; exact ⟨v, hv, rfl⟩
  · rintro ⟨v, h1, h2⟩
    refine ⟨q.1, ?_, ?_⟩
    · rw [List.mem_range]
      rcases Nat.lt_or_ge q.1 ls.length with h | h
      · exact h
      · rw [List.getD_eq_getElem?_getD, List.getElem?_eq_none h] at h1; cases h1
    · rw [h1]; simp [← h2]
theorem lsOK_has {nL z : Nat} {tb : Nat → Nat} {ls : LsA} {A : Array Slot} (h : lsOK nL z tb ls A) : lv_has A nL (lsP z tb ls) := ⟨h.1, h.2.1, fun q hq => by
  obtain ⟨v, h1, h2⟩ := lsP_mem.mp hq
  rw [h2]
  exact h.2.2 q.1 v h1⟩
theorem getD_set_self {ls : LsA} {i : Nat} {x : Option Value} {v : Value} (h : (ls.set i x).getD i none = some v) : x = some v := by
  rw [List.getD_eq_getElem?_getD, List.getElem?_set] at h
  by_cases hl : i < ls.length
  · simpa [hl] using h
  · simp [hl] at h
theorem getD_set_ne {ls : LsA} {i j : Nat} {x : Option Value} (h : i ≠ j) : (ls.set i x).getD j none = ls.getD j none := by
  rw [List.getD_eq_getElem?_getD, List.getElem?_set_ne h, List.getD_eq_getElem?_getD]
theorem kiL_get {ls : LsA} {i j : Nat} {v : Value} (h : (kiL ls i).getD j none = some v) : ls.getD j none = some v ∧ ¬ (j + 1 = i ∧ v.category = 2) := by
  cases i with
  | zero => exact ⟨h, fun q => by omega⟩
  | succ k =>
    unfold kiL at h
    simp only at h
    cases hk : ls.getD k none with
    | none =>
      rw [hk] at h
      refine ⟨h, fun q => ?_⟩
      have : j = k := by omega
      subst this
      rw [hk] at h; cases h
    | some w =>
      rw [hk] at h
      have key : ∀ {x : LsA}, x = ls.set k none → (x.getD j none = some v) → ls.getD j none = some v ∧ ¬ (j + 1 = k + 1 ∧ v.category = 2) := by
        intro x hx hq
        subst hx
        by_cases e : k = j
        · subst e
          have := getD_set_self hq
          cases this
        · rw [getD_set_ne e] at hq
          exact ⟨hq, fun q => e (by omega)⟩
      have key2 : w.category ≠ 2 → ls.getD j none = some v → ls.getD j none = some v ∧ ¬ (j + 1 = k + 1 ∧ v.category = 2) := by
        intro hc hq
        refine ⟨hq, fun q => ?_⟩
        have e : j = k := by omega
        subst e
        rw [hk] at hq
        cases hq
        exact hc q.2
      cases w with
      | long _ => exact key rfl h
      | double _ => exact key rfl h
      | int _ => exact key2 (by simp [Value.category]) h
      | float _ => exact key2 (by simp [Value.category]) h
      | null => exact key2 (by simp [Value.category]) h
      | ref _ => exact key2 (by simp [Value.category]) h
      | retAddr _ => exact key2 (by simp [Value.category]) h
theorem lsOK_st {nL z i : Nat} {tb : Nat → Nat} {ls : LsA} {A : Array Slot} {v : Value} (h : lv_has A nL ((i, rvA z tb v) :: (lsP z tb ls).filter (fun q => !(q.1 == i) && !(q.1 + 1 == i && q.2.category == 2)))) : lsOK nL z tb (stL ls i v) A := by
  refine ⟨h.1, h.2.1, fun j w hj => ?_⟩
  unfold stL at hj
  by_cases e : i = j
  · subst e
    rw [← Option.some.inj (getD_set_self hj)]
    exact h.2.2 _ List.mem_cons_self
  · rw [getD_set_ne e] at hj
    obtain ⟨h1, h2⟩ := kiL_get hj
    refine h.2.2 (j, rvA z tb w) (List.mem_cons_of_mem _ (List.mem_filter.mpr ⟨lsP_mem.mpr ⟨w, h1, rfl⟩, ?_⟩))
    simp only [rvA_cat, Bool.and_eq_true, Bool.not_eq_true', beq_eq_false_iff_ne, ne_eq, Bool.and_eq_false_iff]
    refine ⟨fun q => e q.symm, ?_⟩
    by_cases q1 : j + 1 = i
    · exact Or.inr fun q2 => h2 ⟨q1, q2⟩
    · exact Or.inl q1
theorem lsOK_st2 {nL z i : Nat} {tb : Nat → Nat} {ls : LsA} {A : Array Slot} {v : Value} (h : lv_has A nL ((i, rvA z tb v) :: (lsP z tb ls).filter (fun q => !(q.1 == i) && (!(q.1 == i + 1) && !(q.1 + 1 == i && q.2.category == 2))))) : lsOK nL z tb (stL2 ls i v) A := by
  refine ⟨h.1, h.2.1, fun j w hj => ?_⟩
  unfold stL2 at hj
  by_cases e : i = j
  · subst e
    rw [← Option.some.inj (getD_set_self hj)]
    exact h.2.2 _ List.mem_cons_self
  · rw [getD_set_ne e] at hj
    by_cases e2 : i + 1 = j
    · subst e2
      have := getD_set_self hj
      cases this
    · rw [getD_set_ne e2] at hj
      obtain ⟨h1, h2⟩ := kiL_get hj
      refine h.2.2 (j, rvA z tb w) (List.mem_cons_of_mem _ (List.mem_filter.mpr ⟨lsP_mem.mpr ⟨w, h1, rfl⟩, ?_⟩))
      simp only [rvA_cat, Bool.and_eq_true, Bool.not_eq_true', beq_eq_false_iff_ne, ne_eq, Bool.and_eq_false_iff]
      refine ⟨fun q => e q.symm, fun q => e2 q.symm, ?_⟩
      by_cases q1 : j + 1 = i
      · exact Or.inr fun q2 => h2 ⟨q1, q2⟩
      · exact Or.inl q1
/-- the worlds -/
def flV (z : Nat) (h : Hp) (k ci j : Nat) : Value := if isRf ci j = true then va_rf ((h.2.2.2.1 k j).map (fun a => z + a)) else .int (h.2.2.2.2 k j)
def celA (cy : Nat → ClassId) (z : Nat) (h : Hp) (k : Nat) : va_E := match h.2.2.1 k with
  | (0, ci) => .inr (ci, (List.range (nF ci)).map (flV z h k ci))
  | (1, n) => .inl (cy 0, n, .inl (h.2.2.2.2 k))
  | (2, n) => .inl (cy 1, n, .inl (h.2.2.2.2 k))
  | (t + 3, n) => .inl (cy (t + 2), n, .inr (.inr (.inr (.inr (fun j => (h.2.2.2.1 k j).map (fun a => z + a))))))
def wldA (cy : Nat → ClassId) (z : Nat) (h : Hp) : va_W := (List.range h.1).map (fun k => (z + k, celA cy z h k))
theorem wld_get {cy : Nat → ClassId} {z k : Nat} {h : Hp} (hk : k < h.1) : (wldA cy z h)[k]? = some (z + k, celA cy z h k) := by
  unfold wldA
  rw [List.getElem?_map, List.getElem?_range hk]
  rfl
theorem wld_lt {cy : Nat → ClassId} {z k : Nat} {h : Hp} {q : Nat × va_E} (hq : (wldA cy z h)[k]? = some q) : k < h.1 ∧ q = (z + k, celA cy z h k) := by
  have hl : k < h.1 := by
    have := (List.getElem?_eq_some_iff.mp hq).1
    simpa [wldA] using this
  exact ⟨hl, (Option.some.inj ((wld_get hl).symm.trans hq)).symm⟩
theorem wld_D {cy : Nat → ClassId} {z : Nat} {h : Hp} : va_D (fun q => z ≤ q) (wldA cy z h) := by
  refine ⟨fun i j p q hi hj e => ?_, fun k q hk => ?_⟩
  · rw [(wld_lt hi).2, (wld_lt hj).2] at e
    have e' : z + i = z + j := e
    omega
  · rw [(wld_lt hk).2]
    exact Nat.le_add_right _ _
theorem wld_set {cy : Nat → ClassId} {z k : Nat} {h h' : Hp} {x : va_E} (hn : h'.1 = h.1) (hk : k < h.1) (ho : ∀ i, i ≠ k → celA cy z h' i = celA cy z h i) (hx : celA cy z h' k = x) : (wldA cy z h).set k (z + k, x) = wldA cy z h' := by
  apply List.ext_getElem?
  intro i
  by_cases hi : i < h.1
  · rw [wld_get (h := h') (by omega)]
    by_cases e : i = k
    · subst e
      rw [List.getElem?_set_self (by simpa [wldA] using hi), hx]
    · rw [List.getElem?_set_ne (Ne.symm e), wld_get hi, ho i e]
  · rw [List.getElem?_eq_none (by simp [wldA]; omega), List.getElem?_eq_none (by simp [wldA]; omega)]
theorem wld_push {cy : Nat → ClassId} {z : Nat} {h h' : Hp} {x : va_E} (hn : h'.1 = h.1 + 1) (ho : ∀ i, i < h.1 → celA cy z h' i = celA cy z h i) (hx : celA cy z h' h.1 = x) : wldA cy z h ++ [(z + h.1, x)] = wldA cy z h' := by
  unfold wldA
  rw [hn, List.range_succ, List.map_append]
  congr 1
  · apply List.map_congr_left
    intro i hi
    rw [ho i (List.mem_range.mp hi)]
  · simp [hx]
end
section
/-! the tables' words, by their places -/
def gwT : List Cond := lw_tbl.filter goodWord
def inT (p : Nat) (w : Cond) : Bool := decide (lw_tbl[p]? = some w) && goodWord w
theorem inT_mem {p : Nat} {w : Cond} (h : inT p w = true) : w ∈ gwT := by
  unfold inT at h
  rw [Bool.and_eq_true, decide_eq_true_eq] at h
  exact List.mem_filter.mpr ⟨List.mem_of_getElem? h.1, h.2⟩
theorem gwT_good {w : Cond} (h : w ∈ gwT) : w ∈ lw_tbl ∧ ((w.onTables && w.keeps) = true ∨ ∃ ty, w = .arrayClass ty) := ⟨(List.mem_filter.mp h).1, good_of_word (List.mem_filter.mp h).2⟩
def wsM (M : MD) : List Cond := Cond.code M.1 M.2.1 M.2.2.1 M.2.2.2 :: gwT
def nestM : List Cond := lw_tbl.filter (fun w => match w with | .methodLinkNest _ _ _ _ => true | _ => false)
def nestF : List Cond := lw_tbl.filter (fun w => match w with | .fieldLinkNest _ _ _ _ _ _ => true | _ => false)
def inN (p : Nat) (w : Cond) : Bool := decide (lw_tbl[p]? = some w)
def tyA (cy : Nat → ClassId) : List (ClassId × FieldType) := [(cy 0, .int), (cy 1, .boolean), (cy 2, .object "HumanPyramid$Best"), (cy 3, .object "HumanPyramid$Sheet"), (cy 4, .array .int)]
/-- what the tables say that is no word of gwT, the static rows and the script -/
def TbA (tb : Nat → Nat) (z : Nat) (scr : ScA) (U : State) (H : Heap) : Prop :=
  (∀ j, j < 4 → va_Z "HumanPyramid" (tbN j) "[I" (.ref (tb j)) (fun q => z ≤ q) U H) ∧ (∀ j, j < 5 → va_T .int (tb j) (tbS scr j) (fun i => .int (tbV scr j i)) (fun q => z ≤ q) U H) ∧
  (∀ w ∈ nestM, va_Nw w U) ∧ (∀ w ∈ nestF, va_Nw w U) ∧ va_AO "HumanPyramid$Best" U ∧ va_AO "HumanPyramid$Sheet" U ∧ va_Nw (.arrayOver (.array .int)) U
theorem nestM_of {w : Cond} (h : w ∈ nestM) : ∃ a i x b, w = .methodLinkNest a i x b := by
  have := (List.mem_filter.mp h).2
  cases w <;> first | exact ⟨_, _, _, _, rfl⟩ | cases this
theorem nestF_of {w : Cond} (h : w ∈ nestF) : ∃ a i x b c d, w = .fieldLinkNest a i x b c d := by
  have := (List.mem_filter.mp h).2
  cases w <;> first | exact ⟨_, _, _, _, _, _, rfl⟩ | cases this
theorem TbA.moved {tb : Nat → Nat} {z : Nat} {scr : ScA} {u U : State} {H H1 : Heap} (h : TbA tb z scr u H) (hW : u.WarmedH U.vm) (hq : ∀ a : Nat, a < H.size → ¬ z ≤ a → H1[a]? = H[a]?) : TbA tb z scr U H1 := by
  obtain ⟨h1, h2, h3, h4, h5, h6, h7⟩ := h
  refine ⟨fun j hj => ((h1 j hj).moved hW.alike).kept hq, fun j hj => ((h2 j hj).moved hW.alike).kept hq, fun w hw => ?_, fun w hw => ?_, h5.moved hW.alike, h6.moved hW.alike, ?_⟩
  · obtain ⟨a, i, x, b, rfl⟩ := nestM_of hw
    exact va_Nw.warmM hW (h3 _ hw)
  · obtain ⟨a, i, x, b, c, d, rfl⟩ := nestF_of hw
    exact va_Nw.warmF hW (h4 _ hw)
  · exact Jvm.Stand.arrayOver_alikeB hW.alike h7
def WdA (D : va_G) (cy : Nat → ClassId) (z : Nat) (h : Hp) (H : Heap) : Prop := va_P D vwCl (wldA cy z h) H
def CkA (D : va_G) (cy : Nat → ClassId) (tb : Nat → Nat) (z : Nat) (scr : ScA) (U : State) (H : Heap) : Prop := va_K D vwCl (tyA cy) U ∧ TbA tb z scr U H
/-- a method's context -/
def EnA (scr : ScA) (d : Nat) (M : MD) (D : va_G) (cy : Nat → ClassId) (tb : Nat → Nat) (z : Nat) (p : Program) (R : Room) (s : State) (m : MethodId) (args : Array Value) (meth : Method) (c : Code) (n0 mc ms : Nat) : Prop :=
  p.tables.exec = Jvm.exec ∧ c.code = M.2.1 ∧ c.maxLocals = M.2.2.1 ∧ s.vm.findClass M.1.cls = some m.cls ∧ (∀ w ∈ gwT, w.before args s = true) ∧ CkA D cy tb z scr s s.heap ∧ s.heap.size = z + n0 ∧ (M.1.name = "<init>" → meth.name = "<init>") ∧ d ≤ R.frames ∧ d * 32 ≤ R.locals ∧ mc ≤ R.cells ∧ ms ≤ R.slots
def GoA (M : MD) (D : va_G) (cy : Nat → ClassId) (tb : Nat → Nat) (z : Nat) (p : Program) (l : Launch) (e : Env) (R : Room) (s : State) (m : MethodId) (args : Array Value) (below : List Frame) (meth : Method) (c : Code) (n0 w0 mc ms : Nat) (Qf : State → Prop) (pc : Nat) (ls : LsA) (st : List Value) (h : Hp) : Prop :=
  ∀ (H : Heap) (locs : List Loc) (A : Array Slot), WdA D cy z h H → va_S (fun q => z ≤ q) s.heap H locs → lsOK M.2.2.1 z tb ls A → n0 ≤ h.1 → w0 ≤ h.2.1 → W p l e R s m args below meth c H locs (h.1 - n0) (h.2.1 - w0) Qf (F0 m pc A (st.map (rvA z tb)))
def rtI (r : Option Value) : Instr := match r with
  | none => .return_
  | some (.int _) => .ireturn
  | some (.long _) => .lreturn
  | some _ => .areturn
def okR (ret : Option FieldType) (r : Option Value) : Prop := match ret, r with
  | none, none => True
  | some .int, some (.int _) => True
  | some .boolean, some (.int v) => v = 0 ∨ v = 1
  | some .long, some (.long _) => True
  | some (.object _), some (.ref _) => True
  | _, _ => False
def RtA (M : MD) (D : va_G) (cy : Nat → ClassId) (tb : Nat → Nat) (z : Nat) (p : Program) (l : Launch) (e : Env) (R : Room) (s : State) (m : MethodId) (args : Array Value) (below : List Frame) (meth : Method) (c : Code) (mc ms : Nat) (post : Option Value → Hp → Prop) (Qf : State → Prop) : Prop :=
  ∀ (r : Option Value) (h : Hp) (H : Heap) (locs : List Loc) (cells slots pc : Nat) (A : Array Slot), post r h → WdA D cy z h H → va_S (fun q => z ≤ q) s.heap H locs → cells ≤ mc → slots ≤ ms → okR M.2.2.2 r → decode M.2.1 pc = .ok (rtI r, 1) → W p l e R s m args below meth c H locs cells slots Qf (F0 m pc A (r.toList.map (rvA z tb)))
/-- THE JUDGEMENT: from here the method returns, with 'post' -/
def XA (scr : ScA) (d : Nat) (M : MD) (N1 W1 pc : Nat) (ls : LsA) (st : List Value) (h : Hp) (post : Option Value → Hp → Prop) : Prop :=
  ∀ (D : va_G) (cy : Nat → ClassId) (tb : Nat → Nat) (z : Nat) (p : Program) (l : Launch) (e : Env) (R : Room) (s : State) (m : MethodId) (args : Array Value) (below : List Frame) (meth : Method) (c : Code) (n0 w0 mc ms : Nat) (Qf : State → Prop),
    EnA scr d M D cy tb z p R s m args meth c n0 mc ms → N1 = n0 + mc → W1 = w0 + ms → RtA M D cy tb z p l e R s m args below meth c mc ms post Qf → GoA M D cy tb z p l e R s m args below meth c n0 w0 mc ms Qf pc ls st h
def rmA (d mc ms : Nat) : Room := { frames := d, cells := mc, slots := ms, locals := d * 32 }
def QxA (D : va_G) (cy : Nat → ClassId) (tb : Nat → Nat) (z : Nat) (post : Option Value → Hp → Prop) : Array Value → State → Outcome → State → Prop := fun _ st oc t =>
  (∃ (r : Option Value) (h : Hp), post r h ∧ oc = .returned (r.map (rvA z tb)) ∧ WdA D cy z h t.heap) ∧ va_F (fun q => z ≤ q) st t
/-- a method's contract -/
def CtA (scr : ScA) (d : Nat) (M : MD) (as : List Value) (h : Hp) (mc ms : Nat) (post : Option Value → Hp → Prop) : Prop :=
  ∀ (l : Launch) (D : va_G) (cy : Nat → ClassId) (tb : Nat → Nat) (z : Nat), Met l M.1 (wsM M) (rmA d mc ms) (va_Pc (as.map (rvA z tb)) (fun U => U.heap.size = z + h.1 ∧ WdA D cy z h U.heap ∧ CkA D cy tb z scr U U.heap)) (QxA D cy tb z post) mc ms (fun q => z ≤ q)
def enL : List Value → LsA
  | [] => []
  | v :: vs => match v with
    | .long x => some (.long x) :: none :: enL vs
    | .double x => some (.double x) :: none :: enL vs
    | v => some v :: enL vs
theorem enL_get {z : Nat} {tb : Nat → Nat} : ∀ (vs : List Value) (b i : Nat) (v : Value), (enL vs).getD i none = some v → (b + i, rvA z tb v) ∈ lv_args b (vs.map (rvA z tb))
  | [], b, i, v, h => by simp [enL] at h
  | u :: vs, b, i, v, h => by
    have h1 : ∀ (hc : u.category = 1) (hu : enL (u :: vs) = some u :: enL vs), (b + i, rvA z tb v) ∈ lv_args b ((u :: vs).map (rvA z tb)) := by
      intro hc hu
      rw [hu] at h
      rw [List.map_cons, lv_args, if_neg (by rw [rvA_cat, hc]; decide)]
      cases i with
      | zero => simp at h; rw [h]; exact List.mem_cons_self
      | succ j =>
        have := enL_get (z := z) (tb := tb) vs (b + 1) j v (by simpa using h)
        rw [show b + (j + 1) = b + 1 + j by omega]
        exact List.mem_cons_of_mem _ this
    have h2 : ∀ (hc : u.category = 2) (hu : enL (u :: vs) = some u :: none :: enL vs), (b + i, rvA z tb v) ∈ lv_args b ((u :: vs).map (rvA z tb)) := by
      intro hc hu
      rw [hu] at h
      rw [List.map_cons, lv_args, if_pos (by rw [rvA_cat, hc])]
      cases i with
      | zero => simp at h; rw [h]; exact List.mem_cons_self
      | succ j =>
        cases j with
        | zero => simp at h
        | succ k =>
          have := enL_get (z := z) (tb := tb) vs (b + 2) k v (by simpa using h)
          rw [show b + (k + 1 + 1) = b + 2 + k by omega]
          exact List.mem_cons_of_mem _ this
    cases u with
    | long _ => exact h2 rfl rfl
    | double _ => exact h2 rfl rfl
    | int _ => exact h1 rfl rfl
    | float _ => exact h1 rfl rfl
    | null => exact h1 rfl rfl
    | ref _ => exact h1 rfl rfl
    | retAddr _ => exact h1 rfl rfl
theorem enL_len {z : Nat} {tb : Nat → Nat} : ∀ (vs : List Value), (lg_sl (vs.map (rvA z tb))).length = (enL vs).length
  | [] => rfl
  | u :: vs => by
    have ih := enL_len (z := z) (tb := tb) vs
    unfold lg_sl at ih ⊢
    rw [List.map_cons, List.flatMap_cons, List.length_append, ih]
    cases u <;> simp [rvA, enL, Value.category] <;> omega
end
section
/-! instructions as a function of locals, stack and heap -/
def kO (n : Nat) (sh : Nat → Nat × Nat) (k a : Nat) : Bool := decide (k < n ∧ sh k = (0, a))
def kR (r : Nat → Nat → Option Nat) (k b t : Nat) : Bool := decide (r k b = some t)
def kA (n : Nat) (sh : Nat → Nat × Nat) (k t : Nat) (i : Int32) : Bool := decide (k < n ∧ (sh k).1 = t) && inB i (sh k).2
def op2 (f : Int32 → Int32 → Int32) (ls : LsA) (st : List Value) (h : Hp) : Bool × LsA × List Value × Hp := match st with
  | .int y :: .int x :: r => (true, ls, .int (f x y) :: r, h)
  | _ => (false, ls, st, h)
def op2z (f : Int32 → Int32 → Int32) (ls : LsA) (st : List Value) (h : Hp) : Bool × LsA × List Value × Hp := match st with
  | .int y :: .int x :: r => (decide (¬ y = 0), ls, .int (f x y) :: r, h)
  | _ => (false, ls, st, h)
def op1 (f : Int32 → Int32) (ls : LsA) (st : List Value) (h : Hp) : Bool × LsA × List Value × Hp := match st with
  | .int x :: r => (true, ls, .int (f x) :: r, h)
  | _ => (false, ls, st, h)
def opJ (f : Int64 → Int64 → Int64) (ls : LsA) (st : List Value) (h : Hp) : Bool × LsA × List Value × Hp := match st with
  | .long y :: .long x :: r => (true, ls, .long (f x y) :: r, h)
  | _ => (false, ls, st, h)
def opJz (f : Int64 → Int64 → Int64) (ls : LsA) (st : List Value) (h : Hp) : Bool × LsA × List Value × Hp := match st with
  | .long y :: .long x :: r => (decide (¬ y = 0), ls, .long (f x y) :: r, h)
  | _ => (false, ls, st, h)
def ldI (a : Nat) (ls : LsA) (st : List Value) (h : Hp) : Bool × LsA × List Value × Hp := match gL ls a with
  | some (.int x) => (true, ls, .int x :: st, h)
  | _ => (false, ls, st, h)
def ldJ (a : Nat) (ls : LsA) (st : List Value) (h : Hp) : Bool × LsA × List Value × Hp := match gL ls a with
  | some (.long x) => (true, ls, .long x :: st, h)
  | _ => (false, ls, st, h)
def ldA (a : Nat) (ls : LsA) (st : List Value) (h : Hp) : Bool × LsA × List Value × Hp := match gL ls a with
  | some (.ref x) => (true, ls, .ref x :: st, h)
  | some (.retAddr x) => (true, ls, .retAddr x :: st, h)
  | _ => (false, ls, st, h)
def sdI (a : Nat) (ls : LsA) (st : List Value) (h : Hp) : Bool × LsA × List Value × Hp := match st with
  | .int x :: r => (true, stL ls a (.int x), r, h)
  | _ => (false, ls, st, h)
def sdJ (a : Nat) (ls : LsA) (st : List Value) (h : Hp) : Bool × LsA × List Value × Hp := match st with
  | .long x :: r => (true, stL2 ls a (.long x), r, h)
  | _ => (false, ls, st, h)
def sdA (a : Nat) (ls : LsA) (st : List Value) (h : Hp) : Bool × LsA × List Value × Hp := match st with
  | .ref x :: r => (true, stL ls a (.ref x), r, h)
  | .retAddr x :: r => (true, stL ls a (.retAddr x), r, h)
  | _ => (false, ls, st, h)
def incA (a : Nat) (c : Int32) (ls : LsA) (st : List Value) (h : Hp) : Bool × LsA × List Value × Hp := match gL ls a with
  | some (.int x) => (true, stL ls a (.int (x + c)), st, h)
  | _ => (false, ls, st, h)
def getA (a b o : Nat) (ls : LsA) (st : List Value) (h : Hp) : Bool × LsA × List Value × Hp := match st with
  | .ref k :: r => match o with
    | 0 => (kO h.1 h.2.2.1 k a, ls, .int (h.2.2.2.2 k b) :: r, h)
    | t + 1 => (kO h.1 h.2.2.1 k a && kR h.2.2.2.1 k b (k + t), ls, .ref (k + t) :: r, h)
  | _ => (false, ls, st, h)
def putA (a b o : Nat) (ls : LsA) (st : List Value) (h : Hp) : Bool × LsA × List Value × Hp := match st with
  | .int v :: .ref k :: r => match o with
    | 0 => (kO h.1 h.2.2.1 k a, ls, r, (h.1, h.2.1, h.2.2.1, h.2.2.2.1, su h.2.2.2.2 k b v))
    | 2 => (kO h.1 h.2.2.1 k a && decide (v = 0 ∨ v = 1), ls, r, (h.1, h.2.1, h.2.2.1, h.2.2.2.1, su h.2.2.2.2 k b v))
    | _ => (false, ls, st, h)
  | .ref t :: .ref k :: r => match o with
    | 1 => (kO h.1 h.2.2.1 k a, ls, r, (h.1, h.2.1, h.2.2.1, ru h.2.2.2.1 k b (some t), h.2.2.2.2))
    | _ => (false, ls, st, h)
  | _ => (false, ls, st, h)
def iaA (scr : ScA) (ls : LsA) (st : List Value) (h : Hp) : Bool × LsA × List Value × Hp := match st with
  | .int i :: .ref k :: r => (kA h.1 h.2.2.1 k 1 i, ls, .int (h.2.2.2.2 k i.toNatClampNeg) :: r, h)
  | .int i :: .retAddr j :: r => (decide (j < 5) && inB i (tbS scr j), ls, .int (tbV scr j i.toNatClampNeg) :: r, h)
  | _ => (false, ls, st, h)
def baA (ls : LsA) (st : List Value) (h : Hp) : Bool × LsA × List Value × Hp := match st with
  | .int i :: .ref k :: r => (kA h.1 h.2.2.1 k 2 i, ls, .int (h.2.2.2.2 k i.toNatClampNeg) :: r, h)
  | _ => (false, ls, st, h)
def isA (ls : LsA) (st : List Value) (h : Hp) : Bool × LsA × List Value × Hp := match st with
  | .int x :: .int i :: .ref k :: r => (kA h.1 h.2.2.1 k 1 i, ls, r, (h.1, h.2.1, h.2.2.1, h.2.2.2.1, su h.2.2.2.2 k i.toNatClampNeg x))
  | _ => (false, ls, st, h)
def bsA (ls : LsA) (st : List Value) (h : Hp) : Bool × LsA × List Value × Hp := match st with
  | .int x :: .int i :: .ref k :: r => (kA h.1 h.2.2.1 k 2 i && decide (x = 0 ∨ x = 1), ls, r, (h.1, h.2.1, h.2.2.1, h.2.2.2.1, su h.2.2.2.2 k i.toNatClampNeg x))
  | _ => (false, ls, st, h)
def aaA (a b o : Nat) (ls : LsA) (st : List Value) (h : Hp) : Bool × LsA × List Value × Hp := match st with
  | .int i :: .ref k :: r => (kA h.1 h.2.2.1 k (o + 3) i && (decide (o < 3) && kR h.2.2.2.1 k i.toNatClampNeg (k + a + b * i.toNatClampNeg)), ls, .ref (k + a + b * i.toNatClampNeg) :: r, h)
  | _ => (false, ls, st, h)
def asA (ls : LsA) (st : List Value) (h : Hp) : Bool × LsA × List Value × Hp := match st with
  | .ref t :: .int i :: .ref k :: r => ((kA h.1 h.2.2.1 k 3 i && kO h.1 h.2.2.1 t 0) || (kA h.1 h.2.2.1 k 4 i && kO h.1 h.2.2.1 t 4), ls, r, (h.1, h.2.1, h.2.2.1, ru h.2.2.2.1 k i.toNatClampNeg (some t), h.2.2.2.2))
  | _ => (false, ls, st, h)
def alA (scr : ScA) (ls : LsA) (st : List Value) (h : Hp) : Bool × LsA × List Value × Hp := match st with
  | .ref k :: r => (decide (k < h.1 ∧ 1 ≤ (h.2.2.1 k).1 ∧ (h.2.2.1 k).1 ≤ 5), ls, .int (Int32.ofNat (h.2.2.1 k).2) :: r, h)
  | .retAddr j :: r => (decide (j < 5), ls, .int (Int32.ofNat (tbS scr j)) :: r, h)
  | _ => (false, ls, st, h)
def nwA (N1 W1 a : Nat) (ls : LsA) (st : List Value) (h : Hp) : Bool × LsA × List Value × Hp := (decide (h.1 + 1 ≤ N1 ∧ h.2.1 + nF a ≤ W1), ls, .ref h.1 :: st, (h.1 + 1, h.2.1 + nF a, va_up h.2.2.1 h.1 (0, a), rr h.2.2.2.1 h.1 (fun _ => none), sr h.2.2.2.2 h.1 (fun _ => 0)))
def naA (N1 W1 a : Nat) (ls : LsA) (st : List Value) (h : Hp) : Bool × LsA × List Value × Hp := match st with
  | .int n :: r => (decide (¬ n < 0 ∧ n.toNatClampNeg ≤ 1000 ∧ h.1 + 1 ≤ N1 ∧ h.2.1 + n.toNatClampNeg ≤ W1), ls, .ref h.1 :: r, (h.1 + 1, h.2.1 + n.toNatClampNeg, va_up h.2.2.1 h.1 (a + 1, n.toNatClampNeg), rr h.2.2.2.1 h.1 (fun _ => none), sr h.2.2.2.2 h.1 (fun _ => 0)))
  | _ => (false, ls, st, h)
def mnS (sh : Nat → Nat × Nat) (n0 N K : Nat) : Nat → Nat × Nat := fun k => if k = n0 then (5, N) else if n0 < k ∧ k ≤ n0 + N then (1, K) else sh k
def mnR (r : Nat → Nat → Option Nat) (n0 N : Nat) : Nat → Nat → Option Nat := fun k j => if k = n0 then (if j < N then some (n0 + 1 + j) else none) else if n0 < k ∧ k ≤ n0 + N then none else r k j
def mnV (σ : Nat → Nat → Int32) (n0 N : Nat) : Nat → Nat → Int32 := fun k j => if n0 ≤ k ∧ k ≤ n0 + N then 0 else σ k j
def mnA (N1 W1 : Nat) (ls : LsA) (st : List Value) (h : Hp) : Bool × LsA × List Value × Hp := match st with
  | .int k :: .int n :: r => (decide (¬ n < 0 ∧ ¬ k < 0 ∧ n.toNatClampNeg ≤ 1000 ∧ k.toNatClampNeg ≤ 1000 ∧ h.1 + (1 + n.toNatClampNeg) ≤ N1 ∧ h.2.1 + (n.toNatClampNeg + n.toNatClampNeg * k.toNatClampNeg) ≤ W1), ls, .ref h.1 :: r, (h.1 + (1 + n.toNatClampNeg), h.2.1 + (n.toNatClampNeg + n.toNatClampNeg * k.toNatClampNeg), mnS h.2.2.1 h.1 n.toNatClampNeg k.toNatClampNeg, mnR h.2.2.2.1 h.1 n.toNatClampNeg, mnV h.2.2.2.2 h.1 n.toNatClampNeg))
  | _ => (false, ls, st, h)
def oiA (ls : LsA) (st : List Value) (h : Hp) : Bool × LsA × List Value × Hp := match st with
  | .ref _ :: r => (decide ((r.map fun v => v.category).sum ≤ 8), ls, r, h)
  | _ => (false, ls, st, h)
def isS (N1 W1 a : Nat) (ls : LsA) (st : List Value) (h : Hp) : Bool × LsA × List Value × Hp := match a with
  | 0 => match st with
    | .int y :: .int x :: r => (decide ((r.map fun v => v.category).sum ≤ 8 ∧ h.1 ≤ N1 ∧ h.2.1 ≤ W1), ls, .int (if x < y then y else x) :: r, h)
    | _ => (false, ls, st, h)
  | 1 => match st with
    | .int y :: .int x :: r => (decide ((r.map fun v => v.category).sum ≤ 8 ∧ h.1 ≤ N1 ∧ h.2.1 ≤ W1), ls, .int (if y < x then y else x) :: r, h)
    | _ => (false, ls, st, h)
  | _ => match st with
    | .int n :: .int dp :: .ref kd :: .int sp :: .ref ks :: r => (decide ((r.map fun v => v.category).sum ≤ 8) && decide (kd < h.1 ∧ (h.2.2.1 kd).1 = 1 ∧ ks < h.1 ∧ (h.2.2.1 ks).1 = 1) && decide (¬ sp < 0 ∧ ¬ dp < 0 ∧ ¬ n < 0 ∧ sp.toNatClampNeg + n.toNatClampNeg ≤ (h.2.2.1 ks).2 ∧ dp.toNatClampNeg + n.toNatClampNeg ≤ (h.2.2.1 kd).2), ls, r, (h.1, h.2.1, h.2.2.1, h.2.2.2.1, sr h.2.2.2.2 kd (va_cpy (h.2.2.2.2 ks) (h.2.2.2.2 kd) sp.toNatClampNeg dp.toNatClampNeg n.toNatClampNeg)))
    | _ => (false, ls, st, h)
def dpA (ls : LsA) (st : List Value) (h : Hp) : Bool × LsA × List Value × Hp := match st with
  | .int v :: r => (true, ls, .int v :: .int v :: r, h)
  | .ref v :: r => (true, ls, .ref v :: .ref v :: r, h)
  | _ => (false, ls, st, h)
def d2A (ls : LsA) (st : List Value) (h : Hp) : Bool × LsA × List Value × Hp := match st with
  | .int v :: .ref k :: r => (true, ls, .int v :: .ref k :: .int v :: .ref k :: r, h)
  | _ => (false, ls, st, h)
def i2lA (ls : LsA) (st : List Value) (h : Hp) : Bool × LsA × List Value × Hp := match st with
  | .int x :: r => (true, ls, .long x.toInt64 :: r, h)
  | _ => (false, ls, st, h)
def lshA (ls : LsA) (st : List Value) (h : Hp) : Bool × LsA × List Value × Hp := match st with
  | .int y :: .long x :: r => (true, ls, .long (x <<< (y.toInt64 &&& 63)) :: r, h)
  | _ => (false, ls, st, h)
def lcA (ls : LsA) (st : List Value) (h : Hp) : Bool × LsA × List Value × Hp := match st with
  | .long y :: .long x :: r => (true, ls, .int (lg_cmp x y) :: r, h)
  | _ => (false, ls, st, h)
def stp (scr : ScA) (N1 W1 : Nat) (q : AI) (ls : LsA) (st : List Value) (h : Hp) : Bool × LsA × List Value × Hp := match q with
  | (i, _, a, b, o, _, c, d) => match i with
    | .iconst _ => (true, ls, .int c :: st, h)
    | .bipush _ => (true, ls, .int c :: st, h)
    | .sipush _ => (true, ls, .int c :: st, h)
    | .ldc _ => (true, ls, .int c :: st, h)
    | .ldc_w _ => (true, ls, .int c :: st, h)
    | .lconst _ => (true, ls, .long d :: st, h)
    | .ldc2_w _ => (true, ls, .long d :: st, h)
    | .iload_n _ => ldI a ls st h
    | .iload _ => ldI a ls st h
    | .lload_n _ => ldJ a ls st h
    | .lload _ => ldJ a ls st h
    | .aload_n _ => ldA a ls st h
    | .aload _ => ldA a ls st h
    | .istore_n _ => sdI a ls st h
    | .istore _ => sdI a ls st h
    | .lstore_n _ => sdJ a ls st h
    | .lstore _ => sdJ a ls st h
    | .astore_n _ => sdA a ls st h
    | .astore _ => sdA a ls st h
    | .iinc _ _ => incA a c ls st h
    | .iadd => op2 (fun x y => x + y) ls st h
    | .isub => op2 (fun x y => x - y) ls st h
    | .imul => op2 (fun x y => x * y) ls st h
    | .iand => op2 (fun x y => x &&& y) ls st h
    | .ior => op2 (fun x y => x ||| y) ls st h
    | .ixor => op2 (fun x y => x ^^^ y) ls st h
    | .ishl => op2 (fun x y => x <<< (y &&& 31)) ls st h
    | .ishr => op2 (fun x y => x >>> (y &&& 31)) ls st h
    | .iushr => op2 (fun x y => (x.toUInt32 >>> (y.toUInt32 &&& Int32.toUInt32 31)).toInt32) ls st h
    | .idiv => op2z (fun x y => x / y) ls st h
    | .irem => op2z (fun x y => x - x / y * y) ls st h
    | .ladd => opJ (fun x y => x + y) ls st h
    | .lsub => opJ (fun x y => x - y) ls st h
    | .lmul => opJ (fun x y => x * y) ls st h
    | .ldiv => opJz (fun x y => x / y) ls st h
    | .lrem => opJz (fun x y => x - x / y * y) ls st h
    | .i2b => op1 (fun x => x.toInt8.toInt32) ls st h
    | .i2s => op1 (fun x => x.toInt16.toInt32) ls st h
    | .i2l => i2lA ls st h
    | .lshl => lshA ls st h
    | .lcmp => lcA ls st h
    | .goto _ => (true, ls, st, h)
    | .getfield _ => getA a b o ls st h
    | .putfield _ => putA a b o ls st h
    | .getstatic _ => (decide (a < 4), ls, .retAddr a :: st, h)
    | .iaload => iaA scr ls st h
    | .baload => baA ls st h
    | .iastore => isA ls st h
    | .bastore => bsA ls st h
    | .aaload => aaA a b o ls st h
    | .aastore => asA ls st h
    | .arraylength => alA scr ls st h
    | .new _ => nwA N1 W1 a ls st h
    | .newarray _ => naA N1 W1 a ls st h
    | .anewarray _ => naA N1 W1 a ls st h
    | .multianewarray _ _ => mnA N1 W1 ls st h
    | .invokespecial _ => oiA ls st h
    | .invokestatic _ => isS N1 W1 a ls st h
    | .dup => dpA ls st h
    | .dup2 => d2A ls st h
    | _ => (false, ls, st, h)
def exA (scr : ScA) (N1 W1 : Nat) : List AI → LsA → List Value → Hp → Bool × LsA × List Value × Hp
  | [], ls, st, h => (true, ls, st, h)
  | q :: qs, ls, st, h => match stp scr N1 W1 q ls st h with
    | (b, ls', st', h') => match exA scr N1 W1 qs ls' st' h' with
      | (b2, r) => (b && b2, r)
def nxP (pc : Nat) (q : AI) : Nat := match q with
  | (i, n, a, _) => match i with
    | .goto _ => a
    | _ => pc + n
/-- what the bytes, the pool and the tables must say of an instruction -/
def ckX (d : Nat) (M : MD) (pc : Nat) (q : AI) : Bool := match q with
  | (i, n, a, b, o, t, c, dv) => match i with
    | .iconst k => decide (n = 1 ∧ Int32.ofInt k = c)
    | .bipush k => decide (n = 2 ∧ (Int8.ofInt k).toInt32 = c)
    | .sipush k => decide (n = 3 ∧ (Int16.ofInt k).toInt32 = c)
    | .ldc k => decide (n = 2) && inT t (.constant M.1.cls k c)
    | .ldc_w k => decide (n = 3) && inT t (.constant M.1.cls k c)
    | .lconst k => decide (n = 1 ∧ Int64.ofNat (k : Nat) = dv)
    | .ldc2_w k => decide (n = 3) && inT t (.constantLong M.1.cls k dv)
    | .iload_n k => decide (n = 1 ∧ (k : Nat) = a)
    | .lload_n k => decide (n = 1 ∧ (k : Nat) = a)
    | .aload_n k => decide (n = 1 ∧ (k : Nat) = a)
    | .iload k => decide (n = 2 ∧ k = a)
    | .lload k => decide (n = 2 ∧ k = a)
    | .aload k => decide (n = 2 ∧ k = a)
    | .istore_n k => decide (n = 1 ∧ (k : Nat) = a ∧ a < M.2.2.1)
    | .lstore_n k => decide (n = 1 ∧ (k : Nat) = a ∧ a + 1 < M.2.2.1)
    | .astore_n k => decide (n = 1 ∧ (k : Nat) = a ∧ a < M.2.2.1)
    | .istore k => decide (n = 2 ∧ k = a ∧ a < M.2.2.1)
    | .lstore k => decide (n = 2 ∧ k = a ∧ a + 1 < M.2.2.1)
    | .astore k => decide (n = 2 ∧ k = a ∧ a < M.2.2.1)
    | .iinc k x => decide (n = 3 ∧ k = a ∧ Int32.ofInt x = c ∧ a < M.2.2.1)
    | .goto x => decide (n = 3 ∧ (pc : Int) + x = (a : Int))
    | .getfield k => decide (n = 3 ∧ a < 12 ∧ b < nF a ∧ (isRf a b = true ↔ o ≠ 0)) && inT t (.fieldLink M.1.cls k (clF a).1 ((clF a).2.1 b).2.1 ((clF a).2.1 b).2.2.1) && decide (((clF a).2.1 b).1 = (clF a).1)
    | .putfield k => decide (n = 3 ∧ a < 12 ∧ b < nF a ∧ ((tyF a b = .int ∧ o = 0) ∨ (tyF a b = .boolean ∧ o = 2) ∨ (isRf a b = true ∧ o = 1)) ∧ (((clF a).2.1 b).2.2.2 = false ∨ (M.1.name = "<init>" ∧ (clF a).1 = M.1.cls ∧ ((clF a).2.1 b).2.2.2 = true))) && inT t (.fieldLink M.1.cls k (clF a).1 ((clF a).2.1 b).2.1 ((clF a).2.1 b).2.2.1) && decide (((clF a).2.1 b).1 = (clF a).1)
    | .getstatic k => decide (n = 3 ∧ a < 4) && (inT t (.fieldLink M.1.cls k "HumanPyramid" (tbN a) "[I") || inN t (.fieldLinkNest M.1.cls k "HumanPyramid" (tbN a) "[I" "HumanPyramid"))
    | .new k => decide (n = 3 ∧ a < 12) && inT t (.classLink M.1.cls k (clF a).1) && inT o (.instantiable (clF a).1 (nF a)) && inT b (.initialized (clF a).1)
    | .newarray ty => decide (n = 2 ∧ ((a = 0 ∧ newarray.typeOf ty = .int) ∨ (a = 1 ∧ newarray.typeOf ty = .boolean))) && inT t (.arrayClass (newarray.typeOf ty))
    | .anewarray k => decide (n = 3) && ((decide (a = 2) && inT t (.classLink M.1.cls k "HumanPyramid$Best")) || (decide (a = 3) && inT t (.classLink M.1.cls k "HumanPyramid$Sheet")))
    | .multianewarray k x => decide (n = 4 ∧ x = 2) && inT t (.classLink M.1.cls k "[[I") && inT o (.arrayClass .int)
    | .invokespecial k => decide (n = 3 ∧ 1 ≤ d) && inT t (.methodLink M.1.cls k Lib.objectInit)
    | .invokestatic k => decide (n = 3 ∧ 1 ≤ d) && ((decide (a = 0) && inT t (.methodLink M.1.cls k Lib.Math.max.name)) || (decide (a = 1) && inT t (.methodLink M.1.cls k Lib.Math.min.name)) || (decide (a = 2) && inT t (.methodLink M.1.cls k arraycopyName)))
    | _ => decide (n = 1)
def ck1 (d : Nat) (M : MD) (pc : Nat) (q : AI) : Bool := decide (decode M.2.1 pc = .ok (q.1, q.2.1)) && ckX d M pc q
def ckA (d : Nat) (M : MD) : Nat → List AI → Nat → Bool
  | pc, [], e => decide (pc = e)
  | pc, q :: qs, e => ck1 d M pc q && ckA d M (nxP pc q) qs e
end
section
theorem inL0 : ∀ w ∈ u_ws RX0 TX0 4, w ∈ gwT := by
  have e : u_ws RX0 TX0 4 = ([284, 286, 288, 290] : List Nat).filterMap (fun i => lw_tbl[i]?) := by decide +kernel
  have g : (u_ws RX0 TX0 4).all goodWord = true := by decide +kernel
  intro w hw
  have hg := List.all_eq_true.mp g w hw
  rw [e] at hw
  obtain ⟨i, -, hi⟩ := List.mem_filterMap.mp hw
  exact List.mem_filter.mpr ⟨List.mem_of_getElem? hi, hg⟩
theorem inL1 : ∀ w ∈ u_ws RX1 TX1 4, w ∈ gwT := by
  have e : u_ws RX1 TX1 4 = ([176, 178, 180, 182] : List Nat).filterMap (fun i => lw_tbl[i]?) := by decide +kernel
  have g : (u_ws RX1 TX1 4).all goodWord = true := by decide +kernel
  intro w hw
  have hg := List.all_eq_true.mp g w hw
  rw [e] at hw
  obtain ⟨i, -, hi⟩ := List.mem_filterMap.mp hw
  exact List.mem_filter.mpr ⟨List.mem_of_getElem? hi, hg⟩
theorem inL2 : ∀ w ∈ u_ws RX2 TX2 7, w ∈ gwT := by
  have e : u_ws RX2 TX2 7 = ([336, 338, 340, 342, 344, 346, 348] : List Nat).filterMap (fun i => lw_tbl[i]?) := by decide +kernel
  have g : (u_ws RX2 TX2 7).all goodWord = true := by decide +kernel
  intro w hw
  have hg := List.all_eq_true.mp g w hw
  rw [e] at hw
  obtain ⟨i, -, hi⟩ := List.mem_filterMap.mp hw
  exact List.mem_filter.mpr ⟨List.mem_of_getElem? hi, hg⟩
theorem inL3 : ∀ w ∈ u_ws RX3 TX3 5, w ∈ gwT := by
  have e : u_ws RX3 TX3 5 = ([299, 301, 303, 305, 307] : List Nat).filterMap (fun i => lw_tbl[i]?) := by decide +kernel
  have g : (u_ws RX3 TX3 5).all goodWord = true := by decide +kernel
  intro w hw
  have hg := List.all_eq_true.mp g w hw
  rw [e] at hw
  obtain ⟨i, -, hi⟩ := List.mem_filterMap.mp hw
  exact List.mem_filter.mpr ⟨List.mem_of_getElem? hi, hg⟩
theorem inL4 : ∀ w ∈ u_ws RX4 TX4 4, w ∈ gwT := by
  have e : u_ws RX4 TX4 4 = ([389, 391, 393, 395] : List Nat).filterMap (fun i => lw_tbl[i]?) := by decide +kernel
  have g : (u_ws RX4 TX4 4).all goodWord = true := by decide +kernel
  intro w hw
  have hg := List.all_eq_true.mp g w hw
  rw [e] at hw
  obtain ⟨i, -, hi⟩ := List.mem_filterMap.mp hw
  exact List.mem_filter.mpr ⟨List.mem_of_getElem? hi, hg⟩
theorem inL5 : ∀ w ∈ u_ws RX5 TX5 13, w ∈ gwT := by
  have e : u_ws RX5 TX5 13 = ([234, 236, 238, 240, 242, 244, 246, 248, 250, 252, 254, 256, 258] : List Nat).filterMap (fun i => lw_tbl[i]?) := by decide +kernel
  have g : (u_ws RX5 TX5 13).all goodWord = true := by decide +kernel
  intro w hw
  have hg := List.all_eq_true.mp g w hw
  rw [e] at hw
  obtain ⟨i, -, hi⟩ := List.mem_filterMap.mp hw
  exact List.mem_filter.mpr ⟨List.mem_of_getElem? hi, hg⟩
theorem inL6 : ∀ w ∈ u_ws RX6 TX6 4, w ∈ gwT := by
  have e : u_ws RX6 TX6 4 = ([196, 198, 200, 202] : List Nat).filterMap (fun i => lw_tbl[i]?) := by decide +kernel
  have g : (u_ws RX6 TX6 4).all goodWord = true := by decide +kernel
  intro w hw
  have hg := List.all_eq_true.mp g w hw
  rw [e] at hw
  obtain ⟨i, -, hi⟩ := List.mem_filterMap.mp hw
  exact List.mem_filter.mpr ⟨List.mem_of_getElem? hi, hg⟩
theorem inL7 : ∀ w ∈ u_ws RX7 TX7 2, w ∈ gwT := by
  have e : u_ws RX7 TX7 2 = ([98, 100] : List Nat).filterMap (fun i => lw_tbl[i]?) := by decide +kernel
  have g : (u_ws RX7 TX7 2).all goodWord = true := by decide +kernel
  intro w hw
  have hg := List.all_eq_true.mp g w hw
  rw [e] at hw
  obtain ⟨i, -, hi⟩ := List.mem_filterMap.mp hw
  exact List.mem_filter.mpr ⟨List.mem_of_getElem? hi, hg⟩
theorem inL8 : ∀ w ∈ u_ws RX8 TX8 7, w ∈ gwT := by
  have e : u_ws RX8 TX8 7 = ([144, 146, 148, 150, 152, 154, 156] : List Nat).filterMap (fun i => lw_tbl[i]?) := by decide +kernel
  have g : (u_ws RX8 TX8 7).all goodWord = true := by decide +kernel
  intro w hw
  have hg := List.all_eq_true.mp g w hw
  rw [e] at hw
  obtain ⟨i, -, hi⟩ := List.mem_filterMap.mp hw
  exact List.mem_filter.mpr ⟨List.mem_of_getElem? hi, hg⟩
theorem inL9 : ∀ w ∈ u_ws RX9 TX9 4, w ∈ gwT := by
  have e : u_ws RX9 TX9 4 = ([365, 367, 369, 371] : List Nat).filterMap (fun i => lw_tbl[i]?) := by decide +kernel
  have g : (u_ws RX9 TX9 4).all goodWord = true := by decide +kernel
  intro w hw
  have hg := List.all_eq_true.mp g w hw
  rw [e] at hw
  obtain ⟨i, -, hi⟩ := List.mem_filterMap.mp hw
  exact List.mem_filter.mpr ⟨List.mem_of_getElem? hi, hg⟩
theorem inL10 : ∀ w ∈ u_ws RX10 TX10 14, w ∈ gwT := by
  have e : u_ws RX10 TX10 14 = ([412, 414, 416, 418, 420, 422, 424, 426, 428, 430, 432, 434, 436, 438] : List Nat).filterMap (fun i => lw_tbl[i]?) := by decide +kernel
  have g : (u_ws RX10 TX10 14).all goodWord = true := by decide +kernel
  intro w hw
  have hg := List.all_eq_true.mp g w hw
  rw [e] at hw
  obtain ⟨i, -, hi⟩ := List.mem_filterMap.mp hw
  exact List.mem_filter.mpr ⟨List.mem_of_getElem? hi, hg⟩
theorem inL11 : ∀ w ∈ u_ws RX11 TX11 54, w ∈ gwT := by
  have e : u_ws RX11 TX11 54 = ([947, 949, 951, 953, 955, 957, 959, 961, 963, 965, 967, 969, 971, 973, 975, 977, 979, 981, 983, 985, 987, 989, 991, 993, 995, 997, 999, 1001, 1003, 1005, 1007, 1009, 1011, 1013, 1015, 1017, 1019, 1021, 1023, 1025, 1027, 1029, 1031, 1033, 1035, 1037, 1039, 1041, 1043, 1045, 1047, 1049, 1051, 1053] : List Nat).filterMap (fun i => lw_tbl[i]?) := by decide +kernel
  have g : (u_ws RX11 TX11 54).all goodWord = true := by decide +kernel
  intro w hw
  have hg := List.all_eq_true.mp g w hw
  rw [e] at hw
  obtain ⟨i, -, hi⟩ := List.mem_filterMap.mp hw
  exact List.mem_filter.mpr ⟨List.mem_of_getElem? hi, hg⟩
theorem inL {a : Nat} (ha : a < 12) : ∀ w ∈ u_ws (clF a).1 (clF a).2.1 (nF a), w ∈ gwT := by
  match a, ha with
  | 0, _ => exact inL0
  | 1, _ => exact inL1
  | 2, _ => exact inL2
  | 3, _ => exact inL3
  | 4, _ => exact inL4
  | 5, _ => exact inL5
  | 6, _ => exact inL6
  | 7, _ => exact inL7
  | 8, _ => exact inL8
  | 9, _ => exact inL9
  | 10, _ => exact inL10
  | 11, _ => exact inL11
theorem w_oi : Cond.instanceMethod Lib.objectInit ∈ gwT := inT_mem (p := 87) (by decide +kernel)
theorem w_oc : Cond.code Lib.objectInit ⟨#[0xb1]⟩ 1 none ∈ gwT := inT_mem (p := 88) (by decide +kernel)
theorem w_xs : Cond.static Lib.Math.max.name ∈ gwT := inT_mem (p := 584) (by decide +kernel)
theorem w_xi : Cond.initialized "java/lang/Math" ∈ gwT := inT_mem (p := 78) (by decide +kernel)
theorem w_xc : Cond.code Lib.Math.max.name Lib.Math.max.code 2 (some .int) ∈ gwT := inT_mem (p := 585) (by decide +kernel)
theorem w_ns : Cond.static Lib.Math.min.name ∈ gwT := inT_mem (p := 465) (by decide +kernel)
theorem w_nc : Cond.code Lib.Math.min.name Lib.Math.min.code 2 (some .int) ∈ gwT := inT_mem (p := 466) (by decide +kernel)
theorem w_yn : Cond.native arraycopyName ∈ gwT := inT_mem (p := 669) (by decide +kernel)
theorem w_ys : Cond.static arraycopyName ∈ gwT := inT_mem (p := 668) (by decide +kernel)
theorem w_yi : Cond.initialized "java/lang/System" ∈ gwT := inT_mem (p := 80) (by decide +kernel)
theorem w_ai : Cond.arrayClass .int ∈ gwT := inT_mem (p := 103) (by decide +kernel)
theorem w_ab : Cond.arrayClass .boolean ∈ gwT := inT_mem (p := 1056) (by decide +kernel)
end
section
/-! each instruction tied to the machine -/
section RulesA
variable {scr : ScA} {d : Nat} {M : MD} {D : va_G} {cy : Nat → ClassId} {tb : Nat → Nat} {z : Nat} {p : Program} {l : Launch} {e : Env} {R : Room} {s : State} {m : MethodId} {args : Array Value} {below : List Frame} {meth : Method} {c : Code} {n0 w0 mc ms : Nat} {Qf : State → Prop} {pc : Nat} {ls : LsA} {st : List Value} {h : Hp}
theorem clF_get {a : Nat} (ha : a < 12) : vwCl[a]? = some ((clF a).1, (clF a).2.1, nF a) := by
  match a, ha with
  | 0, _ => rfl
  | 1, _ => rfl
  | 2, _ => rfl
  | 3, _ => rfl
  | 4, _ => rfl
  | 5, _ => rfl
  | 6, _ => rfl
  | 7, _ => rfl
  | 8, _ => rfl
  | 9, _ => rfl
  | 10, _ => rfl
  | 11, _ => rfl
theorem tyF_ok {a : Nat} (ha : a < 12) : ∀ k, k < nF a → parseFieldDescriptor ((clF a).2.1 k).2.2.1 = some (tyF a k) := by
  match a, ha with
  | 0, _ => exact tyX0_ok
  | 1, _ => exact tyX1_ok
  | 2, _ => exact tyX2_ok
  | 3, _ => exact tyX3_ok
  | 4, _ => exact tyX4_ok
  | 5, _ => exact tyX5_ok
  | 6, _ => exact tyX6_ok
  | 7, _ => exact tyX7_ok
  | 8, _ => exact tyX8_ok
  | 9, _ => exact tyX9_ok
  | 10, _ => exact tyX10_ok
  | 11, _ => exact tyX11_ok
theorem nmF_ok {a : Nat} (ha : a < 12) : ∀ i, i < nF a → ∀ j, j < nF a → i ≠ j → ((clF a).2.1 i).2.1 ≠ ((clF a).2.1 j).2.1 := by
  match a, ha with
  | 0, _ => exact nmX0
  | 1, _ => exact nmX1
  | 2, _ => exact nmX2
  | 3, _ => exact nmX3
  | 4, _ => exact nmX4
  | 5, _ => exact nmX5
  | 6, _ => exact nmX6
  | 7, _ => exact nmX7
  | 8, _ => exact nmX8
  | 9, _ => exact nmX9
  | 10, _ => exact nmX10
  | 11, _ => exact nmX11
theorem kO_iff {n k a : Nat} {sh : Nat → Nat × Nat} : kO n sh k a = true ↔ k < n ∧ sh k = (0, a) := decide_eq_true_iff
theorem kR_iff {k b t : Nat} {r : Nat → Nat → Option Nat} : kR r k b t = true ↔ r k b = some t := decide_eq_true_iff
theorem kA_iff {n k t : Nat} {sh : Nat → Nat × Nat} {i : Int32} : kA n sh k t i = true ↔ (k < n ∧ (sh k).1 = t) ∧ vp_in i (sh k).2 := by
  unfold kA
  rw [Bool.and_eq_true, decide_eq_true_eq, inB_iff]
theorem celA_o {cy : Nat → ClassId} {k a : Nat} {h : Hp} (hs : h.2.2.1 k = (0, a)) : celA cy z h k = .inr (a, (List.range (nF a)).map (flV z h k a)) := by
  unfold celA; rw [hs]
theorem celA_i {k n : Nat} (hs : h.2.2.1 k = (1, n)) : celA cy z h k = .inl (cy 0, n, .inl (h.2.2.2.2 k)) := by
  unfold celA; rw [hs]
theorem celA_b {k n : Nat} (hs : h.2.2.1 k = (2, n)) : celA cy z h k = .inl (cy 1, n, .inl (h.2.2.2.2 k)) := by
  unfold celA; rw [hs]
theorem celA_r {k t n : Nat} (hs : h.2.2.1 k = (t + 3, n)) : celA cy z h k = .inl (cy (t + 2), n, .inr (.inr (.inr (.inr (fun j => (h.2.2.2.1 k j).map (fun a => z + a)))))) := by
  unfold celA; rw [hs]
theorem pair_eta {x : Nat × Nat} {t : Nat} (h : x.1 = t) : x = (t, x.2) := by rw [← h]
/-- what is stored in one cell leaves the others as they were -/
theorem celA_off {h h' : Hp} {i : Nat} (e1 : h'.2.2.1 i = h.2.2.1 i) (e2 : h'.2.2.2.1 i = h.2.2.2.1 i) (e3 : h'.2.2.2.2 i = h.2.2.2.2 i) : celA cy z h' i = celA cy z h i := by
  unfold celA
  rw [e1, e2, e3]
  have e4 : ∀ ci, flV z h' i ci = flV z h i ci := fun ci => by
    funext j
    unfold flV
    rw [e2, e3]
  simp only [e4]
theorem r_const {v : Value} {n : Nat} (hv : rvA z tb v = v) (rule : ∀ (H : Heap) (locs : List Loc) (cells slots : Nat) (A : Array Slot) (rest : List Value), W p l e R s m args below meth c H locs cells slots Qf (F0 m (pc + n) A (v :: rest)) → W p l e R s m args below meth c H locs cells slots Qf (F0 m pc A rest))
    (kk : GoA M D cy tb z p l e R s m args below meth c n0 w0 mc ms Qf (pc + n) ls (v :: st) h) : GoA M D cy tb z p l e R s m args below meth c n0 w0 mc ms Qf pc ls st h := by
  intro H locs A hP hS hL hn hw
  have := kk H locs A hP hS hL hn hw
  rw [List.map_cons, hv] at this
  exact rule H locs _ _ A _ this
theorem r_pure {st1 st2 : List Value} {n : Nat} (kk : GoA M D cy tb z p l e R s m args below meth c n0 w0 mc ms Qf (pc + n) ls st2 h) (rule : ∀ (H : Heap) (locs : List Loc) (cells slots : Nat) (A : Array Slot), W p l e R s m args below meth c H locs cells slots Qf (F0 m (pc + n) A (st2.map (rvA z tb))) → W p l e R s m args below meth c H locs cells slots Qf (F0 m pc A (st1.map (rvA z tb)))) : GoA M D cy tb z p l e R s m args below meth c n0 w0 mc ms Qf pc ls st1 h := by
  intro H locs A hP hS hL hn hw
  exact rule H locs _ _ A (kk H locs A hP hS hL hn hw)
theorem r_load {v : Value} {a n : Nat} (hg : gL ls a = some v) (rule : ∀ (H : Heap) (locs : List Loc) (cells slots : Nat) (A : Array Slot) (rest : List Value), A[a]? = some (.val (rvA z tb v)) → W p l e R s m args below meth c H locs cells slots Qf (F0 m (pc + n) A (rvA z tb v :: rest)) → W p l e R s m args below meth c H locs cells slots Qf (F0 m pc A rest))
    (kk : GoA M D cy tb z p l e R s m args below meth c n0 w0 mc ms Qf (pc + n) ls (v :: st) h) : GoA M D cy tb z p l e R s m args below meth c n0 w0 mc ms Qf pc ls st h := by
  intro H locs A hP hS hL hn hw
  exact rule H locs _ _ A _ (hL.2.2 a v hg) (kk H locs A hP hS hL hn hw)
theorem r_store {v : Value} {n : Nat} {ls' : LsA} (rule : ∀ (H : Heap) (locs : List Loc) (cells slots : Nat) (A : Array Slot) (rest : List Value), lsOK M.2.2.1 z tb ls A → (∀ A' : Array Slot, lsOK M.2.2.1 z tb ls' A' → W p l e R s m args below meth c H locs cells slots Qf (F0 m (pc + n) A' rest)) → W p l e R s m args below meth c H locs cells slots Qf (F0 m pc A (rvA z tb v :: rest)))
    (kk : GoA M D cy tb z p l e R s m args below meth c n0 w0 mc ms Qf (pc + n) ls' st h) : GoA M D cy tb z p l e R s m args below meth c n0 w0 mc ms Qf pc ls (v :: st) h := by
  intro H locs A hP hS hL hn hw
  exact rule H locs _ _ A _ hL (fun A' hA' => kk H locs A' hP hS hA' hn hw)
theorem r_getI (E : EnA scr d M D cy tb z p R s m args meth c n0 mc ms) {k a b idx : Nat} {r : List Value} (hO : kO h.1 h.2.2.1 k a = true) (ha : a < 12) (hb : b < nF a) (hin : ∀ w ∈ u_ws (clF a).1 (clF a).2.1 (nF a), w ∈ gwT) (hlk : Cond.fieldLink M.1.cls idx (clF a).1 ((clF a).2.1 b).2.1 ((clF a).2.1 b).2.2.1 ∈ gwT) (hsame : ((clF a).2.1 b).1 = (clF a).1) (hd : decode M.2.1 pc = .ok (.getfield idx, 3))
    {v : Value} (hv : flV z h k a b = rvA z tb v) (kk : GoA M D cy tb z p l e R s m args below meth c n0 w0 mc ms Qf (pc + 3) ls (v :: r) h) : GoA M D cy tb z p l e R s m args below meth c n0 w0 mc ms Qf pc ls (.ref k :: r) h := by
  intro H locs A hP hS hL hn hw
  obtain ⟨hk, hs⟩ := kO_iff.mp hO
  obtain ⟨hx, hbc, hml, hown, hts, ⟨hK, -⟩, -⟩ := E
  have hcel := wld_get (cy := cy) (z := z) hk
  rw [celA_o hs] at hcel
  refine va_get (cl := vwCl) (T := (clF a).2.1) (N := nF a) (C := (clF a).1) hx hbc hts hin hown hK hP k hcel (clF_get ha) b hb (hts _ hlk) (fun x hx => by rw [hsame] at hx; exact hx) (v := rvA z tb v) ?_ hd ?_
  · rw [List.getElem?_map, List.getElem?_range hb, ← hv]; rfl
  · exact kk H locs A hP hS hL hn hw
theorem wd_upd {h h' : Hp} {k : Nat} {H : Heap} {x : va_E} (hn : h'.1 = h.1) (hk : k < h.1) (ho : ∀ i, i ≠ k → celA cy z h' i = celA cy z h i) (hx : celA cy z h' k = x) (hP : va_P D vwCl ((wldA cy z h).set k (z + k, x)) H) : WdA D cy z h' H := by
  rw [wld_set hn hk ho hx] at hP
  exact hP
theorem map_set_range {F G : Nat → Value} {N b : Nat} {v : Value} (hb : b < N) (h1 : G b = v) (h2 : ∀ j, j ≠ b → G j = F j) : ((List.range N).map F).set b v = (List.range N).map G := by
  apply List.ext_getElem?
  intro j
  by_cases hj : j < N
  · rw [List.getElem?_map, List.getElem?_range hj]
    by_cases e : j = b
    · subst e
      rw [List.getElem?_set_self (by simpa using hj)]
      simp [h1]
    · rw [List.getElem?_set_ne (Ne.symm e), List.getElem?_map, List.getElem?_range hj]
      simp [h2 j e]
  · rw [List.getElem?_eq_none (by simp; omega), List.getElem?_eq_none (by simp; omega)]
theorem r_put (E : EnA scr d M D cy tb z p R s m args meth c n0 mc ms) {k a b idx : Nat} {r : List Value} {v : Value} {h' : Hp} (hO : kO h.1 h.2.2.1 k a = true) (ha : a < 12) (hb : b < nF a) (hin : ∀ w ∈ u_ws (clF a).1 (clF a).2.1 (nF a), w ∈ gwT) (hlk : Cond.fieldLink M.1.cls idx (clF a).1 ((clF a).2.1 b).2.1 ((clF a).2.1 b).2.2.1 ∈ gwT) (hsame : ((clF a).2.1 b).1 = (clF a).1) (hd : decode M.2.1 pc = .ok (.putfield idx, 3))
    (hfin : ((clF a).2.1 b).2.2.2 = false ∨ (M.1.name = "<init>" ∧ (clF a).1 = M.1.cls ∧ ((clF a).2.1 b).2.2.2 = true)) (hnar : narrow (tyF a b) (rvA z tb v) = rvA z tb v) (hfit : fits (tyF a b) (rvA z tb v) = true)
    (e0 : h'.1 = h.1) (e1 : h'.2.1 = h.2.1) (e2 : h'.2.2.1 = h.2.2.1) (e3 : ∀ i, i ≠ k → h'.2.2.2.1 i = h.2.2.2.1 i ∧ h'.2.2.2.2 i = h.2.2.2.2 i) (e4 : flV z h' k a b = rvA z tb v) (e5 : ∀ j, j ≠ b → flV z h' k a j = flV z h k a j)
    (kk : GoA M D cy tb z p l e R s m args below meth c n0 w0 mc ms Qf (pc + 3) ls r h') : GoA M D cy tb z p l e R s m args below meth c n0 w0 mc ms Qf pc ls (v :: .ref k :: r) h := by
  intro H locs A hP hS hL hn hw
  obtain ⟨hk, hs⟩ := kO_iff.mp hO
  obtain ⟨hx, hbc, hml, hown, hts, ⟨hK, -⟩, -, hini, -⟩ := E
  have hcel := wld_get (cy := cy) (z := z) hk
  rw [celA_o hs] at hcel
  have fin : ∀ (H1 : Heap) (locs1 : List Loc), va_P D vwCl ((wldA cy z h).set k (z + k, .inr (a, ((List.range (nF a)).map (flV z h k a)).set b (rvA z tb v)))) H1 → va_S (fun q => z ≤ q) s.heap H1 locs1 → W p l e R s m args below meth c H1 locs1 (h.1 - n0) (h.2.1 - w0) Qf (F0 m (pc + 3) A (r.map (rvA z tb))) := by
    intro H1 locs1 hP1 hS1
    have := kk H1 locs1 A (wd_upd e0 hk (fun i hi => celA_off (by rw [e2]) (e3 i hi).1 (e3 i hi).2) (by rw [celA_o (by rw [e2]; exact hs), map_set_range hb e4 e5]) hP1) hS1 hL (by rw [e0]; exact hn) (by rw [e1]; exact hw)
    rw [e0, e1] at this
    exact this
  rcases hfin with hf | ⟨f1, f2, f3⟩
  · exact va_put (cl := vwCl) (T := (clF a).2.1) (N := nF a) (C := (clF a).1) hx hbc hts hin (tyF a) (tyF_ok ha) (nmF_ok ha) hown hK hP wld_D hS k hcel (clF_get ha) b hb (hts _ hlk) (fun x hx => by rw [hsame] at hx; exact hx) hf (tyF_ok ha b hb) hnar hfit (by simpa using hb) hd (fun H1 locs1 h1 _ h3 => fin H1 locs1 h1 h3)
  · exact va_putF (cl := vwCl) (T := (clF a).2.1) (N := nF a) (C := (clF a).1) hx hbc hts hin (tyF a) (tyF_ok ha) (nmF_ok ha) hown hK hP wld_D hS k hcel (clF_get ha) b hb (hts _ hlk) (fun x hx => by rw [hsame] at hx; exact hx) f3 (hini f1) (by rw [hsame, f2]) (tyF_ok ha b hb) hnar hfit (by simpa using hb) hd (fun H1 locs1 h1 _ h3 => fin H1 locs1 h1 h3)
theorem r_iald (E : EnA scr d M D cy tb z p R s m args meth c n0 mc ms) {k : Nat} {i : Int32} {r : List Value} (hO : kA h.1 h.2.2.1 k 1 i = true) (hd : decode M.2.1 pc = .ok (.iaload, 1)) (kk : GoA M D cy tb z p l e R s m args below meth c n0 w0 mc ms Qf (pc + 1) ls (.int (h.2.2.2.2 k i.toNatClampNeg) :: r) h) : GoA M D cy tb z p l e R s m args below meth c n0 w0 mc ms Qf pc ls (.int i :: .ref k :: r) h := by
  intro H locs A hP hS hL hn hw
  obtain ⟨⟨hk, hs⟩, hi⟩ := kA_iff.mp hO
  obtain ⟨hx, hbc, hml, hown, hts, ⟨hK, -⟩, -⟩ := E
  have hcel := wld_get (cy := cy) (z := z) hk
  rw [celA_i (pair_eta hs)] at hcel
  exact va_iald hx hbc hK hP k 0 hcel rfl hi hd (kk H locs A hP hS hL hn hw)
theorem r_zald (E : EnA scr d M D cy tb z p R s m args meth c n0 mc ms) {k : Nat} {i : Int32} {r : List Value} (hO : kA h.1 h.2.2.1 k 2 i = true) (hd : decode M.2.1 pc = .ok (.baload, 1)) (kk : GoA M D cy tb z p l e R s m args below meth c n0 w0 mc ms Qf (pc + 1) ls (.int (h.2.2.2.2 k i.toNatClampNeg) :: r) h) : GoA M D cy tb z p l e R s m args below meth c n0 w0 mc ms Qf pc ls (.int i :: .ref k :: r) h := by
  intro H locs A hP hS hL hn hw
  obtain ⟨⟨hk, hs⟩, hi⟩ := kA_iff.mp hO
  obtain ⟨hx, hbc, hml, hown, hts, ⟨hK, -⟩, -⟩ := E
  have hcel := wld_get (cy := cy) (z := z) hk
  rw [celA_b (pair_eta hs)] at hcel
  exact va_zald hx hbc hK hP k 1 hcel rfl hi hd (kk H locs A hP hS hL hn hw)
theorem r_tbl (E : EnA scr d M D cy tb z p R s m args meth c n0 mc ms) {j : Nat} {i : Int32} {r : List Value} (hj : j < 5) (hi : inB i (tbS scr j) = true) (hd : decode M.2.1 pc = .ok (.iaload, 1)) (kk : GoA M D cy tb z p l e R s m args below meth c n0 w0 mc ms Qf (pc + 1) ls (.int (tbV scr j i.toNatClampNeg) :: r) h) : GoA M D cy tb z p l e R s m args below meth c n0 w0 mc ms Qf pc ls (.int i :: .retAddr j :: r) h := by
  intro H locs A hP hS hL hn hw
  obtain ⟨hx, hbc, hml, hown, hts, ⟨hK, hT⟩, -⟩ := E
  exact va_ti hx hbc (hT.2.1 j hj) hS (inB_iff.mp hi) rfl hd (kk H locs A hP hS hL hn hw)
theorem r_iast (E : EnA scr d M D cy tb z p R s m args meth c n0 mc ms) {k : Nat} {i x : Int32} {r : List Value} (hO : kA h.1 h.2.2.1 k 1 i = true) (hd : decode M.2.1 pc = .ok (.iastore, 1)) (kk : GoA M D cy tb z p l e R s m args below meth c n0 w0 mc ms Qf (pc + 1) ls r (h.1, h.2.1, h.2.2.1, h.2.2.2.1, su h.2.2.2.2 k i.toNatClampNeg x)) : GoA M D cy tb z p l e R s m args below meth c n0 w0 mc ms Qf pc ls (.int x :: .int i :: .ref k :: r) h := by
  intro H locs A hP hS hL hn hw
  obtain ⟨⟨hk, hs⟩, hi⟩ := kA_iff.mp hO
  obtain ⟨hx, hbc, hml, hown, hts, ⟨hK, -⟩, -⟩ := E
  have hcel := wld_get (cy := cy) (z := z) hk
  rw [celA_i (pair_eta hs)] at hcel
  refine va_iast hx hbc hK hP wld_D hS k 0 hcel rfl hi hd (fun H1 locs1 h1 _ h3 => ?_)
  exact kk H1 locs1 A (wd_upd (h := h) rfl hk (fun i2 hi2 => celA_off rfl rfl (su_off _ _ _ _ hi2)) (by rw [celA_i (h := (h.1, h.2.1, h.2.2.1, h.2.2.2.1, su h.2.2.2.2 k i.toNatClampNeg x)) (pair_eta hs)]; exact congrArg (fun f => Sum.inl (cy 0, (h.2.2.1 k).2, Sum.inl f)) (su_row _ _ _ _)) h1) h3 hL hn hw
theorem r_zast (E : EnA scr d M D cy tb z p R s m args meth c n0 mc ms) {k : Nat} {i x : Int32} {r : List Value} (hO : kA h.1 h.2.2.1 k 2 i = true) (h01 : x = 0 ∨ x = 1) (hd : decode M.2.1 pc = .ok (.bastore, 1)) (kk : GoA M D cy tb z p l e R s m args below meth c n0 w0 mc ms Qf (pc + 1) ls r (h.1, h.2.1, h.2.2.1, h.2.2.2.1, su h.2.2.2.2 k i.toNatClampNeg x)) : GoA M D cy tb z p l e R s m args below meth c n0 w0 mc ms Qf pc ls (.int x :: .int i :: .ref k :: r) h := by
  intro H locs A hP hS hL hn hw
  obtain ⟨⟨hk, hs⟩, hi⟩ := kA_iff.mp hO
  obtain ⟨hx, hbc, hml, hown, hts, ⟨hK, -⟩, -⟩ := E
  have hcel := wld_get (cy := cy) (z := z) hk
  rw [celA_b (pair_eta hs)] at hcel
  have hnar : vp_nar .boolean x = x := by rcases h01 with rfl | rfl <;> rfl
  refine va_zast hx hbc hK hP wld_D hS k 1 hcel rfl hi hd (fun H1 locs1 h1 _ h3 => ?_)
  rw [hnar] at h1
  exact kk H1 locs1 A (wd_upd (h := h) rfl hk (fun i2 hi2 => celA_off rfl rfl (su_off _ _ _ _ hi2)) (by rw [celA_b (h := (h.1, h.2.1, h.2.2.1, h.2.2.2.1, su h.2.2.2.2 k i.toNatClampNeg x)) (pair_eta hs)]; exact congrArg (fun f => Sum.inl (cy 1, (h.2.2.1 k).2, Sum.inl f)) (su_row _ _ _ _)) h1) h3 hL hn hw
theorem va_rf_ref {o : Option Nat} {t : Nat} (h : o = some t) : va_rf (o.map (fun a => z + a)) = .ref (z + t) := by rw [h]; rfl
theorem r_aald (E : EnA scr d M D cy tb z p R s m args meth c n0 mc ms) {k o t : Nat} {i : Int32} {r : List Value} (hO : kA h.1 h.2.2.1 k (o + 3) i = true) (ho : o < 3) (hR : kR h.2.2.2.1 k i.toNatClampNeg t = true) (hd : decode M.2.1 pc = .ok (.aaload, 1)) (kk : GoA M D cy tb z p l e R s m args below meth c n0 w0 mc ms Qf (pc + 1) ls (.ref t :: r) h) : GoA M D cy tb z p l e R s m args below meth c n0 w0 mc ms Qf pc ls (.int i :: .ref k :: r) h := by
  intro H locs A hP hS hL hn hw
  obtain ⟨⟨hk, hs⟩, hi⟩ := kA_iff.mp hO
  obtain ⟨hx, hbc, hml, hown, hts, ⟨hK, -⟩, -⟩ := E
  have hcel := wld_get (cy := cy) (z := z) hk
  rw [celA_r (pair_eta hs)] at hcel
  have hlt : i.toNatClampNeg < (h.2.2.1 k).2 := Nat.not_le.mp fun q => hi (Or.inr q)
  have hv : va_rf ((h.2.2.2.1 k i.toNatClampNeg).map (fun a => z + a)) = .ref (z + t) := va_rf_ref (kR_iff.mp hR)
  obtain ⟨ty, hty, href⟩ : ∃ ty, (tyA cy)[o + 2]? = some (cy (o + 2), ty) ∧ ty.isReference = true := by
    match o, ho with
    | 0, _ => exact ⟨_, rfl, rfl⟩
    | 1, _ => exact ⟨_, rfl, rfl⟩
    | 2, _ => exact ⟨_, rfl, rfl⟩
  exact W.aald (v := .ref (z + t)) (ty := ty) hx hbc (hP k _ hcel) ((hK.2 (o + 2) _ hty).1 _ (fun j => va_rf ((h.2.2.2.1 k j).map (fun a => z + a)))) href (fun q => by cases q) (by show ¬ (i < 0 ∨ (arrV _ _ _).slots.size ≤ _); rw [arrV_size]; exact hi) (by show (arrV _ _ _).slots[_]? = _; rw [arrV_read _ _ hlt, hv]) rfl rfl hd (kk H locs A hP hS hL hn hw)
theorem r_alen (E : EnA scr d M D cy tb z p R s m args meth c n0 mc ms) {k : Nat} {r : List Value} (hk : k < h.1) (h1 : 1 ≤ (h.2.2.1 k).1) (h5 : (h.2.2.1 k).1 ≤ 5) (hd : decode M.2.1 pc = .ok (.arraylength, 1)) (kk : GoA M D cy tb z p l e R s m args below meth c n0 w0 mc ms Qf (pc + 1) ls (.int (Int32.ofNat (h.2.2.1 k).2) :: r) h) : GoA M D cy tb z p l e R s m args below meth c n0 w0 mc ms Qf pc ls (.ref k :: r) h := by
  intro H locs A hP hS hL hn hw
  obtain ⟨hx, hbc, hml, hown, hts, ⟨hK, -⟩, -⟩ := E
  have hcel := wld_get (cy := cy) (z := z) hk
  have hk9 := kk H locs A hP hS hL hn hw
  rcases hs : h.2.2.1 k with ⟨t, n⟩
  rw [hs] at h1 h5 hk9
  match t, h1, h5 with
  | 1, _, _ => rw [celA_i hs] at hcel; exact va_alen hx hbc hK hP k 0 hcel (tys := tyA cy) rfl rfl hd hk9
  | 2, _, _ => rw [celA_b hs] at hcel; exact va_alen hx hbc hK hP k 1 hcel (tys := tyA cy) rfl rfl hd hk9
  | 3, _, _ => rw [celA_r (t := 0) hs] at hcel; exact va_alen hx hbc hK hP k 2 hcel (tys := tyA cy) rfl rfl hd hk9
  | 4, _, _ => rw [celA_r (t := 1) hs] at hcel; exact va_alen hx hbc hK hP k 3 hcel (tys := tyA cy) rfl rfl hd hk9
  | 5, _, _ => rw [celA_r (t := 2) hs] at hcel; exact va_alen hx hbc hK hP k 4 hcel (tys := tyA cy) rfl rfl hd hk9
theorem r_tlen (E : EnA scr d M D cy tb z p R s m args meth c n0 mc ms) {j : Nat} {r : List Value} (hj : j < 5) (hd : decode M.2.1 pc = .ok (.arraylength, 1)) (kk : GoA M D cy tb z p l e R s m args below meth c n0 w0 mc ms Qf (pc + 1) ls (.int (Int32.ofNat (tbS scr j)) :: r) h) : GoA M D cy tb z p l e R s m args below meth c n0 w0 mc ms Qf pc ls (.retAddr j :: r) h := by
  intro H locs A hP hS hL hn hw
  obtain ⟨hx, hbc, hml, hown, hts, ⟨hK, hT⟩, -⟩ := E
  exact va_tlen hx hbc (hT.2.1 j hj) hS rfl hd (kk H locs A hP hS hL hn hw)
theorem r_gets (E : EnA scr d M D cy tb z p R s m args meth c n0 mc ms) {j idx : Nat} (hj : j < 4) (hl : Cond.fieldLink M.1.cls idx "HumanPyramid" (tbN j) "[I" ∈ gwT ∨ Cond.fieldLinkNest M.1.cls idx "HumanPyramid" (tbN j) "[I" "HumanPyramid" ∈ nestF) (hd : decode M.2.1 pc = .ok (.getstatic idx, 3)) (kk : GoA M D cy tb z p l e R s m args below meth c n0 w0 mc ms Qf (pc + 3) ls (.retAddr j :: st) h) : GoA M D cy tb z p l e R s m args below meth c n0 w0 mc ms Qf pc ls st h := by
  intro H locs A hP hS hL hn hw
  obtain ⟨hx, hbc, hml, hown, hts, ⟨hK, hT⟩, -⟩ := E
  rcases hl with hl | hl
  · exact va_gets hx hbc (hT.1 j hj) hS hown (hts _ hl) (fun _ h9 => h9) hd (kk H locs A hP hS hL hn hw)
  · exact va_getsN hx hbc (hT.1 j hj) hS hown (va_Nw.use rfl (hT.2.2.2.1 _ hl)) (fun _ h9 => h9) hd (kk H locs A hP hS hL hn hw)
end RulesA
end
section
/-! makings, natives, branches, returns, calls -/
section RulesB
variable {scr : ScA} {d : Nat} {M : MD} {D : va_G} {cy : Nat → ClassId} {tb : Nat → Nat} {z : Nat} {p : Program} {l : Launch} {e : Env} {R : Room} {s : State} {m : MethodId} {args : Array Value} {below : List Frame} {meth : Method} {c : Code} {n0 w0 mc ms : Nat} {Qf : State → Prop} {pc : Nat} {ls : LsA} {st : List Value} {h : Hp}
theorem W_sz {H : Heap} {locs : List Loc} {cells slots : Nat} {g : JFrame} (k : H.size ≤ s.heap.size + cells → W p l e R s m args below meth c H locs cells slots Qf g) : W p l e R s m args below meth c H locs cells slots Qf g := by
  intro T hT X
  have h1 : T.heap.size ≤ s.heap.size + cells := X.same.2.2.1
  exact k (by rw [← hT]; exact h1) T hT X
/-- the new cell's address: the next one -/
theorem new_at {cy : Nat → ClassId} {h : Hp} {q : Nat} {x : va_E} {H1 : Heap} (hP : va_P D vwCl (wldA cy z h ++ [(q, x)]) H1) (hD : va_D (fun q => z ≤ q) (wldA cy z h ++ [(q, x)])) (hsz : H1.size ≤ z + h.1 + 1) : q = z + h.1 := by
  have hl : (wldA cy z h).length = h.1 := by simp [wldA]
  have hg : (wldA cy z h ++ [(q, x)])[h.1]? = some (q, x) := by
    rw [List.getElem?_append_right (by omega), hl, Nat.sub_self]
    rfl
  have h1 : q < H1.size := (hP _ _ hg).lt
  have h2 : z ≤ q := hD.2 _ _ hg
  rcases Nat.lt_or_ge q (z + h.1) with hlt | hge
  · have hk : q - z < h.1 := by omega
    have hg2 : (wldA cy z h ++ [(q, x)])[q - z]? = some (z + (q - z), celA cy z h (q - z)) := by
      rw [List.getElem?_append_left (by omega)]
      exact wld_get hk
    have := hD.1 _ _ _ _ hg2 hg (by show z + (q - z) = q; omega)
    omega
  · omega
theorem wd_new {cy : Nat → ClassId} {h h' : Hp} {q : Nat} {x : va_E} {H1 : Heap} (hq : q = z + h.1) (hn : h'.1 = h.1 + 1) (ho : ∀ i, i < h.1 → celA cy z h' i = celA cy z h i) (hx : celA cy z h' h.1 = x) (hP : va_P D vwCl (wldA cy z h ++ [(q, x)]) H1) : WdA D cy z h' H1 := by
  subst hq
  rw [wld_push hn ho hx] at hP
  exact hP
theorem r_grow {h h' : Hp} {cells slots : Nat} {H1 : Heap} {locs : List Loc} {g : JFrame} {k n : Nat} (hn : n0 ≤ h.1) (hw : w0 ≤ h.2.1) (e1 : h'.1 = h.1 + k) (e2 : h'.2.1 = h.2.1 + n) (kk : W p l e R s m args below meth c H1 locs (h'.1 - n0) (h'.2.1 - w0) Qf g) (hc : cells = h.1 - n0 + k) (hs : slots = h.2.1 - w0 + n) : W p l e R s m args below meth c H1 locs cells slots Qf g := by
  refine W.cs (cells' := h'.1 - n0) (slots' := h'.2.1 - w0) (by omega) (by omega) kk
theorem celA_new {h : Hp} {x : Nat × Nat} {k2 w2 : Nat} {i : Nat} (hi : i < h.1) : celA cy z (k2, w2, va_up h.2.2.1 h.1 x, rr h.2.2.2.1 h.1 (fun _ => none), sr h.2.2.2.2 h.1 (fun _ => 0)) i = celA cy z h i := by
  have e : i ≠ h.1 := by omega
  exact celA_off (va_up_ne _ _ e) (rr_off _ _ _ e) (sr_off _ _ _ e)
theorem r_new (E : EnA scr d M D cy tb z p R s m args meth c n0 mc ms) {a idx : Nat} (ha : a < 12) (hin : ∀ w ∈ u_ws (clF a).1 (clF a).2.1 (nF a), w ∈ gwT) (h1 : Cond.classLink M.1.cls idx (clF a).1 ∈ gwT) (h2 : Cond.instantiable (clF a).1 (nF a) ∈ gwT) (h3 : Cond.initialized (clF a).1 ∈ gwT) (hb1 : h.1 + 1 ≤ n0 + mc) (hb2 : h.2.1 + nF a ≤ w0 + ms) (hd : decode M.2.1 pc = .ok (.new idx, 3))
    (kk : GoA M D cy tb z p l e R s m args below meth c n0 w0 mc ms Qf (pc + 3) ls (.ref h.1 :: st) (h.1 + 1, h.2.1 + nF a, va_up h.2.2.1 h.1 (0, a), rr h.2.2.2.1 h.1 (fun _ => none), sr h.2.2.2.2 h.1 (fun _ => 0))) : GoA M D cy tb z p l e R s m args below meth c n0 w0 mc ms Qf pc ls st h := by
  intro H locs A hP hS hL hn hw
  obtain ⟨hx, hbc, hml, hown, hts, ⟨hK, -⟩, hsz, -, -, -, hmc, hms⟩ := E
  have hsl : (va_up h.2.2.1 h.1 (0, a)) h.1 = (0, a) := va_up_self _ _ _
  refine va_new (ci := a) (fs := (List.range (nF a)).map (flV z (h.1 + 1, h.2.1 + nF a, va_up h.2.2.1 h.1 (0, a), rr h.2.2.2.1 h.1 (fun _ => none), sr h.2.2.2.2 h.1 (fun _ => 0)) h.1 a)) hx hbc hts hin (tyF a) (tyF_ok ha) hown (hts _ h1) (hts _ h2) (hts _ h3) hK hP wld_D hS (fun q hq => by show z ≤ q; omega) (clF_get ha) ?_ (by omega) (by omega) hd (fun q H1 g1 g2 g3 => W_sz fun hz => ?_)
  · intro j hj
    have e1 : vp_V ((List.range (nF a)).map (flV z (h.1 + 1, h.2.1 + nF a, va_up h.2.2.1 h.1 (0, a), rr h.2.2.2.1 h.1 (fun _ => none), sr h.2.2.2.2 h.1 (fun _ => 0)) h.1 a)) j = flV z (h.1 + 1, h.2.1 + nF a, va_up h.2.2.1 h.1 (0, a), rr h.2.2.2.1 h.1 (fun _ => none), sr h.2.2.2.2 h.1 (fun _ => 0)) h.1 a j := by
      unfold vp_V
      rw [List.getD_eq_getElem?_getD, List.getElem?_map, List.getElem?_range hj]
      rfl
    rw [e1]
    unfold flV
    simp only [rr_row, sr_row]
    have hall : ∀ (x : FieldType), x = .int ∨ x = .boolean ∨ x.isReference = true → defaultValue x = if x.isReference = true then va_rf (Option.map (fun a => z + a) none) else Value.int 0 := by
      intro x hx
      rcases hx with rfl | rfl | hx
      · rfl
      · rfl
      · rw [if_pos hx]
        cases x <;> first | rfl | cases hx
    refine hall (tyF a j) ?_
    have hdec : ∀ a, a < 12 → ∀ j, j < nF a → (tyF a j = .int ∨ tyF a j = .boolean ∨ (tyF a j).isReference = true) := by decide +kernel
    exact hdec a ha j hj
  · have hq := new_at g1 g2 (by omega)
    subst hq
    have hW := wd_new (h' := (h.1 + 1, h.2.1 + nF a, va_up h.2.2.1 h.1 (0, a), rr h.2.2.2.1 h.1 (fun _ => none), sr h.2.2.2.2 h.1 (fun _ => 0))) rfl rfl (fun i hi => celA_new hi) (celA_o hsl) g1
    exact r_grow (h' := (h.1 + 1, h.2.1 + nF a, va_up h.2.2.1 h.1 (0, a), rr h.2.2.2.1 h.1 (fun _ => none), sr h.2.2.2.2 h.1 (fun _ => 0))) hn hw rfl rfl (kk H1 locs A hW g3 hL (by show n0 ≤ h.1 + 1; omega) (by show w0 ≤ h.2.1 + nF a; omega)) rfl rfl
theorem cy_eq {cA : ClassId} {t : Nat} {ty : FieldType} (hK : va_K D vwCl (tyA cy) s) (ht : (tyA cy)[t]? = some (cy t, ty)) (hprim : ∀ C, ty ≠ .object C) (hK2 : va_K D vwCl (tyA cy ++ [(cA, ty)]) s) : cA = cy t := by
  have h1 := (hK.2 t _ ht).2
  have h2 := (hK2.2 5 (cA, ty) rfl).2
  cases ty <;> first | exact absurd rfl (hprim _) | (unfold va_RA at h1 h2; exact Option.some.inj (h2.symm.trans h1))
theorem cy_eqO {cA : ClassId} {t : Nat} {C : String} (hK : va_K D vwCl (tyA cy) s) (ht : (tyA cy)[t]? = some (cy t, .object C)) (hK2 : va_K D vwCl (tyA cy ++ [(cA, .object C)]) s) : cA = cy t := by
  obtain ⟨_, _, _, _, _, h1⟩ := (hK.2 t _ ht).2
  obtain ⟨_, _, _, _, _, h2⟩ := (hK2.2 5 (cA, .object C) rfl).2
  exact Option.some.inj (h2.symm.trans h1)
theorem r_newa (E : EnA scr d M D cy tb z p R s m args meth c n0 mc ms) {a : Nat} {at' : ArrayType} {n : Int32} {r : List Value} (hat : (a = 0 ∧ newarray.typeOf at' = .int) ∨ (a = 1 ∧ newarray.typeOf at' = .boolean)) (hw1 : Cond.arrayClass (newarray.typeOf at') ∈ gwT) (hn0 : ¬ n < 0) (hlim : n.toNatClampNeg ≤ 1000) (hb1 : h.1 + 1 ≤ n0 + mc) (hb2 : h.2.1 + n.toNatClampNeg ≤ w0 + ms) (hd : decode M.2.1 pc = .ok (.newarray at', 2))
    (kk : GoA M D cy tb z p l e R s m args below meth c n0 w0 mc ms Qf (pc + 2) ls (.ref h.1 :: r) (h.1 + 1, h.2.1 + n.toNatClampNeg, va_up h.2.2.1 h.1 (a + 1, n.toNatClampNeg), rr h.2.2.2.1 h.1 (fun _ => none), sr h.2.2.2.2 h.1 (fun _ => 0))) : GoA M D cy tb z p l e R s m args below meth c n0 w0 mc ms Qf pc ls (.int n :: r) h := by
  intro H locs A hP hS hL hn hw
  obtain ⟨hx, hbc, hml, hown, hts, ⟨hK, -⟩, hsz, -, -, -, hmc, hms⟩ := E
  have hz0 : (sr h.2.2.2.2 h.1 (fun _ => 0)) h.1 = fun _ => (0 : Int32) := sr_row _ _ _
  have fin : ∀ (q : Nat) (cA : ClassId) (H1 : Heap) (t : Nat), cA = cy t → celA cy z (h.1 + 1, h.2.1 + n.toNatClampNeg, va_up h.2.2.1 h.1 (a + 1, n.toNatClampNeg), rr h.2.2.2.1 h.1 (fun _ => none), sr h.2.2.2.2 h.1 (fun _ => 0)) h.1 = .inl (cy t, n.toNatClampNeg, .inl (fun _ => 0)) → va_P D vwCl (wldA cy z h ++ [(q, .inl (cA, n.toNatClampNeg, .inl (fun _ => 0)))]) H1 → va_D (fun q => z ≤ q) (wldA cy z h ++ [(q, .inl (cA, n.toNatClampNeg, .inl (fun _ => 0)))]) → va_S (fun q => z ≤ q) s.heap H1 locs → W p l e R s m args below meth c H1 locs (h.1 - n0 + 1) (h.2.1 - w0 + n.toNatClampNeg) Qf (F0 m (pc + 2) A (.ref q :: r.map (rvA z tb))) := by
    intro q cA H1 t hcA hcel g1 g2 g3
    refine W_sz fun hz => ?_
    have hq := new_at g1 g2 (by omega)
    subst hq
    rw [hcA] at g1
    have hW := wd_new (h' := (h.1 + 1, h.2.1 + n.toNatClampNeg, va_up h.2.2.1 h.1 (a + 1, n.toNatClampNeg), rr h.2.2.2.1 h.1 (fun _ => none), sr h.2.2.2.2 h.1 (fun _ => 0))) rfl rfl (fun i hi => celA_new hi) hcel g1
    exact r_grow (h' := (h.1 + 1, h.2.1 + n.toNatClampNeg, va_up h.2.2.1 h.1 (a + 1, n.toNatClampNeg), rr h.2.2.2.1 h.1 (fun _ => none), sr h.2.2.2.2 h.1 (fun _ => 0))) hn hw rfl rfl (kk H1 locs A hW g3 hL (by show n0 ≤ h.1 + 1; omega) (by show w0 ≤ h.2.1 + n.toNatClampNeg; omega)) rfl rfl
  rcases hat with ⟨rfl, hty⟩ | ⟨rfl, hty⟩
  · refine va_newa (atype := at') (ty := .int) (a0 := (n.toNatClampNeg, .inl (fun _ => 0))) hx hbc (hts _ hw1) hty hK hP wld_D hS (fun q hq => by show z ≤ q; omega) (fun cA => rfl) hn0 rfl (by show n.toNatClampNeg * 4 ≤ _; omega) (by omega) (by omega) hd (fun q cA H1 gK g1 g2 g3 => ?_)
    refine fin q cA H1 0 (cy_eq (ty := .int) hK rfl (fun _ q => by cases q) gK) ?_ g1 g2 g3
    rw [celA_i (n := n.toNatClampNeg) (va_up_self _ _ _)]
    exact congrArg (fun f => Sum.inl (cy 0, n.toNatClampNeg, Sum.inl f)) hz0
  · refine va_newa (atype := at') (ty := .boolean) (a0 := (n.toNatClampNeg, .inl (fun _ => 0))) hx hbc (hts _ hw1) hty hK hP wld_D hS (fun q hq => by show z ≤ q; omega) (fun cA => rfl) hn0 rfl (by show n.toNatClampNeg * 1 ≤ _; omega) (by omega) (by omega) hd (fun q cA H1 gK g1 g2 g3 => ?_)
    refine fin q cA H1 1 (cy_eq (ty := .boolean) hK rfl (fun _ q => by cases q) gK) ?_ g1 g2 g3
    rw [celA_b (n := n.toNatClampNeg) (va_up_self _ _ _)]
    exact congrArg (fun f => Sum.inl (cy 1, n.toNatClampNeg, Sum.inl f)) hz0
theorem r_newq (E : EnA scr d M D cy tb z p R s m args meth c n0 mc ms) {a idx : Nat} {C : String} {n : Int32} {r : List Value} (hty : (tyA cy)[a]? = some (cy a, .object C)) (ha : ∃ t, a = t + 2) (hAO : va_AO C s) (hw1 : Cond.classLink M.1.cls idx C ∈ gwT) (hn0 : ¬ n < 0) (hlim : n.toNatClampNeg ≤ 1000) (hb1 : h.1 + 1 ≤ n0 + mc) (hb2 : h.2.1 + n.toNatClampNeg ≤ w0 + ms) (hd : decode M.2.1 pc = .ok (.anewarray idx, 3))
    (kk : GoA M D cy tb z p l e R s m args below meth c n0 w0 mc ms Qf (pc + 3) ls (.ref h.1 :: r) (h.1 + 1, h.2.1 + n.toNatClampNeg, va_up h.2.2.1 h.1 (a + 1, n.toNatClampNeg), rr h.2.2.2.1 h.1 (fun _ => none), sr h.2.2.2.2 h.1 (fun _ => 0))) : GoA M D cy tb z p l e R s m args below meth c n0 w0 mc ms Qf pc ls (.int n :: r) h := by
  intro H locs A hP hS hL hn hw
  obtain ⟨hx, hbc, hml, hown, hts, ⟨hK, -⟩, hsz, -, -, -, hmc, hms⟩ := E
  refine va_newq hx hbc hown (hts _ hw1) hAO hK hP wld_D hS (fun q hq => by show z ≤ q; omega) hn0 rfl (by omega) (by omega) (by omega) hd (fun q cA H1 gK g1 g2 g3 => W_sz fun hz => ?_)
  have hq := new_at g1 g2 (by omega)
  subst hq
  rw [cy_eqO hK hty gK] at g1
  have hcel : celA cy z (h.1 + 1, h.2.1 + n.toNatClampNeg, va_up h.2.2.1 h.1 (a + 1, n.toNatClampNeg), rr h.2.2.2.1 h.1 (fun _ => none), sr h.2.2.2.2 h.1 (fun _ => 0)) h.1 = .inl (cy a, n.toNatClampNeg, .inr (.inr (.inr (.inr (fun _ => none))))) := by
    obtain ⟨t, rfl⟩ := ha
    rw [celA_r (t := t) (n := n.toNatClampNeg) (va_up_self _ _ _)]
    refine congrArg (fun f => Sum.inl (cy (t + 2), n.toNatClampNeg, Sum.inr (Sum.inr (Sum.inr (Sum.inr f))))) ?_
    funext j
    simp [rr_row]
  have hW := wd_new (h' := (h.1 + 1, h.2.1 + n.toNatClampNeg, va_up h.2.2.1 h.1 (a + 1, n.toNatClampNeg), rr h.2.2.2.1 h.1 (fun _ => none), sr h.2.2.2.2 h.1 (fun _ => 0))) rfl rfl (fun i hi => celA_new hi) hcel g1
  exact r_grow (h' := (h.1 + 1, h.2.1 + n.toNatClampNeg, va_up h.2.2.1 h.1 (a + 1, n.toNatClampNeg), rr h.2.2.2.1 h.1 (fun _ => none), sr h.2.2.2.2 h.1 (fun _ => 0))) hn hw rfl rfl (kk H1 locs A hW g3 hL (by show n0 ≤ h.1 + 1; omega) (by show w0 ≤ h.2.1 + n.toNatClampNeg; omega)) rfl rfl
theorem r_aast (E : EnA scr d M D cy tb z p R s m args meth c n0 mc ms) {k t o ci : Nat} {i : Int32} {r : List Value} (hO : kA h.1 h.2.2.1 k (o + 3) i = true) (hT : kO h.1 h.2.2.1 t ci = true) (hci : ci < 12) (hty : (tyA cy)[o + 2]? = some (cy (o + 2), .object (clF ci).1)) (hd : decode M.2.1 pc = .ok (.aastore, 1))
    (kk : GoA M D cy tb z p l e R s m args below meth c n0 w0 mc ms Qf (pc + 1) ls r (h.1, h.2.1, h.2.2.1, ru h.2.2.2.1 k i.toNatClampNeg (some t), h.2.2.2.2)) : GoA M D cy tb z p l e R s m args below meth c n0 w0 mc ms Qf pc ls (.ref t :: .int i :: .ref k :: r) h := by
  intro H locs A hP hS hL hn hw
  obtain ⟨⟨hk, hs⟩, hi⟩ := kA_iff.mp hO
  obtain ⟨ht, hs2⟩ := kO_iff.mp hT
  obtain ⟨hx, hbc, hml, hown, hts, ⟨hK, -⟩, -⟩ := E
  have hcel := wld_get (cy := cy) (z := z) hk
  rw [celA_r (pair_eta hs)] at hcel
  have hcel2 := wld_get (cy := cy) (z := z) ht
  rw [celA_o hs2] at hcel2
  refine va_astq (r := ((clF ci).1, (clF ci).2.1, nF ci)) hx hbc hK hP wld_D hS k (o + 2) t ci hcel hty hcel2 (clF_get hci) hi hd (fun H1 locs1 h1 _ h3 => ?_)
  refine kk H1 locs1 A (wd_upd (h := h) rfl hk (fun i2 hi2 => celA_off rfl (ru_off _ _ _ _ hi2) rfl) ?_ h1) h3 hL hn hw
  rw [celA_r (h := (h.1, h.2.1, h.2.2.1, ru h.2.2.2.1 k i.toNatClampNeg (some t), h.2.2.2.2)) (pair_eta hs)]
  refine congrArg (fun f => Sum.inl (cy (o + 2), (h.2.2.1 k).2, Sum.inr (Sum.inr (Sum.inr (Sum.inr f))))) ?_
  funext j
  by_cases hj : j = i.toNatClampNeg
  · subst hj
    simp [ru_row, va_up]
  · simp [ru_row, va_up, hj]
theorem r_objInit (E : EnA scr d M D cy tb z p R s m args meth c n0 mc ms) {k idx : Nat} {r : List Value} (h1 : Cond.methodLink M.1.cls idx Lib.objectInit ∈ gwT) (h2 : Cond.instanceMethod Lib.objectInit ∈ gwT) (h3 : Cond.code Lib.objectInit ⟨#[0xb1]⟩ 1 none ∈ gwT) (hd1 : 1 ≤ d) (hr : (r.map fun v => v.category).sum ≤ 8) (hd : decode M.2.1 pc = .ok (.invokespecial idx, 3))
    (kk : GoA M D cy tb z p l e R s m args below meth c n0 w0 mc ms Qf (pc + 3) ls r h) : GoA M D cy tb z p l e R s m args below meth c n0 w0 mc ms Qf pc ls (.ref k :: r) h := by
  intro H locs A hP hS hL hn hw
  obtain ⟨hx, hbc, hml, hown, hts, ⟨hK, -⟩, hsz, -, hfr, hlo, -⟩ := E
  have hsum : ((r.map (rvA z tb)).map fun v => v.category).sum = (r.map fun v => v.category).sum := by
    rw [List.map_map]
    exact congrArg List.sum (List.map_congr_left (fun v _ => rvA_cat z tb v))
  refine W.objInit hx hbc hown (hts _ h1) (hts _ h2) (hts _ h3) rfl (by rw [hml]; exact hL.1) (a := z + k) (rest := r.map (rvA z tb)) rfl hd (by omega) (by show 2 * 0 + _ + 12 ≤ _; rw [hsum]; omega) ?_
  exact kk H locs A hP hS hL hn hw
theorem sum_cat (r : List Value) : ((r.map (rvA z tb)).map fun v => v.category).sum = (r.map fun v => v.category).sum := by
  rw [List.map_map]
  exact congrArg List.sum (List.map_congr_left (fun v _ => rvA_cat z tb v))
theorem r_mmax (E : EnA scr d M D cy tb z p R s m args meth c n0 mc ms) {x y : Int32} {idx : Nat} {r : List Value} (h1 : Cond.methodLink M.1.cls idx Lib.Math.max.name ∈ gwT) (h2 : Cond.static Lib.Math.max.name ∈ gwT) (h3 : Cond.initialized "java/lang/Math" ∈ gwT) (h4 : Cond.code Lib.Math.max.name Lib.Math.max.code 2 (some .int) ∈ gwT) (hd1 : 1 ≤ d) (hr : (r.map fun v => v.category).sum ≤ 8) (hc1 : h.1 - n0 ≤ mc) (hc2 : h.2.1 - w0 ≤ ms) (hd : decode M.2.1 pc = .ok (.invokestatic idx, 3))
    (kk : GoA M D cy tb z p l e R s m args below meth c n0 w0 mc ms Qf (pc + 3) ls (.int (if x < y then y else x) :: r) h) : GoA M D cy tb z p l e R s m args below meth c n0 w0 mc ms Qf pc ls (.int y :: .int x :: r) h := by
  intro H locs A hP hS hL hn hw
  obtain ⟨hx, hbc, hml, hown, hts, ⟨hK, -⟩, hsz, -, hfr, hlo, hmc, hms⟩ := E
  exact va_mmax hx hbc (by rw [hml]; exact hL.1.symm) hown (hts _ h1) (hts _ h2) (hts _ h3) (hts _ h4) (by omega) (by rw [sum_cat]; omega) (by omega) (by omega) hd (kk H locs A hP hS hL hn hw)
theorem r_mmin (E : EnA scr d M D cy tb z p R s m args meth c n0 mc ms) {x y : Int32} {idx : Nat} {r : List Value} (h1 : Cond.methodLink M.1.cls idx Lib.Math.min.name ∈ gwT) (h2 : Cond.static Lib.Math.min.name ∈ gwT) (h3 : Cond.initialized "java/lang/Math" ∈ gwT) (h4 : Cond.code Lib.Math.min.name Lib.Math.min.code 2 (some .int) ∈ gwT) (hd1 : 1 ≤ d) (hr : (r.map fun v => v.category).sum ≤ 8) (hc1 : h.1 - n0 ≤ mc) (hc2 : h.2.1 - w0 ≤ ms) (hd : decode M.2.1 pc = .ok (.invokestatic idx, 3))
    (kk : GoA M D cy tb z p l e R s m args below meth c n0 w0 mc ms Qf (pc + 3) ls (.int (if y < x then y else x) :: r) h) : GoA M D cy tb z p l e R s m args below meth c n0 w0 mc ms Qf pc ls (.int y :: .int x :: r) h := by
  intro H locs A hP hS hL hn hw
  obtain ⟨hx, hbc, hml, hown, hts, ⟨hK, -⟩, hsz, -, hfr, hlo, hmc, hms⟩ := E
  exact va_mmin hx hbc (by rw [hml]; exact hL.1.symm) hown (hts _ h1) (hts _ h2) (hts _ h3) (hts _ h4) (by omega) (by rw [sum_cat]; omega) (by omega) (by omega) hd (kk H locs A hP hS hL hn hw)
theorem r_copy (E : EnA scr d M D cy tb z p R s m args meth c n0 mc ms) {n dp sp : Int32} {kd ks idx : Nat} {r : List Value} (h1 : Cond.methodLink M.1.cls idx arraycopyName ∈ gwT) (h2 : Cond.native arraycopyName ∈ gwT) (h3 : Cond.static arraycopyName ∈ gwT) (h4 : Cond.initialized "java/lang/System" ∈ gwT) (hd1 : 1 ≤ d) (hr : (r.map fun v => v.category).sum ≤ 8) (hk : kd < h.1 ∧ (h.2.2.1 kd).1 = 1 ∧ ks < h.1 ∧ (h.2.2.1 ks).1 = 1) (hb : ¬ sp < 0 ∧ ¬ dp < 0 ∧ ¬ n < 0 ∧ sp.toNatClampNeg + n.toNatClampNeg ≤ (h.2.2.1 ks).2 ∧ dp.toNatClampNeg + n.toNatClampNeg ≤ (h.2.2.1 kd).2) (hd : decode M.2.1 pc = .ok (.invokestatic idx, 3))
    (kk : GoA M D cy tb z p l e R s m args below meth c n0 w0 mc ms Qf (pc + 3) ls r (h.1, h.2.1, h.2.2.1, h.2.2.2.1, sr h.2.2.2.2 kd (va_cpy (h.2.2.2.2 ks) (h.2.2.2.2 kd) sp.toNatClampNeg dp.toNatClampNeg n.toNatClampNeg))) : GoA M D cy tb z p l e R s m args below meth c n0 w0 mc ms Qf pc ls (.int n :: .int dp :: .ref kd :: .int sp :: .ref ks :: r) h := by
  intro H locs A hP hS hL hn hw
  obtain ⟨hx, hbc, hml, hown, hts, ⟨hK, -⟩, hsz, -, hfr, hlo, hmc, hms⟩ := E
  obtain ⟨k1, k2, k3, k4⟩ := hk
  obtain ⟨b1, b2, b3, b4, b5⟩ := hb
  have hcd := wld_get (cy := cy) (z := z) k1
  rw [celA_i (pair_eta k2)] at hcd
  have hcs := wld_get (cy := cy) (z := z) k3
  rw [celA_i (pair_eta k4)] at hcs
  have hnw : nativeFrameWords "java/lang/System" "arraycopy" 5 + 11 ≤ 24 := by decide +kernel
  refine va_copyi hx hbc (by rw [hml]; exact hL.1.symm) hown (hts _ h1) (hts _ h2) (hts _ h3) (hts _ h4) hK hP wld_D hS ks kd 0 0 hcs hcd (ty := .int) rfl rfl rfl b1 b2 b3 b4 b5 (fun _ _ => rfl) (by omega) (by rw [sum_cat]; omega) hd (fun H1 locs1 g1 _ g3 => ?_)
  refine kk H1 locs1 A (wd_upd (h := h) rfl k1 (fun i2 hi2 => celA_off rfl rfl (sr_off _ _ _ hi2)) ?_ g1) g3 hL hn hw
  rw [celA_i (h := (h.1, h.2.1, h.2.2.1, h.2.2.2.1, sr h.2.2.2.2 kd (va_cpy (h.2.2.2.2 ks) (h.2.2.2.2 kd) sp.toNatClampNeg dp.toNatClampNeg n.toNatClampNeg))) (pair_eta k2)]
  exact congrArg (fun f => Sum.inl (cy 0, (h.2.2.1 kd).2, Sum.inl f)) (sr_row _ _ _)
end RulesB
end
section
/-! new int[n][k] -/
section RulesC
variable {scr : ScA} {d : Nat} {M : MD} {D : va_G} {cy : Nat → ClassId} {tb : Nat → Nat} {z : Nat} {p : Program} {l : Launch} {e : Env} {R : Room} {s : State} {m : MethodId} {args : Array Value} {below : List Frame} {meth : Method} {c : Code} {n0 w0 mc ms : Nat} {Qf : State → Prop} {pc : Nat} {ls : LsA} {st : List Value} {h : Hp}
theorem size_is {H : Heap} {locs : List Loc} (hP : WdA D cy z h H) (hS : va_S (fun q => z ≤ q) s.heap H locs) (hsz : s.heap.size = z + n0) (hn : n0 ≤ h.1) (hz : H.size ≤ s.heap.size + (h.1 - n0)) : H.size = z + h.1 := by
  have h1 := hS.1
  rcases Nat.lt_or_ge n0 h.1 with hl | hl
  · have := (hP (h.1 - 1) _ (wld_get (by omega))).lt
    have h2 : z + (h.1 - 1) < H.size := this
    omega
  · omega
theorem vr_outer (c : ClassId) (N h0 : Nat) : ∀ i : Nat, Jvm.Free.Multi.outerC c N h0 i = arrV c N (fun j => va_rf (if j < i then some (h0 + 1 + j) else none))
  | 0 => by
    show ({ cls := c, slots := Array.replicate N .null, vm := .none } : Cell) = _
    rw [arrV_new]
    refine congrArg (arrV c N) (funext fun j => ?_)
    simp [va_rf]
  | i + 1 => by
    show (Jvm.Free.Multi.outerC c N h0 i).setSlot i (.ref (h0 + 1 + i)) = _
    rw [vr_outer c N h0 i, arrV_store]
    refine congrArg (arrV c N) (funext fun j => ?_)
    by_cases e : j = i
    · subst e
      simp [updV, va_rf]
    · by_cases h : j < i
      · simp [updV, e, h, Nat.lt_succ_of_lt h]
      · simp [updV, e, h, show ¬ j < i + 1 by omega]
theorem r_mna (E : EnA scr d M D cy tb z p R s m args meth c n0 mc ms) {idx : Nat} {n k : Int32} {r : List Value} (h1 : Cond.classLink M.1.cls idx "[[I" ∈ gwT) (hnn : ¬ n < 0) (hkn : ¬ k < 0) (hl1 : n.toNatClampNeg ≤ 1000) (hl2 : k.toNatClampNeg ≤ 1000) (hb1 : h.1 + (1 + n.toNatClampNeg) ≤ n0 + mc) (hb2 : h.2.1 + (n.toNatClampNeg + n.toNatClampNeg * k.toNatClampNeg) ≤ w0 + ms) (hd : decode M.2.1 pc = .ok (.multianewarray idx 2, 4))
    (kk : GoA M D cy tb z p l e R s m args below meth c n0 w0 mc ms Qf (pc + 4) ls (.ref h.1 :: r) (h.1 + (1 + n.toNatClampNeg), h.2.1 + (n.toNatClampNeg + n.toNatClampNeg * k.toNatClampNeg), mnS h.2.2.1 h.1 n.toNatClampNeg k.toNatClampNeg, mnR h.2.2.2.1 h.1 n.toNatClampNeg, mnV h.2.2.2.2 h.1 n.toNatClampNeg)) : GoA M D cy tb z p l e R s m args below meth c n0 w0 mc ms Qf pc ls (.int k :: .int n :: r) h := by
  intro H locs A hP hS hL hn hw
  obtain ⟨hx, hbc, hml, hown, hts, ⟨hK, hTb⟩, hsz, -, -, -, hmc, hms⟩ := E
  intro T hT X
  have hcl : (Cond.classLink M.1.cls idx ("[" ++ (FieldType.array .int).toString)).before args s = true := hts _ h1
  have hov : (Cond.arrayOver (.array .int)).before args s = true := hTb.2.2.2.2.2.2
  have hHs : H.size = z + h.1 := size_is hP hS hsz hn (by rw [← hT]; exact X.same.2.2.1)
  obtain ⟨vm₁, cA, comp, -, fA, fC, hO, -, X', step⟩ := X.multianewarray2F hx hown hcl hov (hts _ w_ai) (g := F0 m pc A ((.int k :: .int n :: r).map (rvA z tb))) rfl (by rw [hbc]; exact hd) (n := n) (k := k) (rest := r.map (rvA z tb)) rfl hnn hkn (by omega) (by show k.toNatClampNeg * 4 ≤ _; omega) (by omega) rfl rfl (by omega) (by omega)
  have eA : cA = cy 4 := by
    have h4 : s.vm.findClass ("[" ++ (FieldType.array .int).toString) = some (cy 4) := (hK.2 4 _ rfl).2
    exact Option.some.inj (fA.symm.trans h4)
  have eC : comp = cy 0 := by
    have h4 : s.vm.findClass ("[" ++ FieldType.int.toString) = some (cy 0) := (hK.2 0 _ rfl).2
    exact Option.some.inj (fC.symm.trans h4)
  subst eA
  subst eC
  generalize hF : Jvm.Free.Multi.fill (T.setVm vm₁) (cy 4) (cy 0) n.toNatClampNeg k.toNatClampNeg (defaultValue .int) n.toNatClampNeg = F at X' step
  have hTh : (T.setVm vm₁).heap = H := hT
  obtain ⟨f1, f2, -, -⟩ := Jvm.Free.Multi.fill_facts (T.setVm vm₁) (cy 4) (cy 0) n.toNatClampNeg k.toNatClampNeg (defaultValue .int) n.toNatClampNeg
  rw [hF, hTh] at f1 f2
  have hold : ∀ x : Nat, x < H.size → F.heap[x]? = H[x]? := fun x hx => by
    have := Jvm.Free.Multi.fill_old (T.setVm vm₁) (cy 4) (cy 0) n.toNatClampNeg k.toNatClampNeg (defaultValue .int) (a := x) (by rw [hTh]; exact hx) n.toNatClampNeg
    rw [hF, hTh] at this
    exact this
  have hrow : ∀ j : Nat, j < n.toNatClampNeg → F.heap[H.size + 1 + j]? = some (arrV (cy 0) k.toNatClampNeg (fun _ => .int 0)) := fun j hj => by
    have := Jvm.Free.Multi.fill_inner (T.setVm vm₁) (cy 4) (cy 0) n.toNatClampNeg k.toNatClampNeg (defaultValue .int) n.toNatClampNeg j hj
    rw [hF, hTh] at this
    rw [this]
    exact congrArg some (arrV_new (cy 0) k.toNatClampNeg (.int 0))
  rw [vr_outer] at f2
  have hcel : ∀ i, i < h.1 → celA cy z (h.1 + (1 + n.toNatClampNeg), h.2.1 + (n.toNatClampNeg + n.toNatClampNeg * k.toNatClampNeg), mnS h.2.2.1 h.1 n.toNatClampNeg k.toNatClampNeg, mnR h.2.2.2.1 h.1 n.toNatClampNeg, mnV h.2.2.2.2 h.1 n.toNatClampNeg) i = celA cy z h i := fun i hi => by
    refine celA_off ?_ ?_ ?_
    · simp [mnS, show i ≠ h.1 by omega, show ¬ h.1 < i by omega]
    · funext j; simp [mnR, show i ≠ h.1 by omega, show ¬ h.1 < i by omega]
    · funext j; simp [mnV, show ¬ h.1 ≤ i by omega]
  have hWd : WdA D cy z (h.1 + (1 + n.toNatClampNeg), h.2.1 + (n.toNatClampNeg + n.toNatClampNeg * k.toNatClampNeg), mnS h.2.2.1 h.1 n.toNatClampNeg k.toNatClampNeg, mnR h.2.2.2.1 h.1 n.toNatClampNeg, mnV h.2.2.2.2 h.1 n.toNatClampNeg) F.heap := by
    intro i q hq
    obtain ⟨hi, rfl⟩ := wld_lt hq
    have hi : i < h.1 + (1 + n.toNatClampNeg) := hi
    rcases Nat.lt_trichotomy i h.1 with hlt | heq | hgt
    · rw [hcel i hlt]
      exact (hP i _ (wld_get hlt)).kept (hold _ (by show z + i < _; omega))
    · subst heq
      rw [celA_r (t := 2) (n := n.toNatClampNeg) (by simp [mnS])]
      show F.heap[z + h.1]? = some (vp_cell _ _)
      rw [← hHs, f2, vp_cell_q]
      refine congrArg some (congrArg (arrV (cy 4) n.toNatClampNeg) (funext fun j => ?_))
      by_cases hj : j < n.toNatClampNeg
      · have e9 : mnR h.2.2.2.1 h.1 n.toNatClampNeg h.1 j = some (h.1 + 1 + j) := by simp [mnR, hj]
        show va_rf (if j < n.toNatClampNeg then some (H.size + 1 + j) else none) = va_rf ((mnR h.2.2.2.1 h.1 n.toNatClampNeg h.1 j).map (fun a => z + a))
        rw [if_pos hj, e9, show H.size + 1 + j = z + (h.1 + 1 + j) by omega]
        rfl
      · simp [mnR, hj]
    · obtain ⟨j, rfl⟩ : ∃ j, i = h.1 + 1 + j := ⟨i - h.1 - 1, by omega⟩
      have hj : j < n.toNatClampNeg := by omega
      rw [celA_i (n := k.toNatClampNeg) (by simp [mnS, show h.1 + 1 + j ≠ h.1 by omega, show h.1 < h.1 + 1 + j by omega, show h.1 + 1 + j ≤ h.1 + n.toNatClampNeg by omega])]
      show F.heap[z + (h.1 + 1 + j)]? = some (vp_cell _ _)
      rw [show z + (h.1 + 1 + j) = H.size + 1 + j by omega, hrow j hj, vp_cell_i]
      refine congrArg some (congrArg (arrV (cy 0) k.toNatClampNeg) (funext fun i => ?_))
      simp [mnV, show h.1 ≤ h.1 + 1 + j by omega, show h.1 + 1 + j ≤ h.1 + n.toNatClampNeg by omega]
  have hS2 : va_S (fun q => z ≤ q) s.heap F.heap locs := ⟨by rw [f1]; have := hS.1; omega, fun x g1 g2 => (hold x (Nat.lt_of_lt_of_le g1 hS.1)).trans (hS.2.1 x g1 g2), hS.2.2⟩
  have hk9 := kk F.heap locs A hWd hS2 hL (by show n0 ≤ h.1 + (1 + n.toNatClampNeg); omega) (by show w0 ≤ h.2.1 + _; omega)
  have e1 : h.1 - n0 + 1 + n.toNatClampNeg = h.1 + (1 + n.toNatClampNeg) - n0 := by omega
  have e2 : h.2.1 - w0 + n.toNatClampNeg + n.toNatClampNeg * k.toNatClampNeg = h.2.1 + (n.toNatClampNeg + n.toNatClampNeg * k.toNatClampNeg) - w0 := by omega
  rw [e1, e2] at X'
  obtain ⟨t, a1, b1⟩ := hk9 F rfl X'
  refine ⟨t, step t ?_, b1⟩
  have e3 : T.heap.size = z + h.1 := by rw [hT]; exact hHs
  rw [e3]
  exact a1
end RulesC
end
section
/-! the function of instructions is sound -/
section BlocksA
variable {scr : ScA} {d : Nat} {M : MD} {D : va_G} {cy : Nat → ClassId} {tb : Nat → Nat} {z : Nat} {p : Program} {l : Launch} {e : Env} {R : Room} {s : State} {m : MethodId} {args : Array Value} {below : List Frame} {meth : Method} {c : Code} {n0 w0 mc ms : Nat} {Qf : State → Prop} {pc : Nat} {ls : LsA} {st : List Value} {h : Hp}
variable {ls' : LsA} {st' : List Value} {h' : Hp}
theorem op2_inv {f : Int32 → Int32 → Int32} (hs : op2 f ls st h = (true, ls', st', h')) : ∃ y x r, st = .int y :: .int x :: r ∧ ls' = ls ∧ st' = .int (f x y) :: r ∧ h' = h := by
  unfold op2 at hs
  split at hs
  · cases hs; exact ⟨_, _, _, rfl, rfl, rfl, rfl⟩
  · cases hs
theorem opJ_inv {f : Int64 → Int64 → Int64} (hs : opJ f ls st h = (true, ls', st', h')) : ∃ y x r, st = .long y :: .long x :: r ∧ ls' = ls ∧ st' = .long (f x y) :: r ∧ h' = h := by
  unfold opJ at hs
  split at hs
  · cases hs; exact ⟨_, _, _, rfl, rfl, rfl, rfl⟩
  · cases hs
theorem op2z_inv {f : Int32 → Int32 → Int32} (hs : op2z f ls st h = (true, ls', st', h')) : ∃ y x r, ¬ y = 0 ∧ st = .int y :: .int x :: r ∧ ls' = ls ∧ st' = .int (f x y) :: r ∧ h' = h := by
  unfold op2z at hs
  split at hs
  · rename_i y x r
    obtain ⟨h1, h2⟩ := Prod.mk.inj hs
    cases h2
    exact ⟨y, x, r, of_decide_eq_true h1, rfl, rfl, rfl, rfl⟩
  · cases hs
theorem opJz_inv {f : Int64 → Int64 → Int64} (hs : opJz f ls st h = (true, ls', st', h')) : ∃ y x r, ¬ y = 0 ∧ st = .long y :: .long x :: r ∧ ls' = ls ∧ st' = .long (f x y) :: r ∧ h' = h := by
  unfold opJz at hs
  split at hs
  · rename_i y x r
    obtain ⟨h1, h2⟩ := Prod.mk.inj hs
    cases h2
    exact ⟨y, x, r, of_decide_eq_true h1, rfl, rfl, rfl, rfl⟩
  · cases hs
theorem op1_inv {f : Int32 → Int32} (hs : op1 f ls st h = (true, ls', st', h')) : ∃ x r, st = .int x :: r ∧ ls' = ls ∧ st' = .int (f x) :: r ∧ h' = h := by
  unfold op1 at hs
  split at hs
  · cases hs; exact ⟨_, _, rfl, rfl, rfl, rfl⟩
  · cases hs
theorem ldI_inv {a : Nat} (hs : ldI a ls st h = (true, ls', st', h')) : ∃ x, gL ls a = some (.int x) ∧ ls' = ls ∧ st' = .int x :: st ∧ h' = h := by
  unfold ldI at hs
  split at hs
  · rename_i x hg
    cases hs; exact ⟨x, hg, rfl, rfl, rfl⟩
  · cases hs
theorem ldJ_inv {a : Nat} (hs : ldJ a ls st h = (true, ls', st', h')) : ∃ x, gL ls a = some (.long x) ∧ ls' = ls ∧ st' = .long x :: st ∧ h' = h := by
  unfold ldJ at hs
  split at hs
  · rename_i x hg
    cases hs; exact ⟨x, hg, rfl, rfl, rfl⟩
  · cases hs
theorem ldA_inv {a : Nat} (hs : ldA a ls st h = (true, ls', st', h')) : ∃ v, (∃ x, rvA z tb v = .ref x) ∧ gL ls a = some v ∧ ls' = ls ∧ st' = v :: st ∧ h' = h := by
  unfold ldA at hs
  split at hs
  · rename_i x hg
    cases hs; exact ⟨_, ⟨_, rfl⟩, hg, rfl, rfl, rfl⟩
  · rename_i x hg
    cases hs; exact ⟨_, ⟨_, rfl⟩, hg, rfl, rfl, rfl⟩
  · cases hs
theorem sdI_inv {a : Nat} (hs : sdI a ls st h = (true, ls', st', h')) : ∃ x r, st = .int x :: r ∧ ls' = stL ls a (.int x) ∧ st' = r ∧ h' = h := by
  unfold sdI at hs
  split at hs
  · cases hs; exact ⟨_, _, rfl, rfl, rfl, rfl⟩
  · cases hs
theorem sdJ_inv {a : Nat} (hs : sdJ a ls st h = (true, ls', st', h')) : ∃ x r, st = .long x :: r ∧ ls' = stL2 ls a (.long x) ∧ st' = r ∧ h' = h := by
  unfold sdJ at hs
  split at hs
  · cases hs; exact ⟨_, _, rfl, rfl, rfl, rfl⟩
  · cases hs
theorem sdA_inv {a : Nat} (hs : sdA a ls st h = (true, ls', st', h')) : ∃ v r, (∃ x, rvA z tb v = .ref x) ∧ st = v :: r ∧ ls' = stL ls a v ∧ st' = r ∧ h' = h := by
  unfold sdA at hs
  split at hs
  · cases hs; exact ⟨_, _, ⟨_, rfl⟩, rfl, rfl, rfl, rfl⟩
  · cases hs; exact ⟨_, _, ⟨_, rfl⟩, rfl, rfl, rfl, rfl⟩
  · cases hs
theorem incA_inv {a : Nat} {cv : Int32} (hs : incA a cv ls st h = (true, ls', st', h')) : ∃ x, gL ls a = some (.int x) ∧ ls' = stL ls a (.int (x + cv)) ∧ st' = st ∧ h' = h := by
  unfold incA at hs
  split at hs
  · rename_i x hg
    cases hs; exact ⟨x, hg, rfl, rfl, rfl⟩
  · cases hs
theorem dpA_inv  (hs : dpA ls st h = (true, ls', st', h')) : ∃ v r, v.category = 1 ∧ st = v :: r ∧ ls' = ls ∧ st' = v :: v :: r ∧ h' = h := by
  unfold dpA at hs
  split at hs
  · cases hs; exact ⟨_, _, rfl, rfl, rfl, rfl, rfl⟩
  · cases hs; exact ⟨_, _, rfl, rfl, rfl, rfl, rfl⟩
  · cases hs
theorem d2A_inv  (hs : d2A ls st h = (true, ls', st', h')) : ∃ v k r, st = .int v :: .ref k :: r ∧ ls' = ls ∧ st' = .int v :: .ref k :: .int v :: .ref k :: r ∧ h' = h := by
  unfold d2A at hs
  split at hs
  · cases hs; exact ⟨_, _, _, rfl, rfl, rfl, rfl⟩
  · cases hs
theorem i2lA_inv  (hs : i2lA ls st h = (true, ls', st', h')) : ∃ x r, st = .int x :: r ∧ ls' = ls ∧ st' = .long x.toInt64 :: r ∧ h' = h := by
  unfold i2lA at hs
  split at hs
  · cases hs; exact ⟨_, _, rfl, rfl, rfl, rfl⟩
  · cases hs
theorem lshA_inv  (hs : lshA ls st h = (true, ls', st', h')) : ∃ y x r, st = .int y :: .long x :: r ∧ ls' = ls ∧ st' = .long (x <<< (y.toInt64 &&& 63)) :: r ∧ h' = h := by
  unfold lshA at hs
  split at hs
  · cases hs; exact ⟨_, _, _, rfl, rfl, rfl, rfl⟩
  · cases hs
theorem lcA_inv  (hs : lcA ls st h = (true, ls', st', h')) : ∃ y x r, st = .long y :: .long x :: r ∧ ls' = ls ∧ st' = .int (lg_cmp x y) :: r ∧ h' = h := by
  unfold lcA at hs
  split at hs
  · cases hs; exact ⟨_, _, _, rfl, rfl, rfl, rfl⟩
  · cases hs
theorem getA_inv {a b o : Nat} (hs : getA a b o ls st h = (true, ls', st', h')) : ∃ k r, st = .ref k :: r ∧ kO h.1 h.2.2.1 k a = true ∧ ls' = ls ∧ h' = h ∧ ((o = 0 ∧ st' = .int (h.2.2.2.2 k b) :: r) ∨ (∃ t, o = t + 1 ∧ kR h.2.2.2.1 k b (k + t) = true ∧ st' = .ref (k + t) :: r)) := by
  unfold getA at hs
  rcases st with _ | ⟨v, r⟩
  · cases hs
  · cases v with
    | ref k =>
      cases o with
      | zero =>
        obtain ⟨e1, e2⟩ := Prod.mk.inj hs
        cases e2
        exact ⟨k, r, rfl, e1, rfl, rfl, Or.inl ⟨rfl, rfl⟩⟩
      | succ t =>
        obtain ⟨e1, e2⟩ := Prod.mk.inj hs
        cases e2
        obtain ⟨e3, e4⟩ := Bool.and_eq_true_iff.mp e1
        exact ⟨k, r, rfl, e3, rfl, rfl, Or.inr ⟨t, rfl, e4, rfl⟩⟩
    | _ => cases hs
theorem putA_inv {a b o : Nat} (hs : putA a b o ls st h = (true, ls', st', h')) : (∃ v k r, st = .int v :: .ref k :: r ∧ kO h.1 h.2.2.1 k a = true ∧ (o = 0 ∨ (o = 2 ∧ (v = 0 ∨ v = 1))) ∧ ls' = ls ∧ st' = r ∧ h' = (h.1, h.2.1, h.2.2.1, h.2.2.2.1, su h.2.2.2.2 k b v)) ∨ (∃ t k r, st = .ref t :: .ref k :: r ∧ kO h.1 h.2.2.1 k a = true ∧ o = 1 ∧ ls' = ls ∧ st' = r ∧ h' = (h.1, h.2.1, h.2.2.1, ru h.2.2.2.1 k b (some t), h.2.2.2.2)) := by
  unfold putA at hs
  rcases st with _ | ⟨v, r⟩
  · cases hs
  · rcases r with _ | ⟨u, r⟩
    · cases v <;> cases hs
    · cases v with
      | int v =>
        cases u with
        | ref k =>
          match o, hs with
          | 0, hs =>
            obtain ⟨e1, e2⟩ := Prod.mk.inj hs
            cases e2
            exact Or.inl ⟨v, k, _, rfl, e1, Or.inl rfl, rfl, rfl, rfl⟩
          | 1, hs => cases hs
          | 2, hs =>
            obtain ⟨e1, e2⟩ := Prod.mk.inj hs
            cases e2
            obtain ⟨e3, e4⟩ := Bool.and_eq_true_iff.mp e1
            exact Or.inl ⟨v, k, _, rfl, e3, Or.inr ⟨rfl, of_decide_eq_true e4⟩, rfl, rfl, rfl⟩
          | o + 3, hs => cases hs
        | _ => cases hs
      | ref t =>
        cases u with
        | ref k =>
          match o, hs with
          | 0, hs => cases hs
          | 1, hs =>
            obtain ⟨e1, e2⟩ := Prod.mk.inj hs
            cases e2
            exact Or.inr ⟨t, k, _, rfl, e1, rfl, rfl, rfl, rfl⟩
          | o + 2, hs => cases hs
        | _ => cases hs
      | _ => cases hs
theorem iaA_inv (hs : iaA scr ls st h = (true, ls', st', h')) : (∃ i k r, st = .int i :: .ref k :: r ∧ kA h.1 h.2.2.1 k 1 i = true ∧ ls' = ls ∧ st' = .int (h.2.2.2.2 k i.toNatClampNeg) :: r ∧ h' = h) ∨ (∃ i j r, st = .int i :: .retAddr j :: r ∧ j < 5 ∧ inB i (tbS scr j) = true ∧ ls' = ls ∧ st' = .int (tbV scr j i.toNatClampNeg) :: r ∧ h' = h) := by
  unfold iaA at hs
  rcases st with _ | ⟨v, _ | ⟨u, r⟩⟩
  · cases hs
  · cases v <;> cases hs
  · cases v with
    | int i =>
      cases u with
      | ref k =>
        obtain ⟨e1, e2⟩ := Prod.mk.inj hs
        cases e2
        exact Or.inl ⟨i, k, r, rfl, e1, rfl, rfl, rfl⟩
      | retAddr j =>
        obtain ⟨e1, e2⟩ := Prod.mk.inj hs
        cases e2
        obtain ⟨e3, e4⟩ := Bool.and_eq_true_iff.mp e1
        exact Or.inr ⟨i, j, r, rfl, of_decide_eq_true e3, e4, rfl, rfl, rfl⟩
      | _ => cases hs
    | _ => cases hs
theorem baA_inv (hs : baA ls st h = (true, ls', st', h')) : ∃ i k r, st = .int i :: .ref k :: r ∧ kA h.1 h.2.2.1 k 2 i = true ∧ ls' = ls ∧ st' = .int (h.2.2.2.2 k i.toNatClampNeg) :: r ∧ h' = h := by
  unfold baA at hs
  split at hs
  · obtain ⟨e1, e2⟩ := Prod.mk.inj hs
    cases e2
    exact ⟨_, _, _, rfl, e1, rfl, rfl, rfl⟩
  · cases hs
theorem isA_inv (hs : isA ls st h = (true, ls', st', h')) : ∃ x i k r, st = .int x :: .int i :: .ref k :: r ∧ kA h.1 h.2.2.1 k 1 i = true ∧ ls' = ls ∧ st' = r ∧ h' = (h.1, h.2.1, h.2.2.1, h.2.2.2.1, su h.2.2.2.2 k i.toNatClampNeg x) := by
  unfold isA at hs
  split at hs
  · obtain ⟨e1, e2⟩ := Prod.mk.inj hs
    cases e2
    exact ⟨_, _, _, _, rfl, e1, rfl, rfl, rfl⟩
  · cases hs
theorem bsA_inv (hs : bsA ls st h = (true, ls', st', h')) : ∃ x i k r, st = .int x :: .int i :: .ref k :: r ∧ kA h.1 h.2.2.1 k 2 i = true ∧ (x = 0 ∨ x = 1) ∧ ls' = ls ∧ st' = r ∧ h' = (h.1, h.2.1, h.2.2.1, h.2.2.2.1, su h.2.2.2.2 k i.toNatClampNeg x) := by
  unfold bsA at hs
  split at hs
  · obtain ⟨e1, e2⟩ := Prod.mk.inj hs
    cases e2
    obtain ⟨e3, e4⟩ := Bool.and_eq_true_iff.mp e1
    exact ⟨_, _, _, _, rfl, e3, of_decide_eq_true e4, rfl, rfl, rfl⟩
  · cases hs
theorem aaA_inv {a b o : Nat} (hs : aaA a b o ls st h = (true, ls', st', h')) : ∃ i k r, st = .int i :: .ref k :: r ∧ kA h.1 h.2.2.1 k (o + 3) i = true ∧ o < 3 ∧ kR h.2.2.2.1 k i.toNatClampNeg (k + a + b * i.toNatClampNeg) = true ∧ ls' = ls ∧ st' = .ref (k + a + b * i.toNatClampNeg) :: r ∧ h' = h := by
  unfold aaA at hs
  split at hs
  · obtain ⟨e1, e2⟩ := Prod.mk.inj hs
    cases e2
    obtain ⟨e3, e4⟩ := Bool.and_eq_true_iff.mp e1
    obtain ⟨e5, e6⟩ := Bool.and_eq_true_iff.mp e4
    exact ⟨_, _, _, rfl, e3, of_decide_eq_true e5, e6, rfl, rfl, rfl⟩
  · cases hs
theorem asA_inv (hs : asA ls st h = (true, ls', st', h')) : ∃ t i k r, st = .ref t :: .int i :: .ref k :: r ∧ ((kA h.1 h.2.2.1 k 3 i = true ∧ kO h.1 h.2.2.1 t 0 = true) ∨ (kA h.1 h.2.2.1 k 4 i = true ∧ kO h.1 h.2.2.1 t 4 = true)) ∧ ls' = ls ∧ st' = r ∧ h' = (h.1, h.2.1, h.2.2.1, ru h.2.2.2.1 k i.toNatClampNeg (some t), h.2.2.2.2) := by
  unfold asA at hs
  split at hs
  · obtain ⟨e1, e2⟩ := Prod.mk.inj hs
    cases e2
    rw [Bool.or_eq_true, Bool.and_eq_true, Bool.and_eq_true] at e1
    exact ⟨_, _, _, _, rfl, e1, rfl, rfl, rfl⟩
  · cases hs
theorem alA_inv (hs : alA scr ls st h = (true, ls', st', h')) : (∃ k r, st = .ref k :: r ∧ (k < h.1 ∧ 1 ≤ (h.2.2.1 k).1 ∧ (h.2.2.1 k).1 ≤ 5) ∧ ls' = ls ∧ st' = .int (Int32.ofNat (h.2.2.1 k).2) :: r ∧ h' = h) ∨ (∃ j r, st = .retAddr j :: r ∧ j < 5 ∧ ls' = ls ∧ st' = .int (Int32.ofNat (tbS scr j)) :: r ∧ h' = h) := by
  unfold alA at hs
  rcases st with _ | ⟨v, r⟩
  · cases hs
  · cases v with
    | ref k =>
      obtain ⟨e1, e2⟩ := Prod.mk.inj hs
      cases e2
      exact Or.inl ⟨k, r, rfl, of_decide_eq_true e1, rfl, rfl, rfl⟩
    | retAddr j =>
      obtain ⟨e1, e2⟩ := Prod.mk.inj hs
      cases e2
      exact Or.inr ⟨j, r, rfl, of_decide_eq_true e1, rfl, rfl, rfl⟩
    | _ => cases hs
theorem naA_inv {N1 W1 a : Nat} (hs : naA N1 W1 a ls st h = (true, ls', st', h')) : ∃ n r, st = .int n :: r ∧ (¬ n < 0 ∧ n.toNatClampNeg ≤ 1000 ∧ h.1 + 1 ≤ N1 ∧ h.2.1 + n.toNatClampNeg ≤ W1) ∧ ls' = ls ∧ st' = .ref h.1 :: r ∧ h' = (h.1 + 1, h.2.1 + n.toNatClampNeg, va_up h.2.2.1 h.1 (a + 1, n.toNatClampNeg), rr h.2.2.2.1 h.1 (fun _ => none), sr h.2.2.2.2 h.1 (fun _ => 0)) := by
  unfold naA at hs
  split at hs
  · obtain ⟨e1, e2⟩ := Prod.mk.inj hs
    cases e2
    exact ⟨_, _, rfl, of_decide_eq_true e1, rfl, rfl, rfl⟩
  · cases hs
theorem mnA_inv {N1 W1 : Nat} (hs : mnA N1 W1 ls st h = (true, ls', st', h')) : ∃ k n r, st = .int k :: .int n :: r ∧ (¬ n < 0 ∧ ¬ k < 0 ∧ n.toNatClampNeg ≤ 1000 ∧ k.toNatClampNeg ≤ 1000 ∧ h.1 + (1 + n.toNatClampNeg) ≤ N1 ∧ h.2.1 + (n.toNatClampNeg + n.toNatClampNeg * k.toNatClampNeg) ≤ W1) ∧ ls' = ls ∧ st' = .ref h.1 :: r ∧ h' = (h.1 + (1 + n.toNatClampNeg), h.2.1 + (n.toNatClampNeg + n.toNatClampNeg * k.toNatClampNeg), mnS h.2.2.1 h.1 n.toNatClampNeg k.toNatClampNeg, mnR h.2.2.2.1 h.1 n.toNatClampNeg, mnV h.2.2.2.2 h.1 n.toNatClampNeg) := by
  unfold mnA at hs
  split at hs
  · obtain ⟨e1, e2⟩ := Prod.mk.inj hs
    cases e2
    exact ⟨_, _, _, rfl, of_decide_eq_true e1, rfl, rfl, rfl⟩
  · cases hs
theorem oiA_inv (hs : oiA ls st h = (true, ls', st', h')) : ∃ k r, st = .ref k :: r ∧ (r.map fun v => v.category).sum ≤ 8 ∧ ls' = ls ∧ st' = r ∧ h' = h := by
  unfold oiA at hs
  split at hs
  · obtain ⟨e1, e2⟩ := Prod.mk.inj hs
    cases e2
    exact ⟨_, _, rfl, of_decide_eq_true e1, rfl, rfl, rfl⟩
  · cases hs
set_option maxHeartbeats 4000000 in
theorem stp_ok (E : EnA scr d M D cy tb z p R s m args meth c n0 mc ms) {q : AI} (hc : ck1 d M pc q = true) (hs : stp scr (n0 + mc) (w0 + ms) q ls st h = (true, ls', st', h')) (kk : GoA M D cy tb z p l e R s m args below meth c n0 w0 mc ms Qf (nxP pc q) ls' st' h') : GoA M D cy tb z p l e R s m args below meth c n0 w0 mc ms Qf pc ls st h := by
  obtain ⟨i, n, a, b, o, t, cv, dv⟩ := q
  unfold ck1 at hc
  rw [Bool.and_eq_true, decide_eq_true_eq] at hc
  obtain ⟨hd, hx⟩ := hc
  have hE := E
  obtain ⟨hex, hbc, hml, hown, hts, -⟩ := hE
  cases i with
  | iconst k =>
    obtain ⟨rfl, rfl⟩ := of_decide_eq_true hx
    cases hs
    exact r_const rfl (fun H locs cells slots A rest k9 => lv_iconst hex hbc hd rfl k9) kk
  | bipush k =>
    obtain ⟨rfl, rfl⟩ := of_decide_eq_true hx
    cases hs
    exact r_const rfl (fun H locs cells slots A rest k9 => lv_bipush hex hbc hd rfl k9) kk
  | sipush k =>
    obtain ⟨rfl, rfl⟩ := of_decide_eq_true hx
    cases hs
    exact r_const rfl (fun H locs cells slots A rest k9 => lv_sipush hex hbc hd rfl k9) kk
  | lconst k =>
    obtain ⟨rfl, rfl⟩ := of_decide_eq_true hx
    cases hs
    exact r_const rfl (fun H locs cells slots A rest k9 => lv_lconst hex hbc hd rfl k9) kk
  | ldc k =>
    obtain ⟨h1, h2⟩ := Bool.and_eq_true_iff.mp hx
    obtain rfl := of_decide_eq_true h1
    cases hs
    exact r_const rfl (fun H locs cells slots A rest k9 => lv_ldc hex hbc hown (hts _ (inT_mem h2)) hd k9) kk
  | ldc_w k =>
    obtain ⟨h1, h2⟩ := Bool.and_eq_true_iff.mp hx
    obtain rfl := of_decide_eq_true h1
    cases hs
    exact r_const rfl (fun H locs cells slots A rest k9 => lv_ldcw hex hbc hown (hts _ (inT_mem h2)) hd k9) kk
  | ldc2_w k =>
    obtain ⟨h1, h2⟩ := Bool.and_eq_true_iff.mp hx
    obtain rfl := of_decide_eq_true h1
    cases hs
    exact r_const rfl (fun H locs cells slots A rest k9 => lv_ldc2 hex hbc hown (hts _ (inT_mem h2)) hd k9) kk
  | iload_n k =>
    obtain ⟨rfl, rfl⟩ := of_decide_eq_true hx
    obtain ⟨x, hg, rfl, rfl, rfl⟩ := ldI_inv hs
    exact r_load hg (fun H locs cells slots A rest g9 k9 => lv_iload_n hex hbc hd rfl g9 k9) kk
  | iload k =>
    obtain ⟨rfl, rfl⟩ := of_decide_eq_true hx
    obtain ⟨x, hg, rfl, rfl, rfl⟩ := ldI_inv hs
    exact r_load hg (fun H locs cells slots A rest g9 k9 => lv_iload hex hbc hd g9 k9) kk
  | lload_n k =>
    obtain ⟨rfl, rfl⟩ := of_decide_eq_true hx
    obtain ⟨x, hg, rfl, rfl, rfl⟩ := ldJ_inv hs
    exact r_load hg (fun H locs cells slots A rest g9 k9 => lv_lload_n hex hbc hd rfl g9 k9) kk
  | lload k =>
    obtain ⟨rfl, rfl⟩ := of_decide_eq_true hx
    obtain ⟨x, hg, rfl, rfl, rfl⟩ := ldJ_inv hs
    exact r_load hg (fun H locs cells slots A rest g9 k9 => lv_lload hex hbc hd g9 k9) kk
  | aload_n k =>
    obtain ⟨rfl, rfl⟩ := of_decide_eq_true hx
    obtain ⟨v, ⟨y, hv⟩, hg, rfl, rfl, rfl⟩ := ldA_inv (z := z) (tb := tb) hs
    exact r_load hg (fun H locs cells slots A rest g9 k9 => by rw [hv] at g9 k9; exact lv_aload_n hex hbc hd rfl g9 k9) kk
  | aload k =>
    obtain ⟨rfl, rfl⟩ := of_decide_eq_true hx
    obtain ⟨v, ⟨y, hv⟩, hg, rfl, rfl, rfl⟩ := ldA_inv (z := z) (tb := tb) hs
    exact r_load hg (fun H locs cells slots A rest g9 k9 => by rw [hv] at g9 k9; exact lv_aload hex hbc hd g9 k9) kk
  | istore_n k =>
    obtain ⟨rfl, rfl, hlt⟩ := of_decide_eq_true hx
    obtain ⟨x, r, rfl, rfl, rfl, rfl⟩ := sdI_inv hs
    exact r_store (v := .int x) (fun H locs cells slots A rest hL k9 => lv_istore_n hex hbc hd rfl (lsOK_has hL) hlt rfl (fun A' hA' => k9 A' (lsOK_st (v := .int x) hA'))) kk
  | istore k =>
    obtain ⟨rfl, rfl, hlt⟩ := of_decide_eq_true hx
    obtain ⟨x, r, rfl, rfl, rfl, rfl⟩ := sdI_inv hs
    exact r_store (v := .int x) (fun H locs cells slots A rest hL k9 => lv_istore hex hbc hd (lsOK_has hL) hlt rfl (fun A' hA' => k9 A' (lsOK_st (v := .int x) hA'))) kk
  | lstore_n k =>
    obtain ⟨rfl, rfl, hlt⟩ := of_decide_eq_true hx
    obtain ⟨x, r, rfl, rfl, rfl, rfl⟩ := sdJ_inv hs
    exact r_store (v := .long x) (fun H locs cells slots A rest hL k9 => lv_lstore_n hex hbc hd rfl (lsOK_has hL) hlt rfl (fun A' hA' => k9 A' (lsOK_st2 (v := .long x) hA'))) kk
  | lstore k =>
    obtain ⟨rfl, rfl, hlt⟩ := of_decide_eq_true hx
    obtain ⟨x, r, rfl, rfl, rfl, rfl⟩ := sdJ_inv hs
    exact r_store (v := .long x) (fun H locs cells slots A rest hL k9 => lv_lstore hex hbc hd (lsOK_has hL) hlt rfl (fun A' hA' => k9 A' (lsOK_st2 (v := .long x) hA'))) kk
  | astore_n k =>
    obtain ⟨rfl, rfl, hlt⟩ := of_decide_eq_true hx
    obtain ⟨v, r, ⟨y, hv⟩, rfl, rfl, rfl, rfl⟩ := sdA_inv (z := z) (tb := tb) hs
    exact r_store (v := v) (fun H locs cells slots A rest hL k9 => by rw [hv]; exact lv_astore_n hex hbc hd rfl (lsOK_has hL) hlt rfl (fun A' hA' => k9 A' (lsOK_st (v := v) (by rw [hv]; exact hA')))) kk
  | astore k =>
    obtain ⟨rfl, rfl, hlt⟩ := of_decide_eq_true hx
    obtain ⟨v, r, ⟨y, hv⟩, rfl, rfl, rfl, rfl⟩ := sdA_inv (z := z) (tb := tb) hs
    exact r_store (v := v) (fun H locs cells slots A rest hL k9 => by rw [hv]; exact lv_astore hex hbc hd (lsOK_has hL) hlt rfl (fun A' hA' => k9 A' (lsOK_st (v := v) (by rw [hv]; exact hA')))) kk
  | iinc k x =>
    obtain ⟨rfl, rfl, rfl, hlt⟩ := of_decide_eq_true hx
    obtain ⟨y, hg, rfl, rfl, rfl⟩ := incA_inv hs
    intro H locs A hP hS hL hn hw
    obtain ⟨k9, hk9⟩ := List.getElem?_of_mem (lsP_mem (z := z) (tb := tb) (ls := ls) (q := (k, .int y)) |>.mpr ⟨.int y, hg, rfl⟩)
    exact lv_iinc hex hbc hd (lsOK_has hL) hk9 rfl hlt rfl (fun A' hA' => kk H locs A' hP hS (lsOK_st (v := .int (y + Int32.ofInt x)) hA') hn hw)
  | iadd =>
    obtain rfl := of_decide_eq_true hx
    obtain ⟨y, x, r, rfl, rfl, rfl, rfl⟩ := op2_inv hs
    exact r_pure (n := 1) kk (fun H locs cells slots A k9 => lv_iadd hex hbc hd k9)
  | isub =>
    obtain rfl := of_decide_eq_true hx
    obtain ⟨y, x, r, rfl, rfl, rfl, rfl⟩ := op2_inv hs
    exact r_pure (n := 1) kk (fun H locs cells slots A k9 => lv_isub hex hbc hd k9)
  | imul =>
    obtain rfl := of_decide_eq_true hx
    obtain ⟨y, x, r, rfl, rfl, rfl, rfl⟩ := op2_inv hs
    exact r_pure (n := 1) kk (fun H locs cells slots A k9 => lv_imul hex hbc hd k9)
  | iand =>
    obtain rfl := of_decide_eq_true hx
    obtain ⟨y, x, r, rfl, rfl, rfl, rfl⟩ := op2_inv hs
    exact r_pure (n := 1) kk (fun H locs cells slots A k9 => lv_iand hex hbc hd k9)
  | ior =>
    obtain rfl := of_decide_eq_true hx
    obtain ⟨y, x, r, rfl, rfl, rfl, rfl⟩ := op2_inv hs
    exact r_pure (n := 1) kk (fun H locs cells slots A k9 => lv_ior hex hbc hd k9)
  | ixor =>
    obtain rfl := of_decide_eq_true hx
    obtain ⟨y, x, r, rfl, rfl, rfl, rfl⟩ := op2_inv hs
    exact r_pure (n := 1) kk (fun H locs cells slots A k9 => lv_ixor hex hbc hd k9)
  | ishl =>
    obtain rfl := of_decide_eq_true hx
    obtain ⟨y, x, r, rfl, rfl, rfl, rfl⟩ := op2_inv hs
    exact r_pure (n := 1) kk (fun H locs cells slots A k9 => lv_ishl hex hbc hd k9)
  | ishr =>
    obtain rfl := of_decide_eq_true hx
    obtain ⟨y, x, r, rfl, rfl, rfl, rfl⟩ := op2_inv hs
    exact r_pure (n := 1) kk (fun H locs cells slots A k9 => lv_ishr hex hbc hd k9)
  | iushr =>
    obtain rfl := of_decide_eq_true hx
    obtain ⟨y, x, r, rfl, rfl, rfl, rfl⟩ := op2_inv hs
    exact r_pure (n := 1) kk (fun H locs cells slots A k9 => lv_iushr hex hbc hd rfl k9)
  | idiv =>
    obtain rfl := of_decide_eq_true hx
    obtain ⟨y, x, r, hz, rfl, rfl, rfl, rfl⟩ := op2z_inv hs
    exact r_pure (n := 1) kk (fun H locs cells slots A k9 => lv_idiv hex hbc hd hz k9)
  | irem =>
    obtain rfl := of_decide_eq_true hx
    obtain ⟨y, x, r, hz, rfl, rfl, rfl, rfl⟩ := op2z_inv hs
    exact r_pure (n := 1) kk (fun H locs cells slots A k9 => lv_irem hex hbc hd hz k9)
  | ladd =>
    obtain rfl := of_decide_eq_true hx
    obtain ⟨y, x, r, rfl, rfl, rfl, rfl⟩ := opJ_inv hs
    exact r_pure (n := 1) kk (fun H locs cells slots A k9 => lv_ladd hex hbc hd k9)
  | lsub =>
    obtain rfl := of_decide_eq_true hx
    obtain ⟨y, x, r, rfl, rfl, rfl, rfl⟩ := opJ_inv hs
    exact r_pure (n := 1) kk (fun H locs cells slots A k9 => lv_lsub hex hbc hd k9)
  | lmul =>
    obtain rfl := of_decide_eq_true hx
    obtain ⟨y, x, r, rfl, rfl, rfl, rfl⟩ := opJ_inv hs
    exact r_pure (n := 1) kk (fun H locs cells slots A k9 => lv_lmul hex hbc hd k9)
  | ldiv =>
    obtain rfl := of_decide_eq_true hx
    obtain ⟨y, x, r, hz, rfl, rfl, rfl, rfl⟩ := opJz_inv hs
    exact r_pure (n := 1) kk (fun H locs cells slots A k9 => lv_ldiv hex hbc hd hz k9)
  | lrem =>
    obtain rfl := of_decide_eq_true hx
    obtain ⟨y, x, r, hz, rfl, rfl, rfl, rfl⟩ := opJz_inv hs
    exact r_pure (n := 1) kk (fun H locs cells slots A k9 => lv_lrem hex hbc hd hz k9)
  | i2b =>
    obtain rfl := of_decide_eq_true hx
    obtain ⟨x, r, rfl, rfl, rfl, rfl⟩ := op1_inv hs
    exact r_pure (n := 1) kk (fun H locs cells slots A k9 => lv_i2b hex hbc hd rfl k9)
  | i2s =>
    obtain rfl := of_decide_eq_true hx
    obtain ⟨x, r, rfl, rfl, rfl, rfl⟩ := op1_inv hs
    exact r_pure (n := 1) kk (fun H locs cells slots A k9 => lv_i2s hex hbc hd rfl k9)
  | i2l =>
    obtain rfl := of_decide_eq_true hx
    obtain ⟨x, r, rfl, rfl, rfl, rfl⟩ := i2lA_inv hs
    exact r_pure (n := 1) kk (fun H locs cells slots A k9 => lv_i2l hex hbc hd rfl k9)
  | lshl =>
    obtain rfl := of_decide_eq_true hx
    obtain ⟨y, x, r, rfl, rfl, rfl, rfl⟩ := lshA_inv hs
    exact r_pure (n := 1) kk (fun H locs cells slots A k9 => lv_lshl hex hbc hd rfl k9)
  | lcmp =>
    obtain rfl := of_decide_eq_true hx
    obtain ⟨y, x, r, rfl, rfl, rfl, rfl⟩ := lcA_inv hs
    exact r_pure (n := 1) kk (fun H locs cells slots A k9 => W.lcmp hex hbc hd k9)
  | dup =>
    obtain rfl := of_decide_eq_true hx
    obtain ⟨v, r, hv, rfl, rfl, rfl, rfl⟩ := dpA_inv hs
    exact r_pure (n := 1) kk (fun H locs cells slots A k9 => lv_dup hex hbc hd (by rw [rvA_cat]; exact hv) k9)
  | dup2 =>
    obtain rfl := of_decide_eq_true hx
    obtain ⟨v, k, r, rfl, rfl, rfl, rfl⟩ := d2A_inv hs
    exact r_pure (n := 1) kk (fun H locs cells slots A k9 => lv_dup2_11 hex hbc hd rfl rfl k9)
  | goto x =>
    obtain ⟨rfl, ht⟩ := of_decide_eq_true hx
    cases hs
    intro H locs A hP hS hL hn hw
    exact lv_goto hex hbc hd ht (kk H locs A hP hS hL hn hw)
  | getfield k =>
    obtain ⟨h12, h3⟩ := Bool.and_eq_true_iff.mp hx
    obtain ⟨h1, h2⟩ := Bool.and_eq_true_iff.mp h12
    obtain ⟨rfl, ha, hb, hrf⟩ := of_decide_eq_true h1
    obtain ⟨k9, r, rfl, hO, rfl, rfl, ⟨rfl, rfl⟩ | ⟨t9, rfl, hR, rfl⟩⟩ := getA_inv hs
    · have hnr : ¬ isRf a b = true := fun q => (hrf.mp q) rfl
      exact r_getI E hO ha hb (inL ha) (inT_mem h2) (of_decide_eq_true h3) hd (by unfold flV; rw [if_neg hnr]; rfl) kk
    · have hr : isRf a b = true := hrf.mpr (Nat.succ_ne_zero _)
      exact r_getI E hO ha hb (inL ha) (inT_mem h2) (of_decide_eq_true h3) hd (v := .ref (k9 + t9)) (by unfold flV; rw [if_pos hr]; exact va_rf_ref (kR_iff.mp hR)) kk
  | putfield k =>
    obtain ⟨h12, h3⟩ := Bool.and_eq_true_iff.mp hx
    obtain ⟨h1, h2⟩ := Bool.and_eq_true_iff.mp h12
    obtain ⟨rfl, ha, hb, hty, hfin⟩ := of_decide_eq_true h1
    have hnrI : tyF a b = .int → ¬ isRf a b = true := fun q => by unfold isRf; rw [q]; exact fun z => by cases z
    have hnrB : tyF a b = .boolean → ¬ isRf a b = true := fun q => by unfold isRf; rw [q]; exact fun z => by cases z
    have flI : ∀ (v : Int32) (k9 : Nat), ¬ isRf a b = true → flV z (h.1, h.2.1, h.2.2.1, h.2.2.2.1, su h.2.2.2.2 k9 b v) k9 a b = rvA z tb (.int v) := fun v k9 hn => by
      unfold flV
      rw [if_neg hn]
      exact congrArg Value.int (su_eq _ _ _ _)
    have flJ : ∀ (v : Int32) (k9 j : Nat), j ≠ b → flV z (h.1, h.2.1, h.2.2.1, h.2.2.2.1, su h.2.2.2.2 k9 b v) k9 a j = flV z h k9 a j := fun v k9 j hj => by
      have e9 : su h.2.2.2.2 k9 b v k9 j = h.2.2.2.2 k9 j := su_ne _ _ _ _ (Or.inr hj)
      show (if isRf a j = true then va_rf ((h.2.2.2.1 k9 j).map (fun a => z + a)) else .int (su h.2.2.2.2 k9 b v k9 j)) = _
      rw [e9]
      rfl
    rcases putA_inv hs with ⟨v, k9, r, rfl, hO, ho, rfl, rfl, rfl⟩ | ⟨t9, k9, r, rfl, hO, rfl, rfl, rfl, rfl⟩
    · have hcase : tyF a b = .int ∨ (tyF a b = .boolean ∧ (v = 0 ∨ v = 1)) := by
        rcases hty with ⟨q, q2⟩ | ⟨q, q2⟩ | ⟨q, q2⟩
        · exact Or.inl q
        · rcases ho with ho | ⟨ho, h01⟩
          · omega
          · exact Or.inr ⟨q, h01⟩
        · rcases ho with ho | ⟨ho, h01⟩ <;> omega
      rcases hcase with ht | ⟨ht, h01⟩
      · exact r_put (h' := (h.1, h.2.1, h.2.2.1, h.2.2.2.1, su h.2.2.2.2 k9 b v)) E hO ha hb (inL ha) (inT_mem h2) (of_decide_eq_true h3) hd hfin (v := .int v) (by rw [ht]; rfl) (by rw [ht]; rfl) rfl rfl rfl (fun i hi => ⟨rfl, su_off _ _ _ _ hi⟩) (flI v k9 (hnrI ht)) (flJ v k9) kk
      · exact r_put (h' := (h.1, h.2.1, h.2.2.1, h.2.2.2.1, su h.2.2.2.2 k9 b v)) E hO ha hb (inL ha) (inT_mem h2) (of_decide_eq_true h3) hd hfin (v := .int v) (by rw [ht]; rcases h01 with rfl | rfl <;> rfl) (by rw [ht]; rcases h01 with rfl | rfl <;> rfl) rfl rfl rfl (fun i hi => ⟨rfl, su_off _ _ _ _ hi⟩) (flI v k9 (hnrB ht)) (flJ v k9) kk
    · have hr : isRf a b = true := by
        rcases hty with ⟨q, q2⟩ | ⟨q, q2⟩ | ⟨q, q2⟩
        · omega
        · omega
        · exact q
      have hgen : ∀ (ty : FieldType) (x : Nat), ty.isReference = true → narrow ty (.ref x) = .ref x ∧ fits ty (.ref x) = true := fun ty x q => by cases ty <;> first | exact ⟨rfl, rfl⟩ | cases q
      refine r_put (h' := (h.1, h.2.1, h.2.2.1, ru h.2.2.2.1 k9 b (some t9), h.2.2.2.2)) E hO ha hb (inL ha) (inT_mem h2) (of_decide_eq_true h3) hd hfin (v := .ref t9) (hgen _ _ hr).1 (hgen _ _ hr).2 rfl rfl rfl (fun i hi => ⟨ru_off _ _ _ _ hi, rfl⟩) ?_ (fun j hj => ?_) kk
      · unfold flV
        rw [if_pos hr]
        exact va_rf_ref (by simp [ru])
      · have e9 : ru h.2.2.2.1 k9 b (some t9) k9 j = h.2.2.2.1 k9 j := by simp [ru, hj]
        show (if isRf a j = true then va_rf ((ru h.2.2.2.1 k9 b (some t9) k9 j).map (fun a => z + a)) else .int (h.2.2.2.2 k9 j)) = _
        rw [e9]
        rfl
  | getstatic k =>
    obtain ⟨h1, h2⟩ := Bool.and_eq_true_iff.mp hx
    obtain ⟨rfl, ha⟩ := of_decide_eq_true h1
    obtain ⟨e1, e2⟩ := Prod.mk.inj hs
    cases e2
    refine r_gets E ha ?_ hd kk
    rw [Bool.or_eq_true] at h2
    rcases h2 with h2 | h2
    · exact Or.inl (inT_mem h2)
    · exact Or.inr (List.mem_filter.mpr ⟨List.mem_of_getElem? (of_decide_eq_true h2), rfl⟩)
  | iaload =>
    obtain rfl := of_decide_eq_true hx
    rcases iaA_inv hs with ⟨i, k, r, rfl, hO, rfl, rfl, rfl⟩ | ⟨i, j, r, rfl, hj, hi, rfl, rfl, rfl⟩
    · exact r_iald E hO hd kk
    · exact r_tbl E hj hi hd kk
  | baload =>
    obtain rfl := of_decide_eq_true hx
    obtain ⟨i, k, r, rfl, hO, rfl, rfl, rfl⟩ := baA_inv hs
    exact r_zald E hO hd kk
  | iastore =>
    obtain rfl := of_decide_eq_true hx
    obtain ⟨x, i, k, r, rfl, hO, rfl, rfl, rfl⟩ := isA_inv hs
    exact r_iast E hO hd kk
  | bastore =>
    obtain rfl := of_decide_eq_true hx
    obtain ⟨x, i, k, r, rfl, hO, h01, rfl, rfl, rfl⟩ := bsA_inv hs
    exact r_zast E hO h01 hd kk
  | aaload =>
    obtain rfl := of_decide_eq_true hx
    obtain ⟨i, k, r, rfl, hO, ho, hR, rfl, rfl, rfl⟩ := aaA_inv hs
    exact r_aald E hO ho hR hd kk
  | aastore =>
    obtain rfl := of_decide_eq_true hx
    obtain ⟨t, i, k, r, rfl, ⟨hO, hT⟩ | ⟨hO, hT⟩, rfl, rfl, rfl⟩ := asA_inv hs
    · exact r_aast (o := 0) E hO hT (by decide) rfl hd kk
    · exact r_aast (o := 1) E hO hT (by decide) rfl hd kk
  | arraylength =>
    obtain rfl := of_decide_eq_true hx
    rcases alA_inv hs with ⟨k, r, rfl, ⟨g1, g2, g3⟩, rfl, rfl, rfl⟩ | ⟨j, r, rfl, hj, rfl, rfl, rfl⟩
    · exact r_alen E g1 g2 g3 hd kk
    · exact r_tlen E hj hd kk
  | new k =>
    obtain ⟨h123, h4⟩ := Bool.and_eq_true_iff.mp hx
    obtain ⟨h12, h3⟩ := Bool.and_eq_true_iff.mp h123
    obtain ⟨h1, h2⟩ := Bool.and_eq_true_iff.mp h12
    obtain ⟨rfl, ha⟩ := of_decide_eq_true h1
    have hs : nwA (n0 + mc) (w0 + ms) a ls st h = (true, ls', st', h') := hs
    unfold nwA at hs
    obtain ⟨e1, e2⟩ := Prod.mk.inj hs
    cases e2
    obtain ⟨b1, b2⟩ := of_decide_eq_true e1
    exact r_new E ha (inL ha) (inT_mem h2) (inT_mem h3) (inT_mem h4) b1 b2 hd kk
  | newarray ty =>
    obtain ⟨h1, h2⟩ := Bool.and_eq_true_iff.mp hx
    obtain ⟨rfl, hat⟩ := of_decide_eq_true h1
    obtain ⟨n, r, rfl, ⟨g1, g2, g3, g4⟩, rfl, rfl, rfl⟩ := naA_inv hs
    exact r_newa E hat (inT_mem h2) g1 g2 g3 g4 hd kk
  | anewarray k =>
    obtain ⟨h1, h2⟩ := Bool.and_eq_true_iff.mp hx
    obtain rfl := of_decide_eq_true h1
    obtain ⟨n, r, rfl, ⟨g1, g2, g3, g4⟩, rfl, rfl, rfl⟩ := naA_inv hs
    rw [Bool.or_eq_true, Bool.and_eq_true, Bool.and_eq_true] at h2
    rcases h2 with ⟨h2, h3⟩ | ⟨h2, h3⟩
    · obtain rfl := of_decide_eq_true h2
      exact r_newq (C := "HumanPyramid$Best") E rfl ⟨0, rfl⟩ E.2.2.2.2.2.1.2.2.2.2.2.1 (inT_mem h3) g1 g2 g3 g4 hd kk
    · obtain rfl := of_decide_eq_true h2
      exact r_newq (C := "HumanPyramid$Sheet") E rfl ⟨1, rfl⟩ E.2.2.2.2.2.1.2.2.2.2.2.2.1 (inT_mem h3) g1 g2 g3 g4 hd kk
  | multianewarray k x =>
    obtain ⟨h12, h3⟩ := Bool.and_eq_true_iff.mp hx
    obtain ⟨h1, h2⟩ := Bool.and_eq_true_iff.mp h12
    obtain ⟨rfl, rfl⟩ := of_decide_eq_true h1
    obtain ⟨k9, n, r, rfl, ⟨g1, g2, g3, g4, g5, g6⟩, rfl, rfl, rfl⟩ := mnA_inv hs
    exact r_mna E (inT_mem h2) g1 g2 g3 g4 g5 g6 hd kk
  | invokespecial k =>
    obtain ⟨h1, h2⟩ := Bool.and_eq_true_iff.mp hx
    obtain ⟨rfl, hd1⟩ := of_decide_eq_true h1
    obtain ⟨k9, r, rfl, hr, rfl, rfl, rfl⟩ := oiA_inv hs
    exact r_objInit E (inT_mem h2) w_oi w_oc hd1 hr hd kk
  | invokestatic k =>
    obtain ⟨h1, h2⟩ := Bool.and_eq_true_iff.mp hx
    obtain ⟨rfl, hd1⟩ := of_decide_eq_true h1
    rw [Bool.or_eq_true, Bool.or_eq_true, Bool.and_eq_true, Bool.and_eq_true, Bool.and_eq_true] at h2
    rcases h2 with (⟨h2, h3⟩ | ⟨h2, h3⟩) | ⟨h2, h3⟩
    · obtain rfl := of_decide_eq_true h2
      have hs : isS (n0 + mc) (w0 + ms) 0 ls st h = (true, ls', st', h') := hs
      simp only [isS] at hs
      split at hs
      · obtain ⟨e1, e2⟩ := Prod.mk.inj hs
        cases e2
        obtain ⟨b1, b2, b3⟩ := of_decide_eq_true e1
        exact r_mmax E (inT_mem h3) w_xs w_xi w_xc hd1 b1 (by omega) (by omega) hd kk
      · cases hs
    · obtain rfl := of_decide_eq_true h2
      have hs : isS (n0 + mc) (w0 + ms) 1 ls st h = (true, ls', st', h') := hs
      simp only [isS] at hs
      split at hs
      · obtain ⟨e1, e2⟩ := Prod.mk.inj hs
        cases e2
        obtain ⟨b1, b2, b3⟩ := of_decide_eq_true e1
        exact r_mmin E (inT_mem h3) w_ns w_xi w_nc hd1 b1 (by omega) (by omega) hd kk
      · cases hs
    · obtain rfl := of_decide_eq_true h2
      have hs : isS (n0 + mc) (w0 + ms) 2 ls st h = (true, ls', st', h') := hs
      simp only [isS] at hs
      split at hs
      · obtain ⟨e1, e2⟩ := Prod.mk.inj hs
        cases e2
        obtain ⟨e3, e4⟩ := Bool.and_eq_true_iff.mp e1
        obtain ⟨e5, e6⟩ := Bool.and_eq_true_iff.mp e3
        exact r_copy E (inT_mem h3) w_yn w_ys w_yi hd1 (of_decide_eq_true e5) (of_decide_eq_true e6) (of_decide_eq_true e4) hd kk
      · cases hs
  | _ => cases hs
theorem exA_ok (E : EnA scr d M D cy tb z p R s m args meth c n0 mc ms) : ∀ (qs : List AI) (pc e9 : Nat) (ls : LsA) (st : List Value) (h : Hp), ckA d M pc qs e9 = true → exA scr (n0 + mc) (w0 + ms) qs ls st h = (true, ls', st', h') → GoA M D cy tb z p l e R s m args below meth c n0 w0 mc ms Qf e9 ls' st' h' → GoA M D cy tb z p l e R s m args below meth c n0 w0 mc ms Qf pc ls st h
  | [], pc, e9, ls, st, h, hc, hs, kk => by
    obtain rfl := of_decide_eq_true hc
    cases hs
    exact kk
  | q :: qs, pc, e9, ls, st, h, hc, hs, kk => by
    obtain ⟨h1, h2⟩ := Bool.and_eq_true_iff.mp hc
    unfold exA at hs
    rcases hq : stp scr (n0 + mc) (w0 + ms) q ls st h with ⟨b, ls1, st1, h1'⟩
    rw [hq] at hs
    simp only at hs
    rcases hr : exA scr (n0 + mc) (w0 + ms) qs ls1 st1 h1' with ⟨b2, r⟩
    rw [hr] at hs
    simp only [Prod.mk.injEq, Bool.and_eq_true] at hs
    obtain ⟨⟨rfl, rfl⟩, rfl⟩ := hs
    exact stp_ok E h1 hq (exA_ok E qs _ e9 ls1 st1 h1' h2 hr kk)
end BlocksA
/-- a block of instructions -/
theorem XA.blk {scr : ScA} {d : Nat} {M : MD} {N1 W1 pc e9 : Nat} {ls ls' : LsA} {st st' : List Value} {h h' : Hp} {post : Option Value → Hp → Prop} {ok : Bool} (qs : List AI) (hc : ckA d M pc qs e9 = true) (hs : exA scr N1 W1 qs ls st h = (ok, ls', st', h')) (hok : ok = true) (kk : XA scr d M N1 W1 e9 ls' st' h' post) : XA scr d M N1 W1 pc ls st h post := by
  subst hok
  intro D cy tb z p l e R s m args below meth c n0 w0 mc ms Qf E e1 e2 hR
  subst e1
  subst e2
  exact exA_ok E qs pc e9 ls st h hc hs (kk D cy tb z p l e R s m args below meth c n0 w0 mc ms Qf E rfl rfl hR)
end
section
/-! branches, switches, returns, contracts, calls -/
theorem TbA.same {tb : Nat → Nat} {z : Nat} {scr : ScA} {u U : State} {H : Heap} (h : TbA tb z scr u H) (hv : u.vm = U.vm) : TbA tb z scr U H := by
  obtain ⟨h1, h2, h3, h4, h5, h6, h7⟩ := h
  have hal : u.vm.Alike U.vm := by rw [hv]; exact Vm.Alike.refl _
  refine ⟨fun j hj => (h1 j hj).moved hal, fun j hj => (h2 j hj).moved hal, fun w hw => ?_, fun w hw => ?_, h5.moved hal, h6.moved hal, Jvm.Stand.arrayOver_alikeB hal h7⟩
  · obtain ⟨a, i, x, b, rfl⟩ := nestM_of hw
    exact va_Nw.same rfl hv (h3 _ hw)
  · obtain ⟨a, i, x, b, c, d, rfl⟩ := nestF_of hw
    exact va_Nw.same rfl hv (h4 _ hw)
theorem CkA.same {D : va_G} {cy : Nat → ClassId} {tb : Nat → Nat} {z : Nat} {scr : ScA} {u U : State} {H : Heap} (h : CkA D cy tb z scr u H) (hv : u.vm = U.vm) : CkA D cy tb z scr U H := ⟨va_K.moved (by rw [hv]; exact Vm.Alike.refl _) h.1, h.2.same hv⟩
def ckI (M : MD) (pc : Nat) (i : Instr) (off : Int) (tgt : Nat) : Bool := decide (decode M.2.1 pc = .ok (i, 3) ∧ (pc : Int) + off = (tgt : Int))
section BranchA
variable {scr : ScA} {d : Nat} {M : MD} {N1 W1 pc : Nat} {ls : LsA} {r : List Value} {h : Hp} {post : Option Value → Hp → Prop} {x y : Int32}
theorem XA.icmp_eq (off : Int) (tgt : Nat) (hc : ckI M pc (.if_icmp .eq off) off tgt = true) (kt : x = y → XA scr d M N1 W1 tgt ls r h post) (kf : ¬ x = y → XA scr d M N1 W1 (pc + 3) ls r h post) : XA scr d M N1 W1 pc ls (.int y :: .int x :: r) h post := by
  obtain ⟨hd, ht⟩ := of_decide_eq_true hc
  intro D cy tb z p l e R s m args below meth c n0 w0 mc ms Qf E e1 e2 hR H locs A hP hS hL hn hw
  exact lv_icmp_eq E.1 E.2.1 hd ht (fun q => kt q D cy tb z p l e R s m args below meth c n0 w0 mc ms Qf E e1 e2 hR H locs A hP hS hL hn hw) (fun q => kf q D cy tb z p l e R s m args below meth c n0 w0 mc ms Qf E e1 e2 hR H locs A hP hS hL hn hw)
theorem XA.icmp_ne (off : Int) (tgt : Nat) (hc : ckI M pc (.if_icmp .ne off) off tgt = true) (kt : ¬ x = y → XA scr d M N1 W1 tgt ls r h post) (kf : x = y → XA scr d M N1 W1 (pc + 3) ls r h post) : XA scr d M N1 W1 pc ls (.int y :: .int x :: r) h post := by
  obtain ⟨hd, ht⟩ := of_decide_eq_true hc
  intro D cy tb z p l e R s m args below meth c n0 w0 mc ms Qf E e1 e2 hR H locs A hP hS hL hn hw
  exact lv_icmp_ne E.1 E.2.1 hd ht (fun q => kt q D cy tb z p l e R s m args below meth c n0 w0 mc ms Qf E e1 e2 hR H locs A hP hS hL hn hw) (fun q => kf q D cy tb z p l e R s m args below meth c n0 w0 mc ms Qf E e1 e2 hR H locs A hP hS hL hn hw)
theorem XA.icmp_lt (off : Int) (tgt : Nat) (hc : ckI M pc (.if_icmp .lt off) off tgt = true) (kt : x < y → XA scr d M N1 W1 tgt ls r h post) (kf : ¬ x < y → XA scr d M N1 W1 (pc + 3) ls r h post) : XA scr d M N1 W1 pc ls (.int y :: .int x :: r) h post := by
  obtain ⟨hd, ht⟩ := of_decide_eq_true hc
  intro D cy tb z p l e R s m args below meth c n0 w0 mc ms Qf E e1 e2 hR H locs A hP hS hL hn hw
  exact lv_icmp_lt E.1 E.2.1 hd ht (fun q => kt q D cy tb z p l e R s m args below meth c n0 w0 mc ms Qf E e1 e2 hR H locs A hP hS hL hn hw) (fun q => kf q D cy tb z p l e R s m args below meth c n0 w0 mc ms Qf E e1 e2 hR H locs A hP hS hL hn hw)
theorem XA.icmp_ge (off : Int) (tgt : Nat) (hc : ckI M pc (.if_icmp .ge off) off tgt = true) (kt : y ≤ x → XA scr d M N1 W1 tgt ls r h post) (kf : ¬ y ≤ x → XA scr d M N1 W1 (pc + 3) ls r h post) : XA scr d M N1 W1 pc ls (.int y :: .int x :: r) h post := by
  obtain ⟨hd, ht⟩ := of_decide_eq_true hc
  intro D cy tb z p l e R s m args below meth c n0 w0 mc ms Qf E e1 e2 hR H locs A hP hS hL hn hw
  exact lv_icmp_ge E.1 E.2.1 hd ht (fun q => kt q D cy tb z p l e R s m args below meth c n0 w0 mc ms Qf E e1 e2 hR H locs A hP hS hL hn hw) (fun q => kf q D cy tb z p l e R s m args below meth c n0 w0 mc ms Qf E e1 e2 hR H locs A hP hS hL hn hw)
theorem XA.icmp_gt (off : Int) (tgt : Nat) (hc : ckI M pc (.if_icmp .gt off) off tgt = true) (kt : y < x → XA scr d M N1 W1 tgt ls r h post) (kf : ¬ y < x → XA scr d M N1 W1 (pc + 3) ls r h post) : XA scr d M N1 W1 pc ls (.int y :: .int x :: r) h post := by
  obtain ⟨hd, ht⟩ := of_decide_eq_true hc
  intro D cy tb z p l e R s m args below meth c n0 w0 mc ms Qf E e1 e2 hR H locs A hP hS hL hn hw
  exact lv_icmp_gt E.1 E.2.1 hd ht (fun q => kt q D cy tb z p l e R s m args below meth c n0 w0 mc ms Qf E e1 e2 hR H locs A hP hS hL hn hw) (fun q => kf q D cy tb z p l e R s m args below meth c n0 w0 mc ms Qf E e1 e2 hR H locs A hP hS hL hn hw)
theorem XA.icmp_le (off : Int) (tgt : Nat) (hc : ckI M pc (.if_icmp .le off) off tgt = true) (kt : x ≤ y → XA scr d M N1 W1 tgt ls r h post) (kf : ¬ x ≤ y → XA scr d M N1 W1 (pc + 3) ls r h post) : XA scr d M N1 W1 pc ls (.int y :: .int x :: r) h post := by
  obtain ⟨hd, ht⟩ := of_decide_eq_true hc
  intro D cy tb z p l e R s m args below meth c n0 w0 mc ms Qf E e1 e2 hR H locs A hP hS hL hn hw
  exact lv_icmp_le E.1 E.2.1 hd ht (fun q => kt q D cy tb z p l e R s m args below meth c n0 w0 mc ms Qf E e1 e2 hR H locs A hP hS hL hn hw) (fun q => kf q D cy tb z p l e R s m args below meth c n0 w0 mc ms Qf E e1 e2 hR H locs A hP hS hL hn hw)
theorem XA.if_eq (off : Int) (tgt : Nat) (hc : ckI M pc (.ifCond .eq off) off tgt = true) (kt : x = 0 → XA scr d M N1 W1 tgt ls r h post) (kf : ¬ x = 0 → XA scr d M N1 W1 (pc + 3) ls r h post) : XA scr d M N1 W1 pc ls (.int x :: r) h post := by
  obtain ⟨hd, ht⟩ := of_decide_eq_true hc
  intro D cy tb z p l e R s m args below meth c n0 w0 mc ms Qf E e1 e2 hR H locs A hP hS hL hn hw
  exact lv_if_eq E.1 E.2.1 hd ht (fun q => kt q D cy tb z p l e R s m args below meth c n0 w0 mc ms Qf E e1 e2 hR H locs A hP hS hL hn hw) (fun q => kf q D cy tb z p l e R s m args below meth c n0 w0 mc ms Qf E e1 e2 hR H locs A hP hS hL hn hw)
theorem XA.if_ne (off : Int) (tgt : Nat) (hc : ckI M pc (.ifCond .ne off) off tgt = true) (kt : ¬ x = 0 → XA scr d M N1 W1 tgt ls r h post) (kf : x = 0 → XA scr d M N1 W1 (pc + 3) ls r h post) : XA scr d M N1 W1 pc ls (.int x :: r) h post := by
  obtain ⟨hd, ht⟩ := of_decide_eq_true hc
  intro D cy tb z p l e R s m args below meth c n0 w0 mc ms Qf E e1 e2 hR H locs A hP hS hL hn hw
  exact lv_if_ne E.1 E.2.1 hd ht (fun q => kt q D cy tb z p l e R s m args below meth c n0 w0 mc ms Qf E e1 e2 hR H locs A hP hS hL hn hw) (fun q => kf q D cy tb z p l e R s m args below meth c n0 w0 mc ms Qf E e1 e2 hR H locs A hP hS hL hn hw)
theorem XA.if_lt (off : Int) (tgt : Nat) (hc : ckI M pc (.ifCond .lt off) off tgt = true) (kt : x < 0 → XA scr d M N1 W1 tgt ls r h post) (kf : ¬ x < 0 → XA scr d M N1 W1 (pc + 3) ls r h post) : XA scr d M N1 W1 pc ls (.int x :: r) h post := by
  obtain ⟨hd, ht⟩ := of_decide_eq_true hc
  intro D cy tb z p l e R s m args below meth c n0 w0 mc ms Qf E e1 e2 hR H locs A hP hS hL hn hw
  exact lv_if_lt E.1 E.2.1 hd ht (fun q => kt q D cy tb z p l e R s m args below meth c n0 w0 mc ms Qf E e1 e2 hR H locs A hP hS hL hn hw) (fun q => kf q D cy tb z p l e R s m args below meth c n0 w0 mc ms Qf E e1 e2 hR H locs A hP hS hL hn hw)
theorem XA.if_ge (off : Int) (tgt : Nat) (hc : ckI M pc (.ifCond .ge off) off tgt = true) (kt : 0 ≤ x → XA scr d M N1 W1 tgt ls r h post) (kf : ¬ 0 ≤ x → XA scr d M N1 W1 (pc + 3) ls r h post) : XA scr d M N1 W1 pc ls (.int x :: r) h post := by
  obtain ⟨hd, ht⟩ := of_decide_eq_true hc
  intro D cy tb z p l e R s m args below meth c n0 w0 mc ms Qf E e1 e2 hR H locs A hP hS hL hn hw
  exact lv_if_ge E.1 E.2.1 hd ht (fun q => kt q D cy tb z p l e R s m args below meth c n0 w0 mc ms Qf E e1 e2 hR H locs A hP hS hL hn hw) (fun q => kf q D cy tb z p l e R s m args below meth c n0 w0 mc ms Qf E e1 e2 hR H locs A hP hS hL hn hw)
theorem XA.if_gt (off : Int) (tgt : Nat) (hc : ckI M pc (.ifCond .gt off) off tgt = true) (kt : 0 < x → XA scr d M N1 W1 tgt ls r h post) (kf : ¬ 0 < x → XA scr d M N1 W1 (pc + 3) ls r h post) : XA scr d M N1 W1 pc ls (.int x :: r) h post := by
  obtain ⟨hd, ht⟩ := of_decide_eq_true hc
  intro D cy tb z p l e R s m args below meth c n0 w0 mc ms Qf E e1 e2 hR H locs A hP hS hL hn hw
  exact lv_if_gt E.1 E.2.1 hd ht (fun q => kt q D cy tb z p l e R s m args below meth c n0 w0 mc ms Qf E e1 e2 hR H locs A hP hS hL hn hw) (fun q => kf q D cy tb z p l e R s m args below meth c n0 w0 mc ms Qf E e1 e2 hR H locs A hP hS hL hn hw)
theorem XA.if_le (off : Int) (tgt : Nat) (hc : ckI M pc (.ifCond .le off) off tgt = true) (kt : x ≤ 0 → XA scr d M N1 W1 tgt ls r h post) (kf : ¬ x ≤ 0 → XA scr d M N1 W1 (pc + 3) ls r h post) : XA scr d M N1 W1 pc ls (.int x :: r) h post := by
  obtain ⟨hd, ht⟩ := of_decide_eq_true hc
  intro D cy tb z p l e R s m args below meth c n0 w0 mc ms Qf E e1 e2 hR H locs A hP hS hL hn hw
  exact lv_if_le E.1 E.2.1 hd ht (fun q => kt q D cy tb z p l e R s m args below meth c n0 w0 mc ms Qf E e1 e2 hR H locs A hP hS hL hn hw) (fun q => kf q D cy tb z p l e R s m args below meth c n0 w0 mc ms Qf E e1 e2 hR H locs A hP hS hL hn hw)
/-- a table switch: the cases in their order, then the default -/
def ckT (M : MD) (pc : Nat) (dflt lo hi : Int) (offs : List Int) (len : Nat) (cs : List (Int32 × Nat)) (td : Nat) : Bool :=
  decide (decode M.2.1 pc = .ok (.tableswitch dflt lo hi offs.toArray, len)) && decide ((pc : Int) + dflt = (td : Int) ∧ cs.length = offs.length ∧ hi = lo + (offs.length : Int) - 1) && (List.range offs.length).all (fun j => match cs[j]?, offs[j]? with
    | some q, some o => decide (q.1.toInt = lo + (j : Int) ∧ (pc : Int) + o = (q.2 : Int))
    | _, _ => false)
theorem XA.tsw (dflt lo hi : Int) (offs : List Int) (len : Nat) (cs : List (Int32 × Nat)) (td : Nat) (hc : ckT M pc dflt lo hi offs len cs td = true) (kc : ∀ q ∈ cs, x = q.1 → XA scr d M N1 W1 q.2 ls r h post) (kd : (∀ q ∈ cs, ¬ x = q.1) → XA scr d M N1 W1 td ls r h post) : XA scr d M N1 W1 pc ls (.int x :: r) h post := by
  obtain ⟨h12, h3⟩ := Bool.and_eq_true_iff.mp hc
  obtain ⟨h1, h2⟩ := Bool.and_eq_true_iff.mp h12
  have hd := of_decide_eq_true h1
  obtain ⟨htd, hlen, hhi⟩ := of_decide_eq_true h2
  have hall : ∀ j, j < offs.length → ∃ q o, cs[j]? = some q ∧ offs[j]? = some o ∧ q.1.toInt = lo + (j : Int) ∧ (pc : Int) + o = (q.2 : Int) := by
    intro j hj
    have := List.all_eq_true.mp h3 j (List.mem_range.mpr hj)
    have e1 : cs[j]? = some cs[j] := List.getElem?_eq_getElem (by omega)
    have e2 : offs[j]? = some offs[j] := List.getElem?_eq_getElem hj
    rw [e1, e2] at this
    have := of_decide_eq_true this
    exact ⟨_, _, e1, e2, this.1, this.2⟩
  intro D cy tb z p l e R s m args below meth c n0 w0 mc ms Qf E e1 e2 hR H locs A hP hS hL hn hw
  by_cases hr : x.toInt < lo ∨ hi < x.toInt
  · refine lv_tableOut E.1 E.2.1 hd hr htd (kd (fun q hq hx => ?_) D cy tb z p l e R s m args below meth c n0 w0 mc ms Qf E e1 e2 hR H locs A hP hS hL hn hw)
    obtain ⟨j, hj⟩ := List.getElem?_of_mem hq
    have hjl : j < cs.length := (List.getElem?_eq_some_iff.mp hj).1
    obtain ⟨q', o, g1, g2, g3, g4⟩ := hall j (by omega)
    rw [hj] at g1
    cases g1
    rw [hx, g3] at hr
    omega
  · have hj : (x.toInt - lo).toNat < offs.length := by omega
    obtain ⟨q, o, g1, g2, g3, g4⟩ := hall _ hj
    have hx : x = q.1 := Int32.toInt_inj.mp (by rw [g3]; omega)
    exact lv_tableIn E.1 E.2.1 hd (by omega) (by omega) (off := o) (by rw [List.getElem?_toArray]; exact g2) g4 (kc q (List.mem_of_getElem? g1) hx D cy tb z p l e R s m args below meth c n0 w0 mc ms Qf E e1 e2 hR H locs A hP hS hL hn hw)
def ckL (M : MD) (pc : Nat) (dflt : Int) (ps : List (Int × Int)) (len : Nat) (cs : List (Int32 × Nat)) (td : Nat) : Bool :=
  decide (decode M.2.1 pc = .ok (.lookupswitch dflt ps.toArray, len)) && decide ((pc : Int) + dflt = (td : Int) ∧ (ps.zip (ps.drop 1)).all (fun (a, next) => a.1 < next.1) = true) && decide (ps = cs.map (fun q => (q.1.toInt, (q.2 : Int) - (pc : Int))))
theorem lk_off (pc : Nat) (dflt : Int) (x : Int32) : ∀ (cs : List (Int32 × Nat)), (∃ q ∈ cs, x = q.1 ∧ (pc : Int) + Op.lookupswitch.offset (cs.map (fun q => (q.1.toInt, (q.2 : Int) - (pc : Int)))) dflt x.toInt = (q.2 : Int)) ∨ ((∀ q ∈ cs, ¬ x = q.1) ∧ Op.lookupswitch.offset (cs.map (fun q => (q.1.toInt, (q.2 : Int) - (pc : Int)))) dflt x.toInt = dflt)
  | [] => Or.inr ⟨fun q h => absurd h List.not_mem_nil, rfl⟩
  | q :: cs => by
    rw [List.map_cons, Op.lookupswitch.offset_cons]
    by_cases hq : q.1.toInt = x.toInt
    · rw [if_pos hq]
      exact Or.inl ⟨q, List.mem_cons_self, (Int32.toInt_inj.mp hq).symm, by omega⟩
    · rw [if_neg hq]
      rcases lk_off pc dflt x cs with ⟨q', g1, g2, g3⟩ | ⟨g1, g2⟩
      · exact Or.inl ⟨q', List.mem_cons_of_mem _ g1, g2, g3⟩
      · refine Or.inr ⟨fun q' h' => ?_, g2⟩
        rcases List.mem_cons.mp h' with rfl | h'
        · exact fun e => hq (by rw [e])
        · exact g1 q' h'
theorem XA.lsw (dflt : Int) (ps : List (Int × Int)) (len : Nat) (cs : List (Int32 × Nat)) (td : Nat) (hc : ckL M pc dflt ps len cs td = true) (kc : ∀ q ∈ cs, x = q.1 → XA scr d M N1 W1 q.2 ls r h post) (kd : (∀ q ∈ cs, ¬ x = q.1) → XA scr d M N1 W1 td ls r h post) : XA scr d M N1 W1 pc ls (.int x :: r) h post := by
  obtain ⟨h12, h3⟩ := Bool.and_eq_true_iff.mp hc
  obtain ⟨h1, h2⟩ := Bool.and_eq_true_iff.mp h12
  have hd := of_decide_eq_true h1
  obtain ⟨htd, hsort⟩ := of_decide_eq_true h2
  have hps := of_decide_eq_true h3
  intro D cy tb z p l e R s m args below meth c n0 w0 mc ms Qf E e1 e2 hR H locs A hP hS hL hn hw
  rcases lk_off pc dflt x cs with ⟨q, g1, g2, g3⟩ | ⟨g1, g2⟩
  · rw [← hps] at g3
    exact lv_lookup E.1 E.2.1 hd hsort rfl g3 (kc q g1 g2 D cy tb z p l e R s m args below meth c n0 w0 mc ms Qf E e1 e2 hR H locs A hP hS hL hn hw)
  · rw [← hps] at g2
    exact lv_lookup E.1 E.2.1 hd hsort g2 htd (kd g1 D cy tb z p l e R s m args below meth c n0 w0 mc ms Qf E e1 e2 hR H locs A hP hS hL hn hw)
def ckRt (M : MD) (pc : Nat) (i : Instr) : Bool := decide (decode M.2.1 pc = .ok (i, 1))
theorem XA.ret (rv : Option Value) {st : List Value} (hst : st = rv.toList) (hc : ckRt M pc (rtI rv) = true) (hok : okR M.2.2.2 rv) (hN : h.1 ≤ N1) (hW : h.2.1 ≤ W1) (hp : post rv h) : XA scr d M N1 W1 pc ls st h post := by
  subst hst
  have hd := of_decide_eq_true hc
  intro D cy tb z p l e R s m args below meth c n0 w0 mc ms Qf E e1 e2 hR H locs A hP hS hL hn hw
  exact hR rv h H locs _ _ pc A hp hP hS (by omega) (by omega) hok hd
theorem XA.weak {post' : Option Value → Hp → Prop} {pc : Nat} {st : List Value} (hX : XA scr d M N1 W1 pc ls st h post) (hpp : ∀ r h, post r h → post' r h) : XA scr d M N1 W1 pc ls st h post' := by
  intro D cy tb z p l e R s m args below meth c n0 w0 mc ms Qf E e1 e2 hR
  exact hX D cy tb z p l e R s m args below meth c n0 w0 mc ms Qf E e1 e2 (fun rv h H locs cells slots pc A hp => hR rv h H locs cells slots pc A (hpp rv h hp))
end BranchA
set_option maxHeartbeats 1000000 in
/-- a contract out of a walk -/
theorem CtA.of {scr : ScA} {d : Nat} {M : MD} {as : List Value} {h : Hp} {mc ms : Nat} {post : Option Value → Hp → Prop} (hpl : plainName M.1.cls = true) (hlen : (enL as).length ≤ M.2.2.1) (hX : XA scr d M (h.1 + mc) (h.2.1 + ms) 0 (enL as) [] h post) : CtA scr d M as h mc ms post := by
  intro l D cy tb z
  refine Met.ofW (cc := M.2.1) (maxL := M.2.2.1) (ret := M.2.2.2) (ws' := gwT) hpl rfl ?_
  intro p e s m args below meth c s₁ B hml hv
  obtain ⟨rfl, hsz, hP, hCk⟩ := hv
  have hx := B.exec
  have hb := B.bytes
  have hr := B.returns
  have hts := atoms_spec (ws := wsM M) B.pre
  have hown : s.vm.findClass M.1.cls = some m.cls := findClass_of_methodNamed B.named
  have hlocks := B.notSynchronized
  have hin : meth.name = M.1.name := (name_of_methodNamed B.named B.method).1
  have E : EnA scr d M D cy tb z p (rmA d mc ms) s m ((as.map (rvA z tb)).toArray) meth c h.1 mc ms := ⟨hx, hb, hml, hown, fun w hw => hts w (List.mem_cons_of_mem _ hw), hCk, hsz, fun q => hin.trans q, Nat.le_refl _, Nat.le_refl _, Nat.le_refl _, Nat.le_refl _⟩
  have hRt : RtA M D cy tb z p l e (rmA d mc ms) s m ((as.map (rvA z tb)).toArray) below meth c mc ms post (MQ below (QxA D cy tb z post) ((as.map (rvA z tb)).toArray) s mc ms (fun q => z ≤ q)) := by
    intro rv h H locs cells slots pc A hp hP hS hc1 hc2 hok hd
    refine W.widen (k := mc) (n := ms) hc1 hc2 ?_
    have hq : ∀ t : State, t.heap = H → s.WarmedH t.vm → QxA D cy tb z post ((as.map (rvA z tb)).toArray) s (.returned (rv.map (rvA z tb))) t := fun t ht _ => ⟨⟨rv, h, hp, rfl, by rw [ht]; exact hP⟩, hS.F ht⟩
    generalize hM2 : M.2.2.2 = rt at hok hr
    cases rv with
    | none =>
      cases rt with
      | none => exact W.vret hx hb hr hq hS.2.2 hd
      | some t => cases t <;> exact hok.elim
    | some v =>
      cases rt with
      | none => exact hok.elim
      | some t =>
        cases v with
        | int v =>
          cases t with
          | int => exact W.iret hx hb hr hq hS.2.2 hd
          | boolean =>
            have hok : v = 0 ∨ v = 1 := hok
            exact W.zret hx hb hr (by rcases hok with rfl | rfl <;> rfl) hq hS.2.2 hd
          | _ => exact hok.elim
        | long v =>
          cases t with
          | long => exact W.lret hx hb hr hq hS.2.2 hd
          | _ => exact hok.elim
        | ref v =>
          cases t with
          | object n => exact W.aret hx hb hr (Or.inl ⟨_, rfl⟩) (Or.inr ⟨_, rfl⟩) hq hS.2.2 hd
          | _ => exact hok.elim
        | _ => cases t <;> exact hok.elim
  rw [lg_entry_eq]
  have hl := lv_entry (as.map (rvA z tb)) (n := M.2.2.1) (by rw [enL_len]; exact hlen)
  generalize (lg_sl (as.map (rvA z tb)) ++ List.replicate (M.2.2.1 - (lg_sl (as.map (rvA z tb))).length) Slot.unset).toArray = A at hl ⊢
  have hgo := hX D cy tb z p l e (rmA d mc ms) s m ((as.map (rvA z tb)).toArray) below meth c h.1 h.2.1 mc ms _ E rfl rfl hRt s.heap [] A hP va_S.rf ⟨hl.1, hl.2.1, fun i v hi => hl.2.2 (i, rvA z tb v) (by have := enL_get (z := z) (tb := tb) as 0 i v hi; rwa [Nat.zero_add] at this)⟩ (Nat.le_refl _) (Nat.le_refl _)
  rw [Nat.sub_self, Nat.sub_self] at hgo
  exact hgo
end
section
/-! calls by contract -/
def cmB (M' : MD) (na tc ti : Nat) : Bool := inT tc (.code M'.1 M'.2.1 M'.2.2.1 M'.2.2.2) && inT ti (.initialized M'.1.cls) && decide (M'.1.cls ≠ "java/lang/invoke/MethodHandle" ∧ M'.1.cls ≠ "java/lang/invoke/VarHandle" ∧ (parseMethodDescriptor M'.1.desc).map (fun d => d.parameters.length) = some na ∧ M'.2.2.1 ≤ 13)
/-- an instance method of class ci that may be called -/
def cvB (M' : MD) (ci na tc ti tm ts : Nat) : Bool := cmB M' na tc ti && inT tm (.instanceMethod M'.1) && inT ts (.selects M'.1.cls M'.1 M'.1) && decide (ci < 12 ∧ M'.1.cls = (clF ci).1)
def csB (M' : MD) (na tc ti tm : Nat) : Bool := cmB M' na tc ti && inT tm (.static M'.1)
def ciB (M' : MD) (na tc ti tm : Nat) : Bool := cmB M' na tc ti && inT tm (.instanceMethod M'.1) && decide (M'.1.name = "<init>" ∧ M'.2.2.2 = none)
def lkB (M M' : MD) (pc idx t : Nat) (i : Instr) : Bool := decide (decode M.2.1 pc = .ok (i, 3)) && (inT t (.methodLink M.1.cls idx M'.1) || inN t (.methodLinkNest M.1.cls idx M'.1 "HumanPyramid"))
theorem good_ws (M' : MD) (hc : Cond.code M'.1 M'.2.1 M'.2.2.1 M'.2.2.2 ∈ gwT) : GoodIn gwT (wsM M') := fun w hw => by
  rcases List.mem_cons.mp hw with rfl | hw
  · exact ⟨hc, (gwT_good hc).2⟩
  · exact ⟨hw, (gwT_good hw).2⟩
theorem lk_or {M M' : MD} {pc idx t : Nat} {i : Instr} (h : lkB M M' pc idx t i = true) : decode M.2.1 pc = .ok (i, 3) ∧ (Cond.methodLink M.1.cls idx M'.1 ∈ gwT ∨ Cond.methodLinkNest M.1.cls idx M'.1 "HumanPyramid" ∈ nestM) := by
  obtain ⟨h1, h2⟩ := Bool.and_eq_true_iff.mp h
  refine ⟨of_decide_eq_true h1, ?_⟩
  rw [Bool.or_eq_true] at h2
  rcases h2 with h2 | h2
  · exact Or.inl (inT_mem h2)
  · exact Or.inr (List.mem_filter.mpr ⟨List.mem_of_getElem? (of_decide_eq_true h2), rfl⟩)
section CallsA
variable {scr : ScA} {d : Nat} {M M' : MD} {D : va_G} {cy : Nat → ClassId} {tb : Nat → Nat} {z : Nat} {p : Program} {l : Launch} {e : Env} {R : Room} {s : State} {m : MethodId} {args : Array Value} {below : List Frame} {meth : Method} {c : Code} {n0 w0 mc ms : Nat} {Qf : State → Prop} {pc : Nat} {ls : LsA} {st : List Value} {h : Hp}
theorem run_go {H : Heap} {locs : List Loc} {A : Array Slot} {mc' ms' : Nat} {stk rest : List Value} {a : Array Value} {post' : Option Value → Hp → Prop} (hS : va_S (fun q => z ≤ q) s.heap H locs) (hL : lsOK M.2.2.1 z tb ls A) (hn : n0 ≤ h.1) (hw : w0 ≤ h.2.1) (hsz : s.heap.size = z + n0)
    (hr : va_Run p l e R s m args below meth c H locs (h.1 - n0) (h.2.1 - w0) mc' ms' (F0 m pc A stk) (rest.map (rvA z tb)) (QxA D cy tb z post' a) (fun q => z ≤ q))
    (kk : ∀ (rv : Option Value) (h' : Hp), post' rv h' → h'.1 = h.1 + mc' ∧ h'.2.1 = h.2.1 + ms' ∧ GoA M D cy tb z p l e R s m args below meth c n0 w0 mc ms Qf (pc + 3) ls (rv.toList ++ rest) h') : W p l e R s m args below meth c H locs (h.1 - n0) (h.2.1 - w0) Qf (F0 m pc A stk) := by
  intro T hT X
  obtain ⟨v, st₀, t, T', L, h0, X', hL', e1, e2, ⟨⟨rv, h', hp, hv, hW'⟩, hF⟩, stp9⟩ := hr T hT X
  have hv' : v = rv.map (rvA z tb) := by injection hv
  subst hv'
  obtain ⟨g1, g2, g3⟩ := kk rv h' hp
  rw [← e1] at hW'
  have hF1 : st₀.heap.size ≤ T'.heap.size := by rw [e1]; exact hF.1
  have hF2 : ∀ q : Nat, q < st₀.heap.size → ¬ z ≤ q → T'.heap[q]? = st₀.heap[q]? := fun q a1 a2 => by rw [e1]; exact hF.2 q a1 a2
  rw [h0] at hF1 hF2
  have hS' : va_S (fun q => z ≤ q) s.heap T'.heap (locs ++ L) := ⟨Nat.le_trans hS.1 hF1, fun q a1 a2 => (hF2 q (Nat.lt_of_lt_of_le a1 hS.1) a2).trans (hS.2.1 q a1 a2), fun q hq => by
    rcases List.mem_append.mp hq with h9 | h9
    · exact hS.2.2 q h9
    · exact hL' q h9⟩
  have hk9 := g3 T'.heap (locs ++ L) A hW' hS' hL (by omega) (by omega)
  have c1 : h'.1 - n0 = h.1 - n0 + mc' := by omega
  have c2 : h'.2.1 - w0 = h.2.1 - w0 + ms' := by omega
  rw [c1, c2] at hk9
  obtain ⟨t2, a1, b1⟩ := hk9 T' rfl X'
  refine ⟨t2, stp9 t2 ?_, b1⟩
  have e3 : (rv.map (rvA z tb)).toList ++ rest.map (rvA z tb) = (rv.toList ++ rest).map (rvA z tb) := by cases rv <;> simp
  show Steps p.tables e below (T'.setTop { F0 m pc A stk with pc := pc + 3, stack := (rv.map (rvA z tb)).toList ++ rest.map (rvA z tb) }) t2
  rw [e3]
  exact a1
theorem pre_ok (E : EnA scr d M D cy tb z p R s m args meth c n0 mc ms) {H : Heap} {locs : List Loc} (hP : WdA D cy z h H) (hS : va_S (fun q => z ≤ q) s.heap H locs) (hHs : H.size = z + h.1) (as : List Value) : FrameBlind (va_Pc (as.map (rvA z tb)) (fun U => U.heap.size = z + h.1 ∧ WdA D cy z h U.heap ∧ CkA D cy tb z scr U U.heap)) ∧ ∀ U : State, U.heap = H → s.WarmedH U.vm → va_Pc (as.map (rvA z tb)) (fun U => U.heap.size = z + h.1 ∧ WdA D cy z h U.heap ∧ CkA D cy tb z scr U U.heap) (as.map (rvA z tb)).toArray U := by
  refine ⟨fun a U g mk q => ⟨q.1, q.2.1, q.2.2.1, q.2.2.2.same rfl⟩, fun U hU hW => ⟨rfl, by rw [hU]; exact hHs, by rw [hU]; exact hP, ?_⟩⟩
  have hC := E.2.2.2.2.2.1
  refine ⟨va_K.moved hW.alike hC.1, hC.2.moved hW (fun a a1 a2 => ?_)⟩
  rw [hU]
  exact hS.2.1 a a1 a2
end CallsA
section CallsB
variable {scr : ScA} {d d' : Nat} {M : MD} {N1 W1 pc : Nat} {ls : LsA} {st rest : List Value} {h : Hp} {post post' : Option Value → Hp → Prop} {as : List Value} {mc' ms' : Nat}
/-- a call of an instance method -/
theorem XA.callV {M' : MD} {ci na k idx t tc ti tm ts : Nat} (hv : cvB M' ci na tc ti tm ts = true) (hl : lkB M M' pc idx t (.invokevirtual idx) = true) (hO : kO h.1 h.2.2.1 k ci = true) (hst : st = as.reverse ++ .ref k :: rest) (hn : as.length = na) (hrest : (rest.map fun v => v.category).sum ≤ 8) (hdd : d' + 1 ≤ d) (hb1 : h.1 + mc' ≤ N1) (hb2 : h.2.1 + ms' ≤ W1)
    (hC : CtA scr d' M' (.ref k :: as) h mc' ms' post') (kk : ∀ (rv : Option Value) (h' : Hp), post' rv h' → h'.1 = h.1 + mc' ∧ h'.2.1 = h.2.1 + ms' ∧ XA scr d M N1 W1 (pc + 3) ls (rv.toList ++ rest) h' post) : XA scr d M N1 W1 pc ls st h post := by
  subst hst
  obtain ⟨v123, v4⟩ := Bool.and_eq_true_iff.mp hv
  obtain ⟨v12, v3⟩ := Bool.and_eq_true_iff.mp v123
  obtain ⟨v1, v2⟩ := Bool.and_eq_true_iff.mp v12
  obtain ⟨u12, u3⟩ := Bool.and_eq_true_iff.mp v1
  obtain ⟨u1, u2⟩ := Bool.and_eq_true_iff.mp u12
  obtain ⟨y1, y2, y3, y4⟩ := of_decide_eq_true u3
  obtain ⟨hci, hcl⟩ := of_decide_eq_true v4
  have hcode := inT_mem u1
  have hini := inT_mem u2
  obtain ⟨hd, hlink⟩ := lk_or hl
  intro D cy tb z p l e R s m args below meth c n0 w0 mc ms Qf E e1 e2 hR H locs A hP hS hL hn0 hw0
  obtain ⟨hx, hbc, hml, hown, hts, hCk, hsz, -, hfr, hlo, hmc, hms⟩ := id E
  refine W_sz fun hz => ?_
  have hHs := size_is hP hS hsz hn0 hz
  obtain ⟨pb, pp⟩ := pre_ok E hP hS hHs (.ref k :: as)
  obtain ⟨hk, hs⟩ := kO_iff.mp hO
  have hcel := wld_get (cy := cy) (z := z) hk
  rw [celA_o hs] at hcel
  have hrecv : ∃ cell : Cell, H[z + k]? = some cell ∧ cell.vm.isStatics = false ∧ s.vm.findClass (clF ci).1 = some cell.cls := va_recv (q := ((clF ci).1, (clF ci).2.1, nF ci)) hCk.1 hP (clF_get hci) hcel
  rw [← hcl] at hrecv
  have hroom : (rmA d' mc' ms').frames + 1 ≤ R.frames ∧ 8 + (M'.2.2.1 + 11) + (rmA d' mc' ms').locals ≤ R.locals := ⟨by show d' + 1 ≤ _; omega, by show 8 + (M'.2.2.1 + 11) + d' * 32 ≤ _; omega⟩
  have hstk : ((as.reverse ++ .ref k :: rest).map (rvA z tb)) = (as.map (rvA z tb)).reverse ++ .ref (z + k) :: rest.map (rvA z tb) := by simp [rvA]
  have hlen : (as.map (rvA z tb)).length = na := by rw [List.length_map]; exact hn
  have hkk : ∀ (rv : Option Value) (h' : Hp), post' rv h' → h'.1 = h.1 + mc' ∧ h'.2.1 = h.2.1 + ms' ∧ GoA M D cy tb z p l e R s m args below meth c n0 w0 mc ms Qf (pc + 3) ls (rv.toList ++ rest) h' := fun rv h' hp => ⟨(kk rv h' hp).1, (kk rv h' hp).2.1, (kk rv h' hp).2.2 D cy tb z p l e R s m args below meth c n0 w0 mc ms Qf E e1 e2 hR⟩
  rcases hlink with hlink | hlink
  · refine run_go (h := h) (a := (Value.ref (z + k) :: as.map (rvA z tb)).toArray) hS hL hn0 hw0 hsz (va_runV (As := as.map (rvA z tb)) (b := z + k) (rest := rest.map (rvA z tb)) ⟨hx, hbc, hml, hown, hts⟩ (hC l D cy tb z) (C := M'.1.cls) (cwV na hts (fun w hw => ?_) rfl rfl rfl ⟨rfl, y1, y2, y3⟩ hroom) ⟨pb, hrecv, pp⟩ rfl hlen hL.1 hstk (lv_room (by rw [sum_cat]; exact hrest)) hd ⟨by omega, by omega⟩) hkk
    unfold wsV at hw
    rcases List.mem_append.mp hw with hw | hw
    · have : w ∈ gwT := by
        simp only [List.mem_cons, List.not_mem_nil, or_false] at hw
        rcases hw with rfl | rfl | rfl | rfl
        · exact hlink
        · exact inT_mem v2
        · exact inT_mem v3
        · exact hini
      exact ⟨this, (gwT_good this).2⟩
    · exact good_ws M' hcode w hw
  · exact run_go (h := h) (a := (Value.ref (z + k) :: as.map (rvA z tb)).toArray) hS hL hn0 hw0 hsz (va_runVN (As := as.map (rvA z tb)) (b := z + k) (rest := rest.map (rvA z tb)) ⟨hx, hbc, hml, hown, hts⟩ (hC l D cy tb z) (C := M'.1.cls) ⟨va_cnB na hts (good_ws M' hcode) rfl rfl rfl (hCk.2.2.2.1 _ hlink) (hts _ hini) ⟨y1, y2, y3⟩ hroom, hts _ (inT_mem v2), hts _ (inT_mem v3)⟩ ⟨pb, hrecv, pp⟩ rfl hlen hL.1 hstk (lv_room (by rw [sum_cat]; exact hrest)) hd ⟨by omega, by omega⟩) hkk
/-- a call of a static method -/
theorem XA.callS {M' : MD} {na idx t tc ti tm : Nat} (hv : csB M' na tc ti tm = true) (hl : lkB M M' pc idx t (.invokestatic idx) = true) (hst : st = as.reverse ++ rest) (hn : as.length = na) (hrest : (rest.map fun v => v.category).sum ≤ 8) (hdd : d' + 1 ≤ d) (hb1 : h.1 + mc' ≤ N1) (hb2 : h.2.1 + ms' ≤ W1)
    (hC : CtA scr d' M' as h mc' ms' post') (kk : ∀ (rv : Option Value) (h' : Hp), post' rv h' → h'.1 = h.1 + mc' ∧ h'.2.1 = h.2.1 + ms' ∧ XA scr d M N1 W1 (pc + 3) ls (rv.toList ++ rest) h' post) : XA scr d M N1 W1 pc ls st h post := by
  subst hst
  obtain ⟨v1, v2⟩ := Bool.and_eq_true_iff.mp hv
  obtain ⟨u12, u3⟩ := Bool.and_eq_true_iff.mp v1
  obtain ⟨u1, u2⟩ := Bool.and_eq_true_iff.mp u12
  obtain ⟨y1, y2, y3, y4⟩ := of_decide_eq_true u3
  have hcode := inT_mem u1
  have hini := inT_mem u2
  obtain ⟨hd, hlink⟩ := lk_or hl
  intro D cy tb z p l e R s m args below meth c n0 w0 mc ms Qf E e1 e2 hR H locs A hP hS hL hn0 hw0
  obtain ⟨hx, hbc, hml, hown, hts, hCk, hsz, -, hfr, hlo, hmc, hms⟩ := id E
  refine W_sz fun hz => ?_
  have hHs := size_is hP hS hsz hn0 hz
  obtain ⟨pb, pp⟩ := pre_ok E hP hS hHs as
  have hroom : (rmA d' mc' ms').frames + 1 ≤ R.frames ∧ 8 + (M'.2.2.1 + 11) + (rmA d' mc' ms').locals ≤ R.locals := ⟨by show d' + 1 ≤ _; omega, by show 8 + (M'.2.2.1 + 11) + d' * 32 ≤ _; omega⟩
  have hstk : ((as.reverse ++ rest).map (rvA z tb)) = (as.map (rvA z tb)).reverse ++ rest.map (rvA z tb) := by simp
  have hlen : (as.map (rvA z tb)).length = na := by rw [List.length_map]; exact hn
  have hkk : ∀ (rv : Option Value) (h' : Hp), post' rv h' → h'.1 = h.1 + mc' ∧ h'.2.1 = h.2.1 + ms' ∧ GoA M D cy tb z p l e R s m args below meth c n0 w0 mc ms Qf (pc + 3) ls (rv.toList ++ rest) h' := fun rv h' hp => ⟨(kk rv h' hp).1, (kk rv h' hp).2.1, (kk rv h' hp).2.2 D cy tb z p l e R s m args below meth c n0 w0 mc ms Qf E e1 e2 hR⟩
  rcases hlink with hlink | hlink
  · refine run_go (h := h) (a := (as.map (rvA z tb)).toArray) hS hL hn0 hw0 hsz (va_runS (As := as.map (rvA z tb)) (rest := rest.map (rvA z tb)) ⟨hx, hbc, hml, hown, hts⟩ (hC l D cy tb z) (va_cwS na hts (fun w hw => ?_) rfl rfl rfl ⟨y1, y2, y3⟩ hroom) ⟨pb, pp⟩ rfl hlen hL.1 hstk (lv_room (by rw [sum_cat]; exact hrest)) hd ⟨by omega, by omega⟩) hkk
    unfold va_wsS at hw
    rcases List.mem_append.mp hw with hw | hw
    · have : w ∈ gwT := by
        simp only [List.mem_cons, List.not_mem_nil, or_false] at hw
        rcases hw with rfl | rfl | rfl
        · exact hlink
        · exact inT_mem v2
        · exact hini
      exact ⟨this, (gwT_good this).2⟩
    · exact good_ws M' hcode w hw
  · exact run_go (h := h) (a := (as.map (rvA z tb)).toArray) hS hL hn0 hw0 hsz (va_runSN (As := as.map (rvA z tb)) (rest := rest.map (rvA z tb)) ⟨hx, hbc, hml, hown, hts⟩ (hC l D cy tb z) ⟨va_cnB na hts (good_ws M' hcode) rfl rfl rfl (hCk.2.2.2.1 _ hlink) (hts _ hini) ⟨y1, y2, y3⟩ hroom, hts _ (inT_mem v2), trivial⟩ ⟨pb, pp⟩ rfl hlen hL.1 hstk (lv_room (by rw [sum_cat]; exact hrest)) hd ⟨by omega, by omega⟩) hkk
/-- a call of a constructor -/
theorem XA.callI {M' : MD} {na k idx t tc ti tm : Nat} (hv : ciB M' na tc ti tm = true) (hl : lkB M M' pc idx t (.invokespecial idx) = true) (hst : st = as.reverse ++ .ref k :: rest) (hn : as.length = na) (hrest : (rest.map fun v => v.category).sum ≤ 8) (hdd : d' + 1 ≤ d) (hb1 : h.1 + mc' ≤ N1) (hb2 : h.2.1 + ms' ≤ W1)
    (hC : CtA scr d' M' (.ref k :: as) h mc' ms' post') (kk : ∀ (rv : Option Value) (h' : Hp), post' rv h' → h'.1 = h.1 + mc' ∧ h'.2.1 = h.2.1 + ms' ∧ XA scr d M N1 W1 (pc + 3) ls (rv.toList ++ rest) h' post) : XA scr d M N1 W1 pc ls st h post := by
  subst hst
  obtain ⟨v12, v3⟩ := Bool.and_eq_true_iff.mp hv
  obtain ⟨v1, v2⟩ := Bool.and_eq_true_iff.mp v12
  obtain ⟨u12, u3⟩ := Bool.and_eq_true_iff.mp v1
  obtain ⟨u1, u2⟩ := Bool.and_eq_true_iff.mp u12
  obtain ⟨y1, y2, y3, y4⟩ := of_decide_eq_true u3
  obtain ⟨hnm, hret⟩ := of_decide_eq_true v3
  have hcode := inT_mem u1
  have hini := inT_mem u2
  obtain ⟨hd, hlink⟩ := lk_or hl
  intro D cy tb z p l e R s m args below meth c n0 w0 mc ms Qf E e1 e2 hR H locs A hP hS hL hn0 hw0
  obtain ⟨hx, hbc, hml, hown, hts, hCk, hsz, -, hfr, hlo, hmc, hms⟩ := id E
  refine W_sz fun hz => ?_
  have hHs := size_is hP hS hsz hn0 hz
  obtain ⟨pb, pp⟩ := pre_ok E hP hS hHs (.ref k :: as)
  have hroom : (rmA d' mc' ms').frames + 1 ≤ R.frames ∧ 8 + (M'.2.2.1 + 11) + (rmA d' mc' ms').locals ≤ R.locals := ⟨by show d' + 1 ≤ _; omega, by show 8 + (M'.2.2.1 + 11) + d' * 32 ≤ _; omega⟩
  have hstk : ((as.reverse ++ .ref k :: rest).map (rvA z tb)) = (as.map (rvA z tb)).reverse ++ .ref (z + k) :: rest.map (rvA z tb) := by simp [rvA]
  have hlen : (as.map (rvA z tb)).length = na := by rw [List.length_map]; exact hn
  have hwsM : wsM M' = Cond.code M'.1 M'.2.1 M'.2.2.1 none :: gwT := by unfold wsM; rw [hret]
  have hkk : ∀ (rv : Option Value) (h' : Hp), post' rv h' → h'.1 = h.1 + mc' ∧ h'.2.1 = h.2.1 + ms' ∧ GoA M D cy tb z p l e R s m args below meth c n0 w0 mc ms Qf (pc + 3) ls (rv.toList ++ rest) h' := fun rv h' hp => ⟨(kk rv h' hp).1, (kk rv h' hp).2.1, (kk rv h' hp).2.2 D cy tb z p l e R s m args below meth c n0 w0 mc ms Qf E e1 e2 hR⟩
  rcases hlink with hlink | hlink
  · exact run_go (h := h) (a := (Value.ref (z + k) :: as.map (rvA z tb)).toArray) hS hL hn0 hw0 hsz (va_runI (As := as.map (rvA z tb)) (b := z + k) (rest := rest.map (rvA z tb)) ⟨hx, hbc, hml, hown, hts⟩ (hC l D cy tb z) (cwI na hts (good_ws M' hcode) hwsM rfl rfl (hts _ hini) (hts _ hlink) (hts _ (inT_mem v2)) hnm ⟨y1, y2, y3⟩ hroom) ⟨pb, pp⟩ rfl hlen hL.1 hstk (lv_room (by rw [sum_cat]; exact hrest)) hd ⟨by omega, by omega⟩) hkk
  · exact run_go (h := h) (a := (Value.ref (z + k) :: as.map (rvA z tb)).toArray) hS hL hn0 hw0 hsz (va_runIN (As := as.map (rvA z tb)) (b := z + k) (rest := rest.map (rvA z tb)) ⟨hx, hbc, hml, hown, hts⟩ (hC l D cy tb z) ⟨va_cnB na hts (good_ws M' hcode) hwsM rfl rfl (hCk.2.2.2.1 _ hlink) (hts _ hini) ⟨y1, y2, y3⟩ hroom, hnm, hts _ (inT_mem v2)⟩ ⟨pb, pp⟩ rfl hlen hL.1 hstk (lv_room (by rw [sum_cat]; exact hrest)) hd ⟨by omega, by omega⟩) hkk
end CallsB
end
section
theorem ci_X0_init : ciB mX0_init 0 275 73 274 = true := by decide +kernel
theorem cv_X0_begin : cvB mX0_begin 0 0 662 73 660 661 = true := by decide +kernel
theorem cv_X0_offer : cvB mX0_offer 0 3 680 73 678 679 = true := by decide +kernel
theorem cv_X0_part : cvB mX0_part 0 1 684 73 682 683 = true := by decide +kernel
theorem ci_X1_init : ciB mX1_init 0 163 69 162 = true := by decide +kernel
theorem cv_X1_add : cvB mX1_add 1 3 515 69 513 514 = true := by decide +kernel
theorem cv_X1_allBits : cvB mX1_allBits 1 0 545 69 543 544 = true := by decide +kernel
theorem cv_X1_drawByLot : cvB mX1_drawByLot 1 3 796 69 794 795 = true := by decide +kernel
theorem cs_X1_following : csB mX1_following 1 799 69 798 = true := by decide +kernel
theorem ci_X2_init : ciB mX2_init 0 314 74 313 = true := by decide +kernel
theorem cv_X2_forgetAnswers : cvB mX2_forgetAnswers 2 0 324 74 322 323 = true := by decide +kernel
theorem cv_X2_neverBits : cvB mX2_neverBits 2 3 739 74 737 738 = true := by decide +kernel
theorem cv_X2_tryWeights : cvB mX2_tryWeights 2 4 770 74 768 769 = true := by decide +kernel
theorem cv_X2_tryStrengths : cvB mX2_tryStrengths 2 4 754 74 752 753 = true := by decide +kernel
theorem cv_X2_tellingMoment : cvB mX2_tellingMoment 2 1 760 74 759 15 = true := by decide +kernel
theorem cv_X2_mostAlike : cvB mX2_mostAlike 2 2 764 74 763 16 = true := by decide +kernel
theorem ci_X3_init : ciB mX3_init 0 265 72 264 = true := by decide +kernel
theorem cv_X3_forgetAnswers : cvB mX3_forgetAnswers 3 0 486 72 484 485 = true := by decide +kernel
theorem cv_X3_bestSwap : cvB mX3_bestSwap 3 2 658 72 656 657 = true := by decide +kernel
theorem cv_X3_bestMoment : cvB mX3_bestMoment 3 3 692 72 690 691 = true := by decide +kernel
theorem cv_X3_bestTraining : cvB mX3_bestTraining 3 2 700 72 698 699 = true := by decide +kernel
theorem ci_X4_init : ciB mX4_init 0 379 76 378 = true := by decide +kernel
theorem cv_X4_renew : cvB mX4_renew 4 2 809 76 807 808 = true := by decide +kernel
theorem cv_X4_whatFails : cvB mX4_whatFails 4 2 824 76 822 823 = true := by decide +kernel
theorem cv_X4_hasRange : cvB mX4_hasRange 4 2 841 76 839 840 = true := by decide +kernel
theorem cv_X4_item : cvB mX4_item 4 1 531 76 529 530 = true := by decide +kernel
theorem cv_X4_setItem : cvB mX4_setItem 4 2 828 76 826 827 = true := by decide +kernel
theorem ci_X5_init : ciB mX5_init 1 209 71 208 = true := by decide +kernel
theorem cv_X5_play : cvB mX5_play 5 4 549 71 547 548 = true := by decide +kernel
theorem cv_X5_begin : cvB mX5_begin 5 0 553 71 552 4 = true := by decide +kernel
theorem cv_X5_gather : cvB mX5_gather 5 3 558 71 557 5 = true := by decide +kernel
theorem cv_X5_sneezing : cvB mX5_sneezing 5 1 565 71 564 6 = true := by decide +kernel
theorem cv_X5_applaud : cvB mX5_applaud 5 1 582 71 581 8 = true := by decide +kernel
theorem cv_X5_climb : cvB mX5_climb 5 2 589 71 588 9 = true := by decide +kernel
theorem cv_X5_bear : cvB mX5_bear 5 1 594 71 593 10 = true := by decide +kernel
theorem cv_X5_tire : cvB mX5_tire 5 1 600 71 599 11 = true := by decide +kernel
theorem cs_X5_tiring : csB mX5_tiring 2 603 71 602 = true := by decide +kernel
theorem cv_X5_topple : cvB mX5_topple 5 3 569 71 568 7 = true := by decide +kernel
theorem cv_X5_keepFacts : cvB mX5_keepFacts 5 2 607 71 606 12 = true := by decide +kernel
theorem cv_X5_stateOf : cvB mX5_stateOf 5 3 611 71 610 13 = true := by decide +kernel
theorem cv_X5_whoIsAt : cvB mX5_whoIsAt 5 3 619 71 617 618 = true := by decide +kernel
theorem ci_X6_init : ciB mX6_init 0 189 70 188 = true := by decide +kernel
theorem cv_X6_add : cvB mX6_add 6 3 727 70 725 726 = true := by decide +kernel
theorem cv_X6_fit : cvB mX6_fit 6 2 745 70 743 744 = true := by decide +kernel
theorem ci_X7_init : ciB mX7_init 0 93 66 92 = true := by decide +kernel
theorem cv_X7_append : cvB mX7_append 7 1 451 66 449 450 = true := by decide +kernel
theorem cv_X7_castInto : cvB mX7_castInto 7 1 459 66 457 458 = true := by decide +kernel
theorem cs_X7_takes : csB mX7_takes 4 469 66 468 = true := by decide +kernel
theorem cs_X7_takesPlace : csB mX7_takesPlace 3 473 66 472 = true := by decide +kernel
theorem ci_X8_init : ciB mX8_init 0 108 67 107 = true := by decide +kernel
theorem cv_X8_dismiss : cvB mX8_dismiss 8 0 463 67 461 462 = true := by decide +kernel
theorem cv_X8_become : cvB mX8_become 8 1 666 67 664 665 = true := by decide +kernel
theorem cv_X8_seat : cvB mX8_seat 8 2 477 67 475 476 = true := by decide +kernel
theorem cv_X8_exchange : cvB mX8_exchange 8 2 673 67 671 672 = true := by decide +kernel
theorem ci_X9_init : ciB mX9_init 0 355 75 354 = true := by decide +kernel
theorem cv_X9_forgetAnswers : cvB mX9_forgetAnswers 9 0 491 75 489 490 = true := by decide +kernel
theorem cv_X9_firstFall : cvB mX9_firstFall 9 3 715 75 714 14 = true := by decide +kernel
theorem cv_X9_fewestToSpare : cvB mX9_fewestToSpare 9 2 709 75 707 708 = true := by decide +kernel
theorem cv_X9_chanceAbove : cvB mX9_chanceAbove 9 4 783 75 781 782 = true := by decide +kernel
theorem cs_X9_shareOf : csB mX9_shareOf 3 786 75 785 = true := by decide +kernel
theorem ci_X10_init : ciB mX10_init 0 85 65 84 = true := by decide +kernel
theorem cv_X10_type : cvB mX10_type 10 1 444 65 442 443 = true := by decide +kernel
theorem cv_X10_wipe : cvB mX10_wipe 10 0 495 65 493 494 = true := by decide +kernel
theorem cv_X10_undo : cvB mX10_undo 10 0 499 65 497 498 = true := by decide +kernel
theorem cv_X10_fault : cvB mX10_fault 10 0 503 65 501 502 = true := by decide +kernel
theorem cv_X10_acrobat : cvB mX10_acrobat 10 2 507 65 505 506 = true := by decide +kernel
theorem cv_X10_event : cvB mX10_event 10 3 511 65 509 510 = true := by decide +kernel
theorem cv_X10_back : cvB mX10_back 10 0 519 65 517 518 = true := by decide +kernel
theorem cv_X10_read : cvB mX10_read 10 1 523 65 521 522 = true := by decide +kernel
theorem cv_X10_at : cvB mX10_at 10 3 537 65 535 536 = true := by decide +kernel
theorem cv_X10_stands : cvB mX10_stands 10 2 615 65 613 614 = true := by decide +kernel
theorem cv_X10_tower : cvB mX10_tower 10 2 623 65 621 622 = true := by decide +kernel
theorem cv_X10_sum : cvB mX10_sum 10 1 633 65 631 632 = true := by decide +kernel
theorem cv_X10_top : cvB mX10_top 10 1 637 65 635 636 = true := by decide +kernel
theorem cv_X10_most : cvB mX10_most 10 1 642 65 640 641 = true := by decide +kernel
theorem cv_X10_clumsy : cvB mX10_clumsy 10 0 646 65 644 645 = true := by decide +kernel
theorem cv_X10_down : cvB mX10_down 10 0 650 65 648 649 = true := by decide +kernel
theorem cv_X10_swap : cvB mX10_swap 10 1 654 65 652 653 = true := by decide +kernel
theorem cv_X10_come : cvB mX10_come 10 2 688 65 686 687 = true := by decide +kernel
theorem cv_X10_train : cvB mX10_train 10 1 696 65 694 695 = true := by decide +kernel
theorem cv_X10_spare : cvB mX10_spare 10 1 705 65 703 704 = true := by decide +kernel
theorem cv_X10_seen : cvB mX10_seen 10 3 723 65 721 722 = true := by decide +kernel
theorem cv_X10_forget : cvB mX10_forget 10 0 731 65 729 730 = true := by decide +kernel
theorem cv_X10_never : cvB mX10_never 10 0 735 65 733 734 = true := by decide +kernel
theorem cv_X10_was : cvB mX10_was 10 2 750 65 748 749 = true := by decide +kernel
theorem cv_X10_ask : cvB mX10_ask 10 1 774 65 772 773 = true := by decide +kernel
theorem cv_X10_chance : cvB mX10_chance 10 3 778 65 776 777 = true := by decide +kernel
theorem cv_X10_years : cvB mX10_years 10 3 792 65 790 791 = true := by decide +kernel
theorem cv_X10_sheet : cvB mX10_sheet 10 3 805 65 803 804 = true := by decide +kernel
theorem cv_X10_lose : cvB mX10_lose 10 1 816 65 814 815 = true := by decide +kernel
theorem cv_X10_put : cvB mX10_put 10 4 820 65 818 819 = true := by decide +kernel
theorem cv_X10_get : cvB mX10_get 10 3 832 65 830 831 = true := by decide +kernel
theorem cv_X10_copy : cvB mX10_copy 10 5 837 65 835 836 = true := by decide +kernel
theorem cv_X10_write : cvB mX10_write 10 2 846 65 844 845 = true := by decide +kernel
theorem cv_X10_count : cvB mX10_count 10 1 852 65 850 851 = true := by decide +kernel
theorem cv_X10_digest : cvB mX10_digest 10 0 858 65 856 857 = true := by decide +kernel
theorem cv_X10_mixedWithAcrobat : cvB mX10_mixedWithAcrobat 10 2 869 65 868 17 = true := by decide +kernel
theorem cs_X10_mixed : csB mX10_mixed 2 863 65 862 = true := by decide +kernel
theorem cs_X10_isWithin : csB mX10_isWithin 2 447 65 446 = true := by decide +kernel
theorem cs_X10_hasBit : csB mX10_hasBit 2 561 65 560 = true := by decide +kernel
theorem cs_X10_height : csB mX10_height 1 627 65 626 = true := by decide +kernel
theorem cv_X10_finding : cvB mX10_finding 10 1 527 65 526 2 = true := by decide +kernel
theorem cv_X10_castAnew : cvB mX10_castAnew 10 0 455 65 454 0 = true := by decide +kernel
theorem cv_X10_forgetAnswers : cvB mX10_forgetAnswers 10 0 482 65 481 1 = true := by decide +kernel
theorem cv_X10_played : cvB mX10_played 10 0 541 65 540 3 = true := by decide +kernel
theorem ci_X11_init : ciB mX11_init 0 891 77 890 = true := by decide +kernel
theorem cs_X11_in : csB mX11_in 3 1063 77 1062 = true := by decide +kernel
theorem cs_X11_isIn : csB mX11_isIn 2 1163 77 1162 = true := by decide +kernel
theorem cs_X11_no : csB mX11_no 1 1351 77 1350 = true := by decide +kernel
theorem cs_X11_lowest : csB mX11_lowest 3 1348 77 1347 = true := by decide +kernel
theorem cs_X11_isMoment : csB mX11_isMoment 1 1090 77 1089 = true := by decide +kernel
theorem cs_X11_isTen : csB mX11_isTen 1 1093 77 1092 = true := by decide +kernel
theorem cs_X11_isTwo : csB mX11_isTwo 1 1205 77 1204 = true := by decide +kernel
theorem cs_X11_isThree : csB mX11_isThree 1 1120 77 1119 = true := by decide +kernel
theorem cv_X11_type : cvB mX11_type 11 1 1060 77 1058 1059 = true := by decide +kernel
theorem cv_X11_wipe : cvB mX11_wipe 11 0 1067 77 1065 1066 = true := by decide +kernel
theorem cv_X11_undo : cvB mX11_undo 11 0 1071 77 1069 1070 = true := by decide +kernel
theorem cv_X11_byteAt : cvB mX11_byteAt 11 1 1087 77 1086 20 = true := by decide +kernel
theorem cv_X11_isTaken : cvB mX11_isTaken 11 2 1097 77 1096 21 = true := by decide +kernel
theorem cv_X11_readsOne : cvB mX11_readsOne 11 2 1083 77 1082 19 = true := by decide +kernel
theorem cv_X11_faultOf : cvB mX11_faultOf 11 0 1079 77 1078 18 = true := by decide +kernel
theorem cv_X11_reads : cvB mX11_reads 11 0 1109 77 1108 23 = true := by decide +kernel
theorem cv_X11_fault : cvB mX11_fault 11 0 1075 77 1073 1074 = true := by decide +kernel
theorem cv_X11_isAcrobat : cvB mX11_isAcrobat 11 1 1105 77 1104 22 = true := by decide +kernel
theorem cv_X11_acrobatOf : cvB mX11_acrobatOf 11 2 1113 77 1112 24 = true := by decide +kernel
theorem cv_X11_acrobat : cvB mX11_acrobat 11 2 1101 77 1099 1100 = true := by decide +kernel
theorem cv_X11_event : cvB mX11_event 11 3 1117 77 1115 1116 = true := by decide +kernel
theorem cv_X11_back : cvB mX11_back 11 0 1124 77 1122 1123 = true := by decide +kernel
theorem cv_X11_read : cvB mX11_read 11 1 1128 77 1126 1127 = true := by decide +kernel
theorem cv_X11_asTold : cvB mX11_asTold 11 0 1152 77 1151 28 = true := by decide +kernel
theorem cs_X11_below : csB mX11_below 1 1174 77 1173 = true := by decide +kernel
theorem cv_X11_isUp : cvB mX11_isUp 11 1 1167 77 1166 31 = true := by decide +kernel
theorem cv_X11_allFall : cvB mX11_allFall 11 1 1171 77 1170 32 = true := by decide +kernel
theorem cv_X11_befalls : cvB mX11_befalls 11 1 1160 77 1159 30 = true := by decide +kernel
theorem cv_X11_lies : cvB mX11_lies 11 2 1182 77 1181 34 = true := by decide +kernel
theorem cv_X11_climbs : cvB mX11_climbs 11 1 1178 77 1177 33 = true := by decide +kernel
theorem cv_X11_bears : cvB mX11_bears 11 0 1186 77 1185 35 = true := by decide +kernel
theorem cv_X11_notes : cvB mX11_notes 11 1 1190 77 1189 36 = true := by decide +kernel
theorem cv_X11_runs : cvB mX11_runs 11 0 1156 77 1155 29 = true := by decide +kernel
theorem cv_X11_runsTold : cvB mX11_runsTold 11 0 1148 77 1147 27 = true := by decide +kernel
theorem cv_X11_atOf : cvB mX11_atOf 11 3 1144 77 1143 26 = true := by decide +kernel
theorem cv_X11_at : cvB mX11_at 11 3 1140 77 1138 1139 = true := by decide +kernel
theorem cv_X11_standsOf : cvB mX11_standsOf 11 2 1198 77 1197 37 = true := by decide +kernel
theorem cv_X11_stands : cvB mX11_stands 11 2 1194 77 1192 1193 = true := by decide +kernel
theorem cv_X11_towerOf : cvB mX11_towerOf 11 2 1209 77 1208 38 = true := by decide +kernel
theorem cv_X11_tower : cvB mX11_tower 11 2 1202 77 1200 1201 = true := by decide +kernel
theorem cv_X11_sumOf : cvB mX11_sumOf 11 1 1217 77 1216 39 = true := by decide +kernel
theorem cv_X11_sum : cvB mX11_sum 11 1 1213 77 1211 1212 = true := by decide +kernel
theorem cv_X11_topOf : cvB mX11_topOf 11 1 1225 77 1224 40 = true := by decide +kernel
theorem cv_X11_top : cvB mX11_top 11 1 1221 77 1219 1220 = true := by decide +kernel
theorem cv_X11_mostOf : cvB mX11_mostOf 11 1 1233 77 1232 41 = true := by decide +kernel
theorem cv_X11_most : cvB mX11_most 11 1 1229 77 1227 1228 = true := by decide +kernel
theorem cv_X11_clumsyOf : cvB mX11_clumsyOf 11 0 1241 77 1240 42 = true := by decide +kernel
theorem cv_X11_clumsy : cvB mX11_clumsy 11 0 1237 77 1235 1236 = true := by decide +kernel
theorem cv_X11_downOf : cvB mX11_downOf 11 0 1249 77 1248 43 = true := by decide +kernel
theorem cv_X11_down : cvB mX11_down 11 0 1245 77 1243 1244 = true := by decide +kernel
theorem cv_X11_starts : cvB mX11_starts 11 0 1261 77 1260 45 = true := by decide +kernel
theorem cv_X11_tries : cvB mX11_tries 11 1 1265 77 1264 46 = true := by decide +kernel
theorem cv_X11_swapOf : cvB mX11_swapOf 11 1 1257 77 1256 44 = true := by decide +kernel
theorem cv_X11_swap : cvB mX11_swap 11 1 1253 77 1251 1252 = true := by decide +kernel
theorem cv_X11_comeOf : cvB mX11_comeOf 11 2 1273 77 1272 47 = true := by decide +kernel
theorem cv_X11_come : cvB mX11_come 11 2 1269 77 1267 1268 = true := by decide +kernel
theorem cv_X11_trainOf : cvB mX11_trainOf 11 1 1281 77 1280 48 = true := by decide +kernel
theorem cv_X11_train : cvB mX11_train 11 1 1277 77 1275 1276 = true := by decide +kernel
theorem cv_X11_isSpared : cvB mX11_isSpared 11 1 1293 77 1292 50 = true := by decide +kernel
theorem cv_X11_spareBy : cvB mX11_spareBy 11 0 1289 77 1288 49 = true := by decide +kernel
theorem cv_X11_ofRow : cvB mX11_ofRow 11 2 1297 77 1296 51 = true := by decide +kernel
theorem cv_X11_spare : cvB mX11_spare 11 1 1285 77 1283 1284 = true := by decide +kernel
theorem cv_X11_seen : cvB mX11_seen 11 3 1301 77 1299 1300 = true := by decide +kernel
theorem cv_X11_forget : cvB mX11_forget 11 0 1305 77 1303 1304 = true := by decide +kernel
theorem cv_X11_isSeen : cvB mX11_isSeen 11 0 1317 77 1316 53 = true := by decide +kernel
theorem cv_X11_neverNow : cvB mX11_neverNow 11 0 1313 77 1312 52 = true := by decide +kernel
theorem cv_X11_never : cvB mX11_never 11 0 1309 77 1307 1308 = true := by decide +kernel
theorem cv_X11_strengthsBy : cvB mX11_strengthsBy 11 1 1325 77 1324 54 = true := by decide +kernel
theorem cv_X11_weightsBy : cvB mX11_weightsBy 11 1 1329 77 1328 55 = true := by decide +kernel
theorem cv_X11_was : cvB mX11_was 11 2 1321 77 1319 1320 = true := by decide +kernel
theorem cv_X11_askOf : cvB mX11_askOf 11 1 1337 77 1336 56 = true := by decide +kernel
theorem cv_X11_ask : cvB mX11_ask 11 1 1333 77 1331 1332 = true := by decide +kernel
theorem cv_X11_chanceOf : cvB mX11_chanceOf 11 3 1345 77 1344 57 = true := by decide +kernel
theorem cv_X11_chance : cvB mX11_chance 11 3 1341 77 1339 1340 = true := by decide +kernel
theorem cv_X11_yearsOf : cvB mX11_yearsOf 11 3 1360 77 1359 58 = true := by decide +kernel
theorem cv_X11_years : cvB mX11_years 11 3 1356 77 1354 1355 = true := by decide +kernel
theorem cv_X11_meets : cvB mX11_meets 11 1 1135 77 1134 25 = true := by decide +kernel
theorem cs_X11_isSheet : csB mX11_isSheet 1 1131 77 1130 = true := by decide +kernel
theorem cv_X11_sheet : cvB mX11_sheet 11 3 1365 77 1363 1364 = true := by decide +kernel
theorem cv_X11_lose : cvB mX11_lose 11 1 1369 77 1367 1368 = true := by decide +kernel
theorem cv_X11_lacks : cvB mX11_lacks 11 3 1377 77 1376 59 = true := by decide +kernel
theorem cv_X11_keep : cvB mX11_keep 11 3 1381 77 1380 60 = true := by decide +kernel
theorem cv_X11_put : cvB mX11_put 11 4 1373 77 1371 1372 = true := by decide +kernel
theorem cv_X11_get : cvB mX11_get 11 3 1385 77 1383 1384 = true := by decide +kernel
theorem cv_X11_copy : cvB mX11_copy 11 5 1390 77 1388 1389 = true := by decide +kernel
theorem cv_X11_write : cvB mX11_write 11 2 1394 77 1392 1393 = true := by decide +kernel
theorem cv_X11_acrobatsOf : cvB mX11_acrobatsOf 11 0 1402 77 1401 61 = true := by decide +kernel
theorem cv_X11_count : cvB mX11_count 11 1 1398 77 1396 1397 = true := by decide +kernel
theorem cv_X11_atDigest : cvB mX11_atDigest 11 3 1417 77 1416 63 = true := by decide +kernel
theorem cv_X11_acrobatDigest : cvB mX11_acrobatDigest 11 2 1413 77 1412 62 = true := by decide +kernel
theorem cv_X11_digest : cvB mX11_digest 11 0 1406 77 1404 1405 = true := by decide +kernel
theorem cs_J6_bitCount_0f7a4 : csB mJ6_bitCount_0f7a4 1 574 79 573 = true := by decide +kernel
theorem cs_J9_max_7cf53 : csB mJ9_max_7cf53 2 585 78 584 = true := by decide +kernel
theorem cs_J9_min_7cf53 : csB mJ9_min_7cf53 2 466 78 465 = true := by decide +kernel
theorem cs_J7_fill_53178 : csB mJ7_fill_53178 2 112 68 111 = true := by decide +kernel
end
section
/-! the cells behind both constructors: shapes and references stay, ints change -/
def S0L : List (Nat × Nat) := [(0, 10), (0, 7), (1, 59), (0, 8), (1, 10), (1, 10), (1, 10), (1, 10), (1, 10), (1, 10), (0, 1), (1, 8), (1, 8), (1, 8), (0, 6), (1, 8), (1, 8), (1, 8), (0, 5), (1, 24), (1, 10), (1, 10), (1, 10), (1, 10), (5, 24), (1, 40), (1, 40), (1, 40), (1, 40), (1, 40), (1, 40), (1, 40), (1, 40), (1, 40), (1, 40), (1, 40), (1, 40), (1, 40), (1, 40), (1, 40), (1, 40), (1, 40), (1, 40), (1, 40), (1, 40), (1, 40), (1, 40), (1, 40), (1, 40), (0, 3), (0, 8), (1, 10), (1, 10), (1, 10), (1, 10), (1, 10), (1, 10), (0, 5), (1, 24), (1, 10), (1, 10), (1, 10), (1, 10), (5, 0), (0, 0), (0, 0), (3, 10), (0, 0), (0, 0), (0, 0), (0, 0), (0, 0), (0, 0), (0, 0), (0, 0), (0, 0), (0, 0), (0, 2), (0, 8), (1, 10), (1, 10), (1, 10), (1, 10), (1, 10), (1, 10), (0, 5), (1, 24), (1, 10), (1, 10), (1, 10), (1, 10), (5, 0), (1, 10), (1, 10), (1, 10), (5, 10), (1, 24), (1, 24), (1, 24), (1, 24), (1, 24), (1, 24), (1, 24), (1, 24), (1, 24), (1, 24), (0, 9), (0, 5), (1, 24), (1, 10), (1, 10), (1, 10), (1, 10), (5, 0), (1, 256), (0, 0), (0, 1), (1, 8), (1, 8), (1, 8), (0, 5), (1, 24), (1, 10), (1, 10), (1, 10), (1, 10), (5, 0), (4, 4), (0, 4), (1, 60), (0, 4), (1, 60), (0, 4), (1, 60), (0, 4), (1, 60), (0, 11), (1, 59), (1, 11), (1, 11), (1, 11), (1, 11), (1, 11), (1, 8), (1, 8), (1, 8), (1, 8), (1, 8), (1, 8), (1, 10), (1, 10), (1, 10), (1, 10), (1, 10), (1, 10), (1, 24), (1, 24), (1, 240), (1, 240), (1, 240), (1, 240), (1, 240), (1, 2), (1, 8), (1, 8), (1, 8), (1, 240), (2, 4), (1, 4), (1, 4), (1, 240), (1, 60)]
def S0 (k : Nat) : Nat × Nat := S0L.getD k (0, 99)
def R0L : List (List (Option Nat)) := [[some 1, some 3, some 10, some 14, some 18, some 49, some 77, some 106, some 116, some 120, some 127], [some 2], [], [some 4, some 5, some 6, some 7, some 8, some 9], [], [], [], [], [], [], [some 11, some 12, some 13], [], [], [], [some 15, some 16, some 17], [], [], [], [some 19, some 24, some 20, some 21, some 22, some 23], [], [], [], [], [], [some 25, some 26, some 27, some 28, some 29, some 30, some 31, some 32, some 33, some 34, some 35, some 36, some 37, some 38, some 39, some 40, some 41, some 42, some 43, some 44, some 45, some 46, some 47, some 48], [], [], [], [], [], [], [], [], [], [], [], [], [], [], [], [], [], [], [], [], [], [], [], [], [some 50, some 57, some 64, some 65, some 66], [some 51, some 52, some 53, some 54, some 55, some 56], [], [], [], [], [], [], [some 58, some 63, some 59, some 60, some 61, some 62], [], [], [], [], [], [], [], [], [some 67, some 68, some 69, some 70, some 71, some 72, some 73, some 74, some 75, some 76], [], [], [], [], [], [], [], [], [], [], [some 78, some 85, some 92, some 93, some 94, some 95], [some 79, some 80, some 81, some 82, some 83, some 84], [], [], [], [], [], [], [some 86, some 91, some 87, some 88, some 89, some 90], [], [], [], [], [], [], [], [], [], [some 96, some 97, some 98, some 99, some 100, some 101, some 102, some 103, some 104, some 105], [], [], [], [], [], [], [], [], [], [], [some 107, some 114, some 115], [some 108, some 113, some 109, some 110, some 111, some 112], [], [], [], [], [], [], [], [], [some 117, some 118, some 119], [], [], [], [some 121, some 126, some 122, some 123, some 124, some 125], [], [], [], [], [], [], [some 128, some 130, some 132, some 134], [some 129], [], [some 131], [], [some 133], [], [some 135], [], [none, some 137, none, some 138, some 139, some 140, some 141, some 142, none, some 143, some 144, some 145, none, some 146, some 147, some 148, none, none, none, none, none, none, none, none, none, none, none, some 149, some 150, some 151, some 152, some 153, some 154, some 155, some 156, some 157, some 158, some 159, some 160, some 161, none, none, some 162, none, some 163, some 164, some 165, some 166, some 167, some 168, some 169, some 170, some 171], [], [], [], [], [], [], [], [], [], [], [], [], [], [], [], [], [], [], [], [], [], [], [], [], [], [], [], [], [], [], [], [], [], [], []]
def R0 (k j : Nat) : Option Nat := (R0L.getD k []).getD j none
abbrev hs (σ : Nat → Nat → Int32) : Hp := (172, 4705, S0, R0, σ)
def pV (P : (Nat → Nat → Int32) → Prop) : Option Value → Hp → Prop := fun rv h' => ∃ σ', rv = none ∧ h' = hs σ' ∧ P σ'
def pI (P : Int32 → (Nat → Nat → Int32) → Prop) : Option Value → Hp → Prop := fun rv h' => ∃ r σ', rv = some (.int r) ∧ h' = hs σ' ∧ P r σ'
def pJ (P : Int64 → (Nat → Nat → Int32) → Prop) : Option Value → Hp → Prop := fun rv h' => ∃ r σ', rv = some (.long r) ∧ h' = hs σ' ∧ P r σ'
def pR (P : Nat → (Nat → Nat → Int32) → Prop) : Option Value → Hp → Prop := fun rv h' => ∃ r σ', rv = some (.ref r) ∧ h' = hs σ' ∧ P r σ'
def CvA (scr : ScA) (d : Nat) (M : MD) (as : List Value) (σ : Nat → Nat → Int32) (P : (Nat → Nat → Int32) → Prop) : Prop := CtA scr d M as (hs σ) 0 0 (pV P)
def CiA (scr : ScA) (d : Nat) (M : MD) (as : List Value) (σ : Nat → Nat → Int32) (P : Int32 → (Nat → Nat → Int32) → Prop) : Prop := CtA scr d M as (hs σ) 0 0 (pI P)
def ClA (scr : ScA) (d : Nat) (M : MD) (as : List Value) (σ : Nat → Nat → Int32) (P : Int64 → (Nat → Nat → Int32) → Prop) : Prop := CtA scr d M as (hs σ) 0 0 (pJ P)
def CrA (scr : ScA) (d : Nat) (M : MD) (as : List Value) (σ : Nat → Nat → Int32) (P : Nat → (Nat → Nat → Int32) → Prop) : Prop := CtA scr d M as (hs σ) 0 0 (pR P)
theorem QxA.weak {D : va_G} {cy : Nat → ClassId} {tb : Nat → Nat} {z : Nat} {p q : Option Value → Hp → Prop} (h : ∀ r h, p r h → q r h) : ∀ a st oc t, QxA D cy tb z p a st oc t → QxA D cy tb z q a st oc t := fun a st oc t ⟨⟨r, h', g1, g2⟩, g3⟩ => ⟨⟨r, h', h r h' g1, g2⟩, g3⟩
theorem CtA.weak {scr : ScA} {d : Nat} {M : MD} {as : List Value} {h : Hp} {mc ms : Nat} {p q : Option Value → Hp → Prop} (hC : CtA scr d M as h mc ms p) (hpq : ∀ r h, p r h → q r h) : CtA scr d M as h mc ms q := fun l D cy tb z => MetFree.mono (hC l D cy tb z) (fun _ _ h => h) (fun _ _ _ _ _ h => h) (fun a st oc t _ hq => ⟨QxA.weak hpq a st oc t hq.1, hq.2⟩)
theorem CvA.weak {scr : ScA} {d : Nat} {M : MD} {as : List Value} {σ : Nat → Nat → Int32} {P Q : (Nat → Nat → Int32) → Prop} (h : CvA scr d M as σ P) (hpq : ∀ σ', P σ' → Q σ') : CvA scr d M as σ Q := CtA.weak h (fun r h' ⟨s9, g1, g2, g3⟩ => ⟨s9, g1, g2, hpq s9 g3⟩)
theorem CiA.weak {scr : ScA} {d : Nat} {M : MD} {as : List Value} {σ : Nat → Nat → Int32} {P Q : Int32 → (Nat → Nat → Int32) → Prop} (h : CiA scr d M as σ P) (hpq : ∀ r σ', P r σ' → Q r σ') : CiA scr d M as σ Q := CtA.weak h (fun r h' ⟨r9, s9, g1, g2, g3⟩ => ⟨r9, s9, g1, g2, hpq r9 s9 g3⟩)
theorem ClA.weak {scr : ScA} {d : Nat} {M : MD} {as : List Value} {σ : Nat → Nat → Int32} {P Q : Int64 → (Nat → Nat → Int32) → Prop} (h : ClA scr d M as σ P) (hpq : ∀ r σ', P r σ' → Q r σ') : ClA scr d M as σ Q := CtA.weak h (fun r h' ⟨r9, s9, g1, g2, g3⟩ => ⟨r9, s9, g1, g2, hpq r9 s9 g3⟩)
theorem CrA.weak {scr : ScA} {d : Nat} {M : MD} {as : List Value} {σ : Nat → Nat → Int32} {P Q : Nat → (Nat → Nat → Int32) → Prop} (h : CrA scr d M as σ P) (hpq : ∀ r σ', P r σ' → Q r σ') : CrA scr d M as σ Q := CtA.weak h (fun r h' ⟨r9, s9, g1, g2, g3⟩ => ⟨r9, s9, g1, g2, hpq r9 s9 g3⟩)
def CpI (scr : ScA) (d : Nat) (M : MD) (as : List Value) (σ : Nat → Nat → Int32) (e : Int32) : Prop := CtA scr d M as (hs σ) 0 0 (fun rv h' => rv = some (.int e) ∧ h' = hs σ)
def CpJ (scr : ScA) (d : Nat) (M : MD) (as : List Value) (σ : Nat → Nat → Int32) (e : Int64) : Prop := CtA scr d M as (hs σ) 0 0 (fun rv h' => rv = some (.long e) ∧ h' = hs σ)
theorem CpI.of {scr : ScA} {d : Nat} {M : MD} {as : List Value} {σ : Nat → Nat → Int32} {e : Int32} (h : CiA scr d M as σ (fun r σ' => r = e ∧ σ' = σ)) : CpI scr d M as σ e := CtA.weak h (fun rv h' ⟨r9, s9, g1, g2, g3, g4⟩ => ⟨by rw [g1, g3], by rw [g2, g4]⟩)
theorem CpJ.of {scr : ScA} {d : Nat} {M : MD} {as : List Value} {σ : Nat → Nat → Int32} {e : Int64} (h : ClA scr d M as σ (fun r σ' => r = e ∧ σ' = σ)) : CpJ scr d M as σ e := CtA.weak h (fun rv h' ⟨r9, s9, g1, g2, g3, g4⟩ => ⟨by rw [g1, g3], by rw [g2, g4]⟩)
theorem CpI.use {scr : ScA} {d : Nat} {M : MD} {as : List Value} {σ : Nat → Nat → Int32} {e : Int32} (h : CpI scr d M as σ e) : CiA scr d M as σ (fun r σ' => r = e ∧ σ' = σ) := CtA.weak h (fun rv h' ⟨g1, g2⟩ => ⟨e, σ, g1, g2, rfl, rfl⟩)
/-- locals that are not read any more may be forgotten -/
def leL : LsA → LsA → Prop
  | [], _ => True
  | none :: a, [] => leL a []
  | none :: a, _ :: b => leL a b
  | some v :: a, x :: b => x = some v ∧ leL a b
  | some _ :: _, [] => False
theorem leL_get : ∀ (a b : LsA), leL a b → ∀ (i : Nat) (v : Value), a.getD i none = some v → b.getD i none = some v
  | [], b, _, i, v, h => by simp at h
  | none :: a, [], hl, i, v, h => by
    cases i with
    | zero => simp at h
    | succ i =>
      have := leL_get a [] hl i v (by simpa using h)
      simp at this
  | none :: a, x :: b, hl, i, v, h => by
    cases i with
    | zero => simp at h
    | succ i => simpa using leL_get a b hl i v (by simpa using h)
  | some w :: a, x :: b, hl, i, v, h => by
    obtain ⟨rfl, hl⟩ := hl
    cases i with
    | zero => simpa using h
    | succ i => simpa using leL_get a b hl i v (by simpa using h)
  | some w :: a, [], hl, i, v, h => hl.elim
theorem XA.drop {scr : ScA} {d : Nat} {M : MD} {N1 W1 pc : Nat} {ls ls' : LsA} {st : List Value} {h : Hp} {post : Option Value → Hp → Prop} (hl : leL ls ls') (hX : XA scr d M N1 W1 pc ls st h post) : XA scr d M N1 W1 pc ls' st h post := by
  intro D cy tb z p l e R s m args below meth c n0 w0 mc ms Qf E e1 e2 hR H locs A hP hS hL hn hw
  exact hX D cy tb z p l e R s m args below meth c n0 w0 mc ms Qf E e1 e2 hR H locs A hP hS ⟨hL.1, hL.2.1, fun i v hi => hL.2.2 i v (leL_get ls ls' hl i v hi)⟩ hn hw
theorem inB_nat {i : Int32} {n : Nat} (h : inB i n = true) : 0 ≤ i.toInt ∧ i.toNatClampNeg < n ∧ i.toInt = (i.toNatClampNeg : Int) := by
  have hv := inB_iff.mp h
  unfold vp_in at hv
  have h0 : ¬ i < 0 := fun q => hv (Or.inl q)
  have h1 : i.toNatClampNeg < n := Nat.not_le.mp fun q => hv (Or.inr q)
  have h2 : 0 ≤ i.toInt := by
    have := Int32.not_lt.mp h0
    simpa using Int32.le_iff_toInt_le.mp this
  refine ⟨h2, h1, ?_⟩
  show i.toInt = ((i.toInt.toNat : Nat) : Int)
  omega
def isSw (k : Nat) : Prop := k = 18 ∨ k = 57 ∨ k = 85 ∨ k = 107 ∨ k = 120
theorem swO {k : Nat} (h : isSw k) : kO 172 S0 k 5 = true := by rcases h with rfl | rfl | rfl | rfl | rfl <;> rfl
theorem swR0 {k : Nat} (h : isSw k) : kR R0 k 0 (k + 1) = true := by rcases h with rfl | rfl | rfl | rfl | rfl <;> rfl
theorem swA1 {k : Nat} (h : isSw k) (i : Int32) : kA 172 S0 (k + 1) 1 i = inB i 24 := by rcases h with rfl | rfl | rfl | rfl | rfl <;> rfl
theorem swR1 {k : Nat} (h : isSw k) : kR R0 k 1 (k + 6) = true := by rcases h with rfl | rfl | rfl | rfl | rfl <;> rfl
theorem swR2 {k : Nat} (h : isSw k) : kR R0 k 2 (k + 2) = true := by rcases h with rfl | rfl | rfl | rfl | rfl <;> rfl
theorem swA2 {k : Nat} (h : isSw k) (i : Int32) : kA 172 S0 (k + 2) 1 i = inB i 10 := by rcases h with rfl | rfl | rfl | rfl | rfl <;> rfl
theorem swR3 {k : Nat} (h : isSw k) : kR R0 k 3 (k + 3) = true := by rcases h with rfl | rfl | rfl | rfl | rfl <;> rfl
theorem swA3 {k : Nat} (h : isSw k) (i : Int32) : kA 172 S0 (k + 3) 1 i = inB i 10 := by rcases h with rfl | rfl | rfl | rfl | rfl <;> rfl
theorem swR4 {k : Nat} (h : isSw k) : kR R0 k 4 (k + 4) = true := by rcases h with rfl | rfl | rfl | rfl | rfl <;> rfl
theorem swA4 {k : Nat} (h : isSw k) (i : Int32) : kA 172 S0 (k + 4) 1 i = inB i 10 := by rcases h with rfl | rfl | rfl | rfl | rfl <;> rfl
theorem swR5 {k : Nat} (h : isSw k) : kR R0 k 5 (k + 5) = true := by rcases h with rfl | rfl | rfl | rfl | rfl <;> rfl
theorem swA5 {k : Nat} (h : isSw k) (i : Int32) : kA 172 S0 (k + 5) 1 i = inB i 10 := by rcases h with rfl | rfl | rfl | rfl | rfl <;> rfl
def isTr (k : Nat) : Prop := k = 3 ∨ k = 50 ∨ k = 78
theorem trO {k : Nat} (h : isTr k) : kO 172 S0 k 8 = true := by rcases h with rfl | rfl | rfl <;> rfl
theorem trR0 {k : Nat} (h : isTr k) : kR R0 k 0 (k + 1) = true := by rcases h with rfl | rfl | rfl <;> rfl
theorem trA1 {k : Nat} (h : isTr k) (i : Int32) : kA 172 S0 (k + 1) 1 i = inB i 10 := by rcases h with rfl | rfl | rfl <;> rfl
theorem trR1 {k : Nat} (h : isTr k) : kR R0 k 1 (k + 2) = true := by rcases h with rfl | rfl | rfl <;> rfl
theorem trA2 {k : Nat} (h : isTr k) (i : Int32) : kA 172 S0 (k + 2) 1 i = inB i 10 := by rcases h with rfl | rfl | rfl <;> rfl
theorem trR2 {k : Nat} (h : isTr k) : kR R0 k 2 (k + 3) = true := by rcases h with rfl | rfl | rfl <;> rfl
theorem trA3 {k : Nat} (h : isTr k) (i : Int32) : kA 172 S0 (k + 3) 1 i = inB i 10 := by rcases h with rfl | rfl | rfl <;> rfl
theorem trR3 {k : Nat} (h : isTr k) : kR R0 k 3 (k + 4) = true := by rcases h with rfl | rfl | rfl <;> rfl
theorem trA4 {k : Nat} (h : isTr k) (i : Int32) : kA 172 S0 (k + 4) 1 i = inB i 10 := by rcases h with rfl | rfl | rfl <;> rfl
theorem trR4 {k : Nat} (h : isTr k) : kR R0 k 4 (k + 5) = true := by rcases h with rfl | rfl | rfl <;> rfl
theorem trA5 {k : Nat} (h : isTr k) (i : Int32) : kA 172 S0 (k + 5) 1 i = inB i 10 := by rcases h with rfl | rfl | rfl <;> rfl
theorem trR5 {k : Nat} (h : isTr k) : kR R0 k 5 (k + 6) = true := by rcases h with rfl | rfl | rfl <;> rfl
theorem trA6 {k : Nat} (h : isTr k) (i : Int32) : kA 172 S0 (k + 6) 1 i = inB i 10 := by rcases h with rfl | rfl | rfl <;> rfl
def isEv (k : Nat) : Prop := k = 10 ∨ k = 116
theorem evO {k : Nat} (h : isEv k) : kO 172 S0 k 1 = true := by rcases h with rfl | rfl <;> rfl
theorem evR0 {k : Nat} (h : isEv k) : kR R0 k 0 (k + 1) = true := by rcases h with rfl | rfl <;> rfl
theorem evA1 {k : Nat} (h : isEv k) (i : Int32) : kA 172 S0 (k + 1) 1 i = inB i 8 := by rcases h with rfl | rfl <;> rfl
theorem evR1 {k : Nat} (h : isEv k) : kR R0 k 1 (k + 2) = true := by rcases h with rfl | rfl <;> rfl
theorem evA2 {k : Nat} (h : isEv k) (i : Int32) : kA 172 S0 (k + 2) 1 i = inB i 8 := by rcases h with rfl | rfl <;> rfl
theorem evR2 {k : Nat} (h : isEv k) : kR R0 k 2 (k + 3) = true := by rcases h with rfl | rfl <;> rfl
theorem evA3 {k : Nat} (h : isEv k) (i : Int32) : kA 172 S0 (k + 3) 1 i = inB i 8 := by rcases h with rfl | rfl <;> rfl
def isSe (k : Nat) : Prop := k = 128 ∨ k = 130 ∨ k = 132 ∨ k = 134
theorem seO {k : Nat} (h : isSe k) : kO 172 S0 k 4 = true := by rcases h with rfl | rfl | rfl | rfl <;> rfl
theorem seR0 {k : Nat} (h : isSe k) : kR R0 k 0 (k + 1) = true := by rcases h with rfl | rfl | rfl | rfl <;> rfl
theorem seA1 {k : Nat} (h : isSe k) (i : Int32) : kA 172 S0 (k + 1) 1 i = inB i 60 := by rcases h with rfl | rfl | rfl | rfl <;> rfl
theorem swL6 {k : Nat} (h : isSw k) : decide (k + 6 < 172 ∧ 1 ≤ (S0 (k + 6)).1 ∧ (S0 (k + 6)).1 ≤ 5) = true := by rcases h with rfl | rfl | rfl | rfl | rfl <;> rfl
def isAr (a n : Nat) : Prop := a < 172 ∧ S0 a = (1, n)
theorem arA {a n : Nat} (h : isAr a n) (i : Int32) : kA 172 S0 a 1 i = inB i n := by unfold kA; rw [h.2, decide_eq_true ⟨h.1, rfl⟩, Bool.true_and]
theorem arL0 {a n : Nat} (h : isAr a n) : decide (a < 172 ∧ 1 ≤ (S0 a).1 ∧ (S0 a).1 ≤ 5) = true := by rw [h.2]; exact decide_eq_true ⟨h.1, by omega, by omega⟩
def isBe (k : Nat) : Prop := kO 172 S0 k 0 = true
theorem beO {k : Nat} (h : isBe k) : kO 172 S0 k 0 = true := h
theorem beH {i : Int32} (h : inB i 10 = true) : isBe (66 + 1 + 1 * i.toNatClampNeg) := (by decide : ∀ j, j < 10 → kO 172 S0 (66 + 1 + 1 * j) 0 = true) _ (inB_nat h).2.1
theorem beK {i : Int32} (h : inB i 10 = true) : kR R0 66 i.toNatClampNeg (66 + 1 + 1 * i.toNatClampNeg) = true := (by decide : ∀ j, j < 10 → kR R0 66 j (66 + 1 + 1 * j) = true) _ (inB_nat h).2.1
theorem seH {i : Int32} (h : inB i 4 = true) : isSe (127 + 1 + 2 * i.toNatClampNeg) := by have := (inB_nat h).2.1; unfold isSe; omega
theorem seK {i : Int32} (h : inB i 4 = true) : kR R0 127 i.toNatClampNeg (127 + 1 + 2 * i.toNatClampNeg) = true := (by decide : ∀ j, j < 4 → kR R0 127 j (127 + 1 + 2 * j) = true) _ (inB_nat h).2.1
theorem dyH {i : Int32} (h : inB i 24 = true) : inB i 24 = true := h
theorem dyK {i : Int32} (h : inB i 24 = true) : kR R0 24 i.toNatClampNeg (24 + 1 + 1 * i.toNatClampNeg) = true := (by decide : ∀ j, j < 24 → kR R0 24 j (24 + 1 + 1 * j) = true) _ (inB_nat h).2.1
theorem dyA {i : Int32} (h : inB i 24 = true) (x : Int32) : kA 172 S0 (24 + 1 + 1 * i.toNatClampNeg) 1 x = inB x 40 := by
  have e : ∀ j, j < 24 → 24 + 1 + 1 * j < 172 ∧ S0 (24 + 1 + 1 * j) = (1, 40) := by decide
  obtain ⟨e1, e2⟩ := e _ (inB_nat h).2.1
  unfold kA
  rw [e2, decide_eq_true ⟨e1, rfl⟩, Bool.true_and]
theorem tkH {i : Int32} (h : inB i 10 = true) : inB i 10 = true := h
theorem tkK {i : Int32} (h : inB i 10 = true) : kR R0 95 i.toNatClampNeg (95 + 1 + 1 * i.toNatClampNeg) = true := (by decide : ∀ j, j < 10 → kR R0 95 j (95 + 1 + 1 * j) = true) _ (inB_nat h).2.1
theorem tkA {i : Int32} (h : inB i 10 = true) (x : Int32) : kA 172 S0 (95 + 1 + 1 * i.toNatClampNeg) 1 x = inB x 24 := by
  have e : ∀ j, j < 10 → 95 + 1 + 1 * j < 172 ∧ S0 (95 + 1 + 1 * j) = (1, 24) := by decide
  obtain ⟨e1, e2⟩ := e _ (inB_nat h).2.1
  unfold kA
  rw [e2, decide_eq_true ⟨e1, rfl⟩, Bool.true_and]
end
section
def K_X10_isWithin_0 (scr : ScA)  (x0 : Int32) (x1 : Int32) (σ : Nat → Nat → Int32) (P : Int32 → (Nat → Nat → Int32) → Prop) : Prop := XA scr 0 mX10_isWithin 172 4705 0 [some (.int x0), some (.int x1)] [] (hs σ) (pI P)
set_option maxRecDepth 20000 in
theorem W_X10_isWithin_0 {scr : ScA}   {x0 : Int32} {x1 : Int32} {σ : Nat → Nat → Int32} {P : Int32 → (Nat → Nat → Int32) → Prop} (H : ((if x0 < 0 then 0 else if x1 ≤ x0 then 0 else 1 : Int32) = 0 ∨ (if x0 < 0 then 0 else if x1 ≤ x0 then 0 else 1 : Int32) = 1) ∧ P (if x0 < 0 then 0 else if x1 ≤ x0 then 0 else 1) σ) : K_X10_isWithin_0 scr x0 x1 σ P := by
  show XA scr 0 mX10_isWithin 172 4705 0 [some (.int x0), some (.int x1)] [] (hs σ) (pI P)
  refine XA.blk (e9 := 1) (ok := true) (ls' := [some (.int x0), some (.int x1)]) (st' := [.int x0]) (h' := hs σ) [(.iload_n 0, 1, 0, 0, 0, 0, 0, 0)] (by decide +kernel) rfl rfl ?_
  have hJ1 : XA scr 0 mX10_isWithin 172 4705 14 [none, none] [.int (if x0 < 0 then 0 else if x1 ≤ x0 then 0 else 1)] (hs σ) (pI P) := by
    exact XA.ret (some (.int (if x0 < 0 then 0 else if x1 ≤ x0 then 0 else 1))) rfl (show ckRt mX10_isWithin 14 .ireturn = true by decide +kernel) H.1 (Nat.le_of_ble_eq_true rfl) (Nat.le_of_ble_eq_true rfl) ⟨_, _, rfl, rfl, H.2⟩
  refine XA.if_lt (12) 13 (by decide +kernel) (fun c1 => ?_) (fun c1 => ?_)
  · refine XA.blk (e9 := 14) (ok := true) (ls' := [some (.int x0), some (.int x1)]) (st' := [.int 0]) (h' := hs σ) [(.iconst 0, 1, 0, 0, 0, 0, 0, 0)] (by decide +kernel) rfl rfl ?_
    refine XA.drop (ls := [none, none]) (by simp [leL]) ?_
    simpa only [if_pos c1] using hJ1
  · refine XA.blk (e9 := 6) (ok := true) (ls' := [some (.int x0), some (.int x1)]) (st' := [.int x1, .int x0]) (h' := hs σ) [(.iload_n 0, 1, 0, 0, 0, 0, 0, 0), (.iload_n 1, 1, 1, 0, 0, 0, 0, 0)] (by decide +kernel) rfl rfl ?_
    have hJ6 : XA scr 0 mX10_isWithin 172 4705 14 [none, none] [.int (if x1 ≤ x0 then 0 else 1)] (hs σ) (pI P) := by
      simpa only [if_neg c1] using hJ1
    refine XA.icmp_ge (7) 13 (by decide +kernel) (fun c2 => ?_) (fun c2 => ?_)
    · refine XA.blk (e9 := 14) (ok := true) (ls' := [some (.int x0), some (.int x1)]) (st' := [.int 0]) (h' := hs σ) [(.iconst 0, 1, 0, 0, 0, 0, 0, 0)] (by decide +kernel) rfl rfl ?_
      refine XA.drop (ls := [none, none]) (by simp [leL]) ?_
      simpa only [if_pos c2] using hJ6
    · refine XA.blk (e9 := 14) (ok := true) (ls' := [some (.int x0), some (.int x1)]) (st' := [.int 1]) (h' := hs σ) [(.iconst 1, 1, 0, 0, 0, 0, 1, 0), (.goto 4, 3, 14, 0, 0, 0, 0, 0)] (by decide +kernel) rfl rfl ?_
      refine XA.drop (ls := [none, none]) (by simp [leL]) ?_
      simpa only [if_neg c2] using hJ6
theorem E_X10_isWithin {scr : ScA}  {x0 : Int32} {x1 : Int32} {σ : Nat → Nat → Int32} {P : Int32 → (Nat → Nat → Int32) → Prop} (h : K_X10_isWithin_0 scr x0 x1 σ P) : CiA scr 0 mX10_isWithin [.int x0, .int x1] σ P := CtA.of (by decide) (Nat.le_of_ble_eq_true rfl) (XA.drop (by simp [leL, enL]) h)
def K_X10_hasBit_0 (scr : ScA)  (x0 : Int32) (x1 : Int32) (σ : Nat → Nat → Int32) (P : Int32 → (Nat → Nat → Int32) → Prop) : Prop := XA scr 0 mX10_hasBit 172 4705 0 [some (.int x0), some (.int x1)] [] (hs σ) (pI P)
set_option maxRecDepth 20000 in
theorem W_X10_hasBit_0 {scr : ScA}   {x0 : Int32} {x1 : Int32} {σ : Nat → Nat → Int32} {P : Int32 → (Nat → Nat → Int32) → Prop} (H : ((if ((x0 >>> (x1 &&& 31)) &&& 1) = 0 then 0 else 1 : Int32) = 0 ∨ (if ((x0 >>> (x1 &&& 31)) &&& 1) = 0 then 0 else 1 : Int32) = 1) ∧ P (if ((x0 >>> (x1 &&& 31)) &&& 1) = 0 then 0 else 1) σ) : K_X10_hasBit_0 scr x0 x1 σ P := by
  show XA scr 0 mX10_hasBit 172 4705 0 [some (.int x0), some (.int x1)] [] (hs σ) (pI P)
  refine XA.blk (e9 := 5) (ok := true) (ls' := [some (.int x0), some (.int x1)]) (st' := [.int ((x0 >>> (x1 &&& 31)) &&& 1)]) (h' := hs σ) [(.iload_n 0, 1, 0, 0, 0, 0, 0, 0), (.iload_n 1, 1, 1, 0, 0, 0, 0, 0), (.ishr, 1, 0, 0, 0, 0, 0, 0), (.iconst 1, 1, 0, 0, 0, 0, 1, 0), (.iand, 1, 0, 0, 0, 0, 0, 0)] (by decide +kernel) rfl rfl ?_
  have hJ5 : XA scr 0 mX10_hasBit 172 4705 13 [none, none] [.int (if ((x0 >>> (x1 &&& 31)) &&& 1) = 0 then 0 else 1)] (hs σ) (pI P) := by
    exact XA.ret (some (.int (if ((x0 >>> (x1 &&& 31)) &&& 1) = 0 then 0 else 1))) rfl (show ckRt mX10_hasBit 13 .ireturn = true by decide +kernel) H.1 (Nat.le_of_ble_eq_true rfl) (Nat.le_of_ble_eq_true rfl) ⟨_, _, rfl, rfl, H.2⟩
  refine XA.if_eq (7) 12 (by decide +kernel) (fun c1 => ?_) (fun c1 => ?_)
  · refine XA.blk (e9 := 13) (ok := true) (ls' := [some (.int x0), some (.int x1)]) (st' := [.int 0]) (h' := hs σ) [(.iconst 0, 1, 0, 0, 0, 0, 0, 0)] (by decide +kernel) rfl rfl ?_
    refine XA.drop (ls := [none, none]) (by simp [leL]) ?_
    simpa only [if_pos c1] using hJ5
  · refine XA.blk (e9 := 13) (ok := true) (ls' := [some (.int x0), some (.int x1)]) (st' := [.int 1]) (h' := hs σ) [(.iconst 1, 1, 0, 0, 0, 0, 1, 0), (.goto 4, 3, 13, 0, 0, 0, 0, 0)] (by decide +kernel) rfl rfl ?_
    refine XA.drop (ls := [none, none]) (by simp [leL]) ?_
    simpa only [if_neg c1] using hJ5
theorem E_X10_hasBit {scr : ScA}  {x0 : Int32} {x1 : Int32} {σ : Nat → Nat → Int32} {P : Int32 → (Nat → Nat → Int32) → Prop} (h : K_X10_hasBit_0 scr x0 x1 σ P) : CiA scr 0 mX10_hasBit [.int x0, .int x1] σ P := CtA.of (by decide) (Nat.le_of_ble_eq_true rfl) (XA.drop (by simp [leL, enL]) h)
def K_X10_height_0 (scr : ScA)  (x0 : Int32) (σ : Nat → Nat → Int32) (P : Int32 → (Nat → Nat → Int32) → Prop) : Prop := XA scr 0 mX10_height 172 4705 0 [some (.int x0), none, none, none, none, none] [] (hs σ) (pI P)
def K_X10_height_12 (scr : ScA)  (x0 : Int32) (x1 : Int32) (x3 : Int32) (x4 : Int32) (σ : Nat → Nat → Int32) (P : Int32 → (Nat → Nat → Int32) → Prop) : Prop := XA scr 0 mX10_height 172 4705 12 [some (.int x0), some (.int x1), some (.retAddr 2), some (.int x3), some (.int x4), none] [] (hs σ) (pI P)
set_option maxRecDepth 20000 in
theorem W_X10_height_0 {scr : ScA}   {x0 : Int32} {σ : Nat → Nat → Int32} {P : Int32 → (Nat → Nat → Int32) → Prop} (H : K_X10_height_12 scr x0 0 4 0 σ P) : K_X10_height_0 scr x0 σ P := by
  show XA scr 0 mX10_height 172 4705 0 [some (.int x0), none, none, none, none, none] [] (hs σ) (pI P)
  refine XA.blk (e9 := 12) (ok := true) (ls' := [some (.int x0), some (.int 0), some (.retAddr 2), some (.int 4), some (.int 0), none]) (st' := []) (h' := hs σ) [(.iconst 0, 1, 0, 0, 0, 0, 0, 0), (.istore_n 1, 1, 1, 0, 0, 0, 0, 0), (.getstatic 356, 3, 2, 0, 0, 628, 0, 0), (.astore_n 2, 1, 2, 0, 0, 0, 0, 0), (.aload_n 2, 1, 2, 0, 0, 0, 0, 0), (.arraylength, 1, 0, 0, 0, 0, 0, 0), (.istore_n 3, 1, 3, 0, 0, 0, 0, 0), (.iconst 0, 1, 0, 0, 0, 0, 0, 0), (.istore 4, 2, 4, 0, 0, 0, 0, 0)] (by decide +kernel) rfl rfl ?_
  exact H
set_option maxRecDepth 20000 in
theorem W_X10_height_12 {scr : ScA}   {x0 : Int32} {x1 : Int32} {x3 : Int32} {x4 : Int32} {σ : Nat → Nat → Int32} {P : Int32 → (Nat → Nat → Int32) → Prop} (H : (x3 ≤ x4 → P x1 σ) ∧ (¬ x3 ≤ x4 → (inB x4 4 = true) ∧ (K_X10_height_12 scr x0 (if (x0 &&& (tbV scr 2 (Int32.toNatClampNeg x4))) = 0 then x1 else x1 + 1) x3 (x4 + 1) σ P))) : K_X10_height_12 scr x0 x1 x3 x4 σ P := by
  show XA scr 0 mX10_height 172 4705 12 [some (.int x0), some (.int x1), some (.retAddr 2), some (.int x3), some (.int x4), none] [] (hs σ) (pI P)
  refine XA.blk (e9 := 15) (ok := true) (ls' := [some (.int x0), some (.int x1), some (.retAddr 2), some (.int x3), some (.int x4), none]) (st' := [.int x3, .int x4]) (h' := hs σ) [(.iload 4, 2, 4, 0, 0, 0, 0, 0), (.iload_n 3, 1, 3, 0, 0, 0, 0, 0)] (by decide +kernel) rfl rfl ?_
  refine XA.icmp_ge (25) 40 (by decide +kernel) (fun c1 => ?_) (fun c1 => ?_)
  · have H := H.1 c1
    refine XA.blk (e9 := 41) (ok := true) (ls' := [some (.int x0), some (.int x1), some (.retAddr 2), some (.int x3), some (.int x4), none]) (st' := [.int x1]) (h' := hs σ) [(.iload_n 1, 1, 1, 0, 0, 0, 0, 0)] (by decide +kernel) rfl rfl ?_
    exact XA.ret (some (.int x1)) rfl (show ckRt mX10_height 41 .ireturn = true by decide +kernel) trivial (Nat.le_of_ble_eq_true rfl) (Nat.le_of_ble_eq_true rfl) ⟨_, _, rfl, rfl, H⟩
  · have H := H.2 c1
    obtain ⟨o1, H⟩ := H
    refine XA.blk (e9 := 28) (ok := inB x4 4 && (true)) (ls' := [some (.int x0), some (.int x1), some (.retAddr 2), some (.int x3), some (.int x4), some (.int (tbV scr 2 (Int32.toNatClampNeg x4)))]) (st' := [.int (x0 &&& (tbV scr 2 (Int32.toNatClampNeg x4)))]) (h' := hs σ) [(.aload_n 2, 1, 2, 0, 0, 0, 0, 0), (.iload 4, 2, 4, 0, 0, 0, 0, 0), (.iaload, 1, 0, 0, 0, 0, 0, 0), (.istore 5, 2, 5, 0, 0, 0, 0, 0), (.iload_n 0, 1, 0, 0, 0, 0, 0, 0), (.iload 5, 2, 5, 0, 0, 0, 0, 0), (.iand, 1, 0, 0, 0, 0, 0, 0)] (by decide +kernel) rfl (by simp only [o1, Bool.and_true, Bool.true_and]) ?_
    have hJ28 : XA scr 0 mX10_height 172 4705 34 [some (.int x0), some (.int (if (x0 &&& (tbV scr 2 (Int32.toNatClampNeg x4))) = 0 then x1 else x1 + 1)), some (.retAddr 2), some (.int x3), some (.int x4), none] [] (hs σ) (pI P) := by
      refine XA.blk (e9 := 12) (ok := true) (ls' := [some (.int x0), some (.int (if (x0 &&& (tbV scr 2 (Int32.toNatClampNeg x4))) = 0 then x1 else x1 + 1)), some (.retAddr 2), some (.int x3), some (.int (x4 + 1)), none]) (st' := []) (h' := hs σ) [(.iinc 4 1, 3, 4, 0, 0, 0, 1, 0), (.goto (-25), 3, 12, 0, 0, 0, 0, 0)] (by decide +kernel) rfl rfl ?_
      exact H
    refine XA.if_eq (6) 34 (by decide +kernel) (fun c2 => ?_) (fun c2 => ?_)
    · refine XA.drop (ls := [some (.int x0), some (.int x1), some (.retAddr 2), some (.int x3), some (.int x4), none]) (by simp [leL]) ?_
      simpa only [if_pos c2] using hJ28
    · refine XA.blk (e9 := 34) (ok := true) (ls' := [some (.int x0), some (.int (x1 + 1)), some (.retAddr 2), some (.int x3), some (.int x4), some (.int (tbV scr 2 (Int32.toNatClampNeg x4)))]) (st' := []) (h' := hs σ) [(.iinc 1 1, 3, 1, 0, 0, 0, 1, 0)] (by decide +kernel) rfl rfl ?_
      refine XA.drop (ls := [some (.int x0), some (.int (x1 + 1)), some (.retAddr 2), some (.int x3), some (.int x4), none]) (by simp [leL]) ?_
      simpa only [if_neg c2] using hJ28
theorem E_X10_height {scr : ScA}  {x0 : Int32} {σ : Nat → Nat → Int32} {P : Int32 → (Nat → Nat → Int32) → Prop} (h : K_X10_height_0 scr x0 σ P) : CiA scr 0 mX10_height [.int x0] σ P := CtA.of (by decide) (Nat.le_of_ble_eq_true rfl) (XA.drop (by simp [leL, enL]) h)
def K_X10_mixed_0 (scr : ScA)  (x0 : Int64) (x2 : Int64) (σ : Nat → Nat → Int32) (P : Int64 → (Nat → Nat → Int32) → Prop) : Prop := XA scr 0 mX10_mixed 172 4705 0 [some (.long x0), none, some (.long x2), none] [] (hs σ) (pJ P)
set_option maxRecDepth 20000 in
theorem W_X10_mixed_0 {scr : ScA}   {x0 : Int64} {x2 : Int64} {σ : Nat → Nat → Int32} {P : Int64 → (Nat → Nat → Int32) → Prop} (H : P ((31 * x0) + x2) σ) : K_X10_mixed_0 scr x0 x2 σ P := by
  show XA scr 0 mX10_mixed 172 4705 0 [some (.long x0), none, some (.long x2), none] [] (hs σ) (pJ P)
  refine XA.blk (e9 := 7) (ok := true) (ls' := [some (.long x0), none, some (.long x2), none]) (st' := [.long ((31 * x0) + x2)]) (h' := hs σ) [(.ldc2_w 354, 3, 0, 0, 0, 864, 0, 31), (.lload_n 0, 1, 0, 0, 0, 0, 0, 0), (.lmul, 1, 0, 0, 0, 0, 0, 0), (.lload_n 2, 1, 2, 0, 0, 0, 0, 0), (.ladd, 1, 0, 0, 0, 0, 0, 0)] (by decide +kernel) rfl rfl ?_
  exact XA.ret (some (.long ((31 * x0) + x2))) rfl (show ckRt mX10_mixed 7 .lreturn = true by decide +kernel) trivial (Nat.le_of_ble_eq_true rfl) (Nat.le_of_ble_eq_true rfl) ⟨_, _, rfl, rfl, H⟩
theorem E_X10_mixed {scr : ScA}  {x0 : Int64} {x2 : Int64} {σ : Nat → Nat → Int32} {P : Int64 → (Nat → Nat → Int32) → Prop} (h : K_X10_mixed_0 scr x0 x2 σ P) : ClA scr 0 mX10_mixed [.long x0, .long x2] σ P := CtA.of (by decide) (Nat.le_of_ble_eq_true rfl) (XA.drop (by simp [leL, enL]) h)
def K_X5_tiring_0 (scr : ScA)  (x0 : Int32) (x1 : Int32) (σ : Nat → Nat → Int32) (P : Int32 → (Nat → Nat → Int32) → Prop) : Prop := XA scr 0 mX5_tiring 172 4705 0 [some (.int x0), some (.int x1), none] [] (hs σ) (pI P)
set_option maxRecDepth 20000 in
theorem W_X5_tiring_0 {scr : ScA}   {x0 : Int32} {x1 : Int32} {σ : Nat → Nat → Int32} {P : Int32 → (Nat → Nat → Int32) → Prop} (H : (x0 = 1 → P ((x1 / 8) + 1) σ) ∧ (x0 = 2 → P (if (x1 / 8) ≤ 0 then 0 else (x1 / 8) - 1) σ) ∧ (¬ x0 = 1 → ¬ x0 = 2 → P (x1 / 8) σ)) : K_X5_tiring_0 scr x0 x1 σ P := by
  show XA scr 0 mX5_tiring 172 4705 0 [some (.int x0), some (.int x1), none] [] (hs σ) (pI P)
  refine XA.blk (e9 := 6) (ok := true) (ls' := [some (.int x0), some (.int x1), some (.int (x1 / 8))]) (st' := [.int x0]) (h' := hs σ) [(.iload_n 1, 1, 1, 0, 0, 0, 0, 0), (.bipush 8, 2, 0, 0, 0, 0, 8, 0), (.idiv, 1, 0, 0, 0, 0, 0, 0), (.istore_n 2, 1, 2, 0, 0, 0, 0, 0), (.iload_n 0, 1, 0, 0, 0, 0, 0, 0)] (by decide +kernel) rfl rfl ?_
  refine XA.lsw (42) [(1, 26), (2, 30)] 26 [(1, 32), (2, 36)] 48 (by decide +kernel) (fun q9 hq9 e9 => ?_) (fun e9 => ?_)
  · simp only [List.mem_cons, List.not_mem_nil, or_false] at hq9
    rcases hq9 with rfl | rfl
    · have H := H.1 e9
      refine XA.blk (e9 := 35) (ok := true) (ls' := [some (.int x0), some (.int x1), some (.int (x1 / 8))]) (st' := [.int ((x1 / 8) + 1)]) (h' := hs σ) [(.iload_n 2, 1, 2, 0, 0, 0, 0, 0), (.iconst 1, 1, 0, 0, 0, 0, 1, 0), (.iadd, 1, 0, 0, 0, 0, 0, 0)] (by decide +kernel) rfl rfl ?_
      exact XA.ret (some (.int ((x1 / 8) + 1))) rfl (show ckRt mX5_tiring 35 .ireturn = true by decide +kernel) trivial (Nat.le_of_ble_eq_true rfl) (Nat.le_of_ble_eq_true rfl) ⟨_, _, rfl, rfl, H⟩
    · have H := H.2.1 e9
      refine XA.blk (e9 := 37) (ok := true) (ls' := [some (.int x0), some (.int x1), some (.int (x1 / 8))]) (st' := [.int (x1 / 8)]) (h' := hs σ) [(.iload_n 2, 1, 2, 0, 0, 0, 0, 0)] (by decide +kernel) rfl rfl ?_
      have hJ37 : XA scr 0 mX5_tiring 172 4705 47 [none, none, none] [.int (if (x1 / 8) ≤ 0 then 0 else (x1 / 8) - 1)] (hs σ) (pI P) := by
        exact XA.ret (some (.int (if (x1 / 8) ≤ 0 then 0 else (x1 / 8) - 1))) rfl (show ckRt mX5_tiring 47 .ireturn = true by decide +kernel) trivial (Nat.le_of_ble_eq_true rfl) (Nat.le_of_ble_eq_true rfl) ⟨_, _, rfl, rfl, H⟩
      refine XA.if_le (9) 46 (by decide +kernel) (fun c1 => ?_) (fun c1 => ?_)
      · refine XA.blk (e9 := 47) (ok := true) (ls' := [some (.int x0), some (.int x1), some (.int (x1 / 8))]) (st' := [.int 0]) (h' := hs σ) [(.iconst 0, 1, 0, 0, 0, 0, 0, 0)] (by decide +kernel) rfl rfl ?_
        refine XA.drop (ls := [none, none, none]) (by simp [leL]) ?_
        simpa only [if_pos c1] using hJ37
      · refine XA.blk (e9 := 47) (ok := true) (ls' := [some (.int x0), some (.int x1), some (.int (x1 / 8))]) (st' := [.int ((x1 / 8) - 1)]) (h' := hs σ) [(.iload_n 2, 1, 2, 0, 0, 0, 0, 0), (.iconst 1, 1, 0, 0, 0, 0, 1, 0), (.isub, 1, 0, 0, 0, 0, 0, 0), (.goto 4, 3, 47, 0, 0, 0, 0, 0)] (by decide +kernel) rfl rfl ?_
        refine XA.drop (ls := [none, none, none]) (by simp [leL]) ?_
        simpa only [if_neg c1] using hJ37
  · have H := H.2.2 (e9 (1, 32) (by simp)) (e9 (2, 36) (by simp))
    refine XA.blk (e9 := 49) (ok := true) (ls' := [some (.int x0), some (.int x1), some (.int (x1 / 8))]) (st' := [.int (x1 / 8)]) (h' := hs σ) [(.iload_n 2, 1, 2, 0, 0, 0, 0, 0)] (by decide +kernel) rfl rfl ?_
    exact XA.ret (some (.int (x1 / 8))) rfl (show ckRt mX5_tiring 49 .ireturn = true by decide +kernel) trivial (Nat.le_of_ble_eq_true rfl) (Nat.le_of_ble_eq_true rfl) ⟨_, _, rfl, rfl, H⟩
theorem E_X5_tiring {scr : ScA}  {x0 : Int32} {x1 : Int32} {σ : Nat → Nat → Int32} {P : Int32 → (Nat → Nat → Int32) → Prop} (h : K_X5_tiring_0 scr x0 x1 σ P) : CiA scr 0 mX5_tiring [.int x0, .int x1] σ P := CtA.of (by decide) (Nat.le_of_ble_eq_true rfl) (XA.drop (by simp [leL, enL]) h)
def K_X1_following_0 (scr : ScA)  (x0 : Int32) (σ : Nat → Nat → Int32) (P : Int32 → (Nat → Nat → Int32) → Prop) : Prop := XA scr 0 mX1_following 172 4705 0 [some (.int x0)] [] (hs σ) (pI P)
set_option maxRecDepth 20000 in
theorem W_X1_following_0 {scr : ScA}   {x0 : Int32} {σ : Nat → Nat → Int32} {P : Int32 → (Nat → Nat → Int32) → Prop} (H : P ((1103515245 * x0) + 12345) σ) : K_X1_following_0 scr x0 σ P := by
  show XA scr 0 mX1_following 172 4705 0 [some (.int x0)] [] (hs σ) (pI P)
  refine XA.blk (e9 := 8) (ok := true) (ls' := [some (.int x0)]) (st' := [.int ((1103515245 * x0) + 12345)]) (h' := hs σ) [(.ldc 33, 2, 0, 0, 0, 800, 1103515245, 0), (.iload_n 0, 1, 0, 0, 0, 0, 0, 0), (.imul, 1, 0, 0, 0, 0, 0, 0), (.sipush 12345, 3, 0, 0, 0, 0, 12345, 0), (.iadd, 1, 0, 0, 0, 0, 0, 0)] (by decide +kernel) rfl rfl ?_
  exact XA.ret (some (.int ((1103515245 * x0) + 12345))) rfl (show ckRt mX1_following 8 .ireturn = true by decide +kernel) trivial (Nat.le_of_ble_eq_true rfl) (Nat.le_of_ble_eq_true rfl) ⟨_, _, rfl, rfl, H⟩
theorem E_X1_following {scr : ScA}  {x0 : Int32} {σ : Nat → Nat → Int32} {P : Int32 → (Nat → Nat → Int32) → Prop} (h : K_X1_following_0 scr x0 σ P) : CiA scr 0 mX1_following [.int x0] σ P := CtA.of (by decide) (Nat.le_of_ble_eq_true rfl) (XA.drop (by simp [leL, enL]) h)
def K_X1_allBits_0 (scr : ScA) (v : Nat)  (σ : Nat → Nat → Int32) (P : Int32 → (Nat → Nat → Int32) → Prop) : Prop := XA scr 0 mX1_allBits 172 4705 0 [some (.ref v)] [] (hs σ) (pI P)
set_option maxRecDepth 20000 in
theorem W_X1_allBits_0 {scr : ScA} {v : Nat} (hv : isEv v)  {σ : Nat → Nat → Int32} {P : Int32 → (Nat → Nat → Int32) → Prop} (H : P ((1 <<< ((σ v 3) &&& 31)) - 1) σ) : K_X1_allBits_0 scr v σ P := by
  show XA scr 0 mX1_allBits 172 4705 0 [some (.ref v)] [] (hs σ) (pI P)
  refine XA.blk (e9 := 8) (ok := kO 172 S0 v 1 && (true)) (ls' := [some (.ref v)]) (st' := [.int ((1 <<< ((σ v 3) &&& 31)) - 1)]) (h' := hs σ) [(.iconst 1, 1, 0, 0, 0, 0, 1, 0), (.aload_n 0, 1, 0, 0, 0, 0, 0, 0), (.getfield 21, 3, 1, 3, 0, 171, 0, 0), (.ishl, 1, 0, 0, 0, 0, 0, 0), (.iconst 1, 1, 0, 0, 0, 0, 1, 0), (.isub, 1, 0, 0, 0, 0, 0, 0)] (by decide +kernel) rfl (by simp only [evO hv, Bool.and_true, Bool.true_and]) ?_
  exact XA.ret (some (.int ((1 <<< ((σ v 3) &&& 31)) - 1))) rfl (show ckRt mX1_allBits 8 .ireturn = true by decide +kernel) trivial (Nat.le_of_ble_eq_true rfl) (Nat.le_of_ble_eq_true rfl) ⟨_, _, rfl, rfl, H⟩
theorem E_X1_allBits {scr : ScA} {v : Nat}  {σ : Nat → Nat → Int32} {P : Int32 → (Nat → Nat → Int32) → Prop} (h : K_X1_allBits_0 scr v σ P) : CiA scr 0 mX1_allBits [.ref v] σ P := CtA.of (by decide) (Nat.le_of_ble_eq_true rfl) (XA.drop (by simp [leL, enL]) h)
def K_X1_add_0 (scr : ScA) (v : Nat) (x1 : Int32) (x2 : Int32) (x3 : Int32) (σ : Nat → Nat → Int32) (P : (Nat → Nat → Int32) → Prop) : Prop := XA scr 0 mX1_add 172 4705 0 [some (.ref v), some (.int x1), some (.int x2), some (.int x3)] [] (hs σ) (pV P)
set_option maxRecDepth 20000 in
theorem W_X1_add_0 {scr : ScA} {v : Nat} (hv : isEv v) {x1 : Int32} {x2 : Int32} {x3 : Int32} {σ : Nat → Nat → Int32} {P : (Nat → Nat → Int32) → Prop} (H : (8 ≤ (σ v 3) → P σ) ∧ (¬ 8 ≤ (σ v 3) → (inB (σ v 3) 8 = true) ∧ (∀ σ1, σ1 = (su σ (v + 1) (Int32.toNatClampNeg (σ v 3)) x1) → (inB (σ1 v 3) 8 = true) ∧ (∀ σ2, σ2 = (su σ1 (v + 2) (Int32.toNatClampNeg (σ1 v 3)) x2) → (inB (σ2 v 3) 8 = true) ∧ (∀ σ3, σ3 = (su σ2 (v + 3) (Int32.toNatClampNeg (σ2 v 3)) x3) → ∀ σ4, σ4 = (su σ3 v 3 ((σ3 v 3) + 1)) → P σ4))))) : K_X1_add_0 scr v x1 x2 x3 σ P := by
  show XA scr 0 mX1_add 172 4705 0 [some (.ref v), some (.int x1), some (.int x2), some (.int x3)] [] (hs σ) (pV P)
  refine XA.blk (e9 := 6) (ok := kO 172 S0 v 1 && (true)) (ls' := [some (.ref v), some (.int x1), some (.int x2), some (.int x3)]) (st' := [.int 8, .int (σ v 3)]) (h' := hs σ) [(.aload_n 0, 1, 0, 0, 0, 0, 0, 0), (.getfield 21, 3, 1, 3, 0, 171, 0, 0), (.bipush 8, 2, 0, 0, 0, 0, 8, 0)] (by decide +kernel) rfl (by simp only [evO hv, Bool.and_true, Bool.true_and]) ?_
  refine XA.icmp_ge (43) 49 (by decide +kernel) (fun c1 => ?_) (fun c1 => ?_)
  · have H := H.1 c1
    exact XA.ret none rfl (show ckRt mX1_add 49 .return_ = true by decide +kernel) trivial (Nat.le_of_ble_eq_true rfl) (Nat.le_of_ble_eq_true rfl) ⟨_, rfl, rfl, H⟩
  · have H := H.2 c1
    obtain ⟨o1, H⟩ := H
    refine XA.blk (e9 := 19) (ok := (kO 172 S0 v 1 && kR R0 v 0 (v + 1)) && (kO 172 S0 v 1 && (kA 172 S0 (v + 1) 1 (σ v 3) && (true)))) (ls' := [some (.ref v), some (.int x1), some (.int x2), some (.int x3)]) (st' := []) (h' := hs (su σ (v + 1) (Int32.toNatClampNeg (σ v 3)) x1)) [(.aload_n 0, 1, 0, 0, 0, 0, 0, 0), (.getfield 9, 3, 1, 0, 2, 165, 0, 0), (.aload_n 0, 1, 0, 0, 0, 0, 0, 0), (.getfield 21, 3, 1, 3, 0, 171, 0, 0), (.iload_n 1, 1, 1, 0, 0, 0, 0, 0), (.iastore, 1, 0, 0, 0, 0, 0, 0)] (by decide +kernel) rfl (by simp only [evO hv, evR0 hv, evA1 hv (σ v 3), o1, Bool.and_true, Bool.true_and]) ?_
    obtain ⟨σ1, hσ1⟩ : ∃ s9, s9 = (su σ (v + 1) (Int32.toNatClampNeg (σ v 3)) x1) := ⟨_, rfl⟩
    rw [← hσ1]
    have H := H σ1 hσ1
    obtain ⟨o2, H⟩ := H
    refine XA.blk (e9 := 29) (ok := (kO 172 S0 v 1 && kR R0 v 1 (v + 2)) && (kO 172 S0 v 1 && (kA 172 S0 (v + 2) 1 (σ1 v 3) && (true)))) (ls' := [some (.ref v), some (.int x1), some (.int x2), some (.int x3)]) (st' := []) (h' := hs (su σ1 (v + 2) (Int32.toNatClampNeg (σ1 v 3)) x2)) [(.aload_n 0, 1, 0, 0, 0, 0, 0, 0), (.getfield 15, 3, 1, 1, 3, 167, 0, 0), (.aload_n 0, 1, 0, 0, 0, 0, 0, 0), (.getfield 21, 3, 1, 3, 0, 171, 0, 0), (.iload_n 2, 1, 2, 0, 0, 0, 0, 0), (.iastore, 1, 0, 0, 0, 0, 0, 0)] (by decide +kernel) rfl (by simp only [evO hv, evR1 hv, evA2 hv (σ1 v 3), o2, Bool.and_true, Bool.true_and]) ?_
    obtain ⟨σ2, hσ2⟩ : ∃ s9, s9 = (su σ1 (v + 2) (Int32.toNatClampNeg (σ1 v 3)) x2) := ⟨_, rfl⟩
    rw [← hσ2]
    have H := H σ2 hσ2
    obtain ⟨o3, H⟩ := H
    refine XA.blk (e9 := 39) (ok := (kO 172 S0 v 1 && kR R0 v 2 (v + 3)) && (kO 172 S0 v 1 && (kA 172 S0 (v + 3) 1 (σ2 v 3) && (true)))) (ls' := [some (.ref v), some (.int x1), some (.int x2), some (.int x3)]) (st' := []) (h' := hs (su σ2 (v + 3) (Int32.toNatClampNeg (σ2 v 3)) x3)) [(.aload_n 0, 1, 0, 0, 0, 0, 0, 0), (.getfield 18, 3, 1, 2, 4, 169, 0, 0), (.aload_n 0, 1, 0, 0, 0, 0, 0, 0), (.getfield 21, 3, 1, 3, 0, 171, 0, 0), (.iload_n 3, 1, 3, 0, 0, 0, 0, 0), (.iastore, 1, 0, 0, 0, 0, 0, 0)] (by decide +kernel) rfl (by simp only [evO hv, evR2 hv, evA3 hv (σ2 v 3), o3, Bool.and_true, Bool.true_and]) ?_
    obtain ⟨σ3, hσ3⟩ : ∃ s9, s9 = (su σ2 (v + 3) (Int32.toNatClampNeg (σ2 v 3)) x3) := ⟨_, rfl⟩
    rw [← hσ3]
    have H := H σ3 hσ3
    refine XA.blk (e9 := 49) (ok := kO 172 S0 v 1 && (kO 172 S0 v 1 && (true))) (ls' := [some (.ref v), some (.int x1), some (.int x2), some (.int x3)]) (st' := []) (h' := hs (su σ3 v 3 ((σ3 v 3) + 1))) [(.aload_n 0, 1, 0, 0, 0, 0, 0, 0), (.dup, 1, 0, 0, 0, 0, 0, 0), (.getfield 21, 3, 1, 3, 0, 171, 0, 0), (.iconst 1, 1, 0, 0, 0, 0, 1, 0), (.iadd, 1, 0, 0, 0, 0, 0, 0), (.putfield 21, 3, 1, 3, 0, 171, 0, 0)] (by decide +kernel) rfl (by simp only [evO hv, Bool.and_true, Bool.true_and]) ?_
    obtain ⟨σ4, hσ4⟩ : ∃ s9, s9 = (su σ3 v 3 ((σ3 v 3) + 1)) := ⟨_, rfl⟩
    rw [← hσ4]
    have H := H σ4 hσ4
    exact XA.ret none rfl (show ckRt mX1_add 49 .return_ = true by decide +kernel) trivial (Nat.le_of_ble_eq_true rfl) (Nat.le_of_ble_eq_true rfl) ⟨_, rfl, rfl, H⟩
theorem E_X1_add {scr : ScA} {v : Nat} {x1 : Int32} {x2 : Int32} {x3 : Int32} {σ : Nat → Nat → Int32} {P : (Nat → Nat → Int32) → Prop} (h : K_X1_add_0 scr v x1 x2 x3 σ P) : CvA scr 0 mX1_add [.ref v, .int x1, .int x2, .int x3] σ P := CtA.of (by decide) (Nat.le_of_ble_eq_true rfl) (XA.drop (by simp [leL, enL]) h)
def K_J6_bitCount_0f7a4_0 (scr : ScA)  (x0 : Int32) (σ : Nat → Nat → Int32) (P : Int32 → (Nat → Nat → Int32) → Prop) : Prop := XA scr 0 mJ6_bitCount_0f7a4 172 4705 0 [some (.int x0)] [] (hs σ) (pI P)
set_option maxRecDepth 20000 in
theorem W_J6_bitCount_0f7a4_0 {scr : ScA}   {x0 : Int32} {σ : Nat → Nat → Int32} {P : Int32 → (Nat → Nat → Int32) → Prop} (H : P ((((((((x0 - (((x0.toUInt32 >>> ((1 : Int32).toUInt32 &&& Int32.toUInt32 31)).toInt32) &&& 1431655765)) &&& 858993459) + ((((x0 - (((x0.toUInt32 >>> ((1 : Int32).toUInt32 &&& Int32.toUInt32 31)).toInt32) &&& 1431655765)).toUInt32 >>> ((2 : Int32).toUInt32 &&& Int32.toUInt32 31)).toInt32) &&& 858993459)) + (((((x0 - (((x0.toUInt32 >>> ((1 : Int32).toUInt32 &&& Int32.toUInt32 31)).toInt32) &&& 1431655765)) &&& 858993459) + ((((x0 - (((x0.toUInt32 >>> ((1 : Int32).toUInt32 &&& Int32.toUInt32 31)).toInt32) &&& 1431655765)).toUInt32 >>> ((2 : Int32).toUInt32 &&& Int32.toUInt32 31)).toInt32) &&& 858993459)).toUInt32 >>> ((4 : Int32).toUInt32 &&& Int32.toUInt32 31)).toInt32)) &&& 252645135) + (((((((x0 - (((x0.toUInt32 >>> ((1 : Int32).toUInt32 &&& Int32.toUInt32 31)).toInt32) &&& 1431655765)) &&& 858993459) + ((((x0 - (((x0.toUInt32 >>> ((1 : Int32).toUInt32 &&& Int32.toUInt32 31)).toInt32) &&& 1431655765)).toUInt32 >>> ((2 : Int32).toUInt32 &&& Int32.toUInt32 31)).toInt32) &&& 858993459)) + (((((x0 - (((x0.toUInt32 >>> ((1 : Int32).toUInt32 &&& Int32.toUInt32 31)).toInt32) &&& 1431655765)) &&& 858993459) + ((((x0 - (((x0.toUInt32 >>> ((1 : Int32).toUInt32 &&& Int32.toUInt32 31)).toInt32) &&& 1431655765)).toUInt32 >>> ((2 : Int32).toUInt32 &&& Int32.toUInt32 31)).toInt32) &&& 858993459)).toUInt32 >>> ((4 : Int32).toUInt32 &&& Int32.toUInt32 31)).toInt32)) &&& 252645135).toUInt32 >>> ((8 : Int32).toUInt32 &&& Int32.toUInt32 31)).toInt32)) + ((((((((x0 - (((x0.toUInt32 >>> ((1 : Int32).toUInt32 &&& Int32.toUInt32 31)).toInt32) &&& 1431655765)) &&& 858993459) + ((((x0 - (((x0.toUInt32 >>> ((1 : Int32).toUInt32 &&& Int32.toUInt32 31)).toInt32) &&& 1431655765)).toUInt32 >>> ((2 : Int32).toUInt32 &&& Int32.toUInt32 31)).toInt32) &&& 858993459)) + (((((x0 - (((x0.toUInt32 >>> ((1 : Int32).toUInt32 &&& Int32.toUInt32 31)).toInt32) &&& 1431655765)) &&& 858993459) + ((((x0 - (((x0.toUInt32 >>> ((1 : Int32).toUInt32 &&& Int32.toUInt32 31)).toInt32) &&& 1431655765)).toUInt32 >>> ((2 : Int32).toUInt32 &&& Int32.toUInt32 31)).toInt32) &&& 858993459)).toUInt32 >>> ((4 : Int32).toUInt32 &&& Int32.toUInt32 31)).toInt32)) &&& 252645135) + (((((((x0 - (((x0.toUInt32 >>> ((1 : Int32).toUInt32 &&& Int32.toUInt32 31)).toInt32) &&& 1431655765)) &&& 858993459) + ((((x0 - (((x0.toUInt32 >>> ((1 : Int32).toUInt32 &&& Int32.toUInt32 31)).toInt32) &&& 1431655765)).toUInt32 >>> ((2 : Int32).toUInt32 &&& Int32.toUInt32 31)).toInt32) &&& 858993459)) + (((((x0 - (((x0.toUInt32 >>> ((1 : Int32).toUInt32 &&& Int32.toUInt32 31)).toInt32) &&& 1431655765)) &&& 858993459) + ((((x0 - (((x0.toUInt32 >>> ((1 : Int32).toUInt32 &&& Int32.toUInt32 31)).toInt32) &&& 1431655765)).toUInt32 >>> ((2 : Int32).toUInt32 &&& Int32.toUInt32 31)).toInt32) &&& 858993459)).toUInt32 >>> ((4 : Int32).toUInt32 &&& Int32.toUInt32 31)).toInt32)) &&& 252645135).toUInt32 >>> ((8 : Int32).toUInt32 &&& Int32.toUInt32 31)).toInt32)).toUInt32 >>> ((16 : Int32).toUInt32 &&& Int32.toUInt32 31)).toInt32)) &&& 63) σ) : K_J6_bitCount_0f7a4_0 scr x0 σ P := by
  show XA scr 0 mJ6_bitCount_0f7a4 172 4705 0 [some (.int x0)] [] (hs σ) (pI P)
  refine XA.blk (e9 := 52) (ok := true) (ls' := [some (.int (((((((x0 - (((x0.toUInt32 >>> ((1 : Int32).toUInt32 &&& Int32.toUInt32 31)).toInt32) &&& 1431655765)) &&& 858993459) + ((((x0 - (((x0.toUInt32 >>> ((1 : Int32).toUInt32 &&& Int32.toUInt32 31)).toInt32) &&& 1431655765)).toUInt32 >>> ((2 : Int32).toUInt32 &&& Int32.toUInt32 31)).toInt32) &&& 858993459)) + (((((x0 - (((x0.toUInt32 >>> ((1 : Int32).toUInt32 &&& Int32.toUInt32 31)).toInt32) &&& 1431655765)) &&& 858993459) + ((((x0 - (((x0.toUInt32 >>> ((1 : Int32).toUInt32 &&& Int32.toUInt32 31)).toInt32) &&& 1431655765)).toUInt32 >>> ((2 : Int32).toUInt32 &&& Int32.toUInt32 31)).toInt32) &&& 858993459)).toUInt32 >>> ((4 : Int32).toUInt32 &&& Int32.toUInt32 31)).toInt32)) &&& 252645135) + (((((((x0 - (((x0.toUInt32 >>> ((1 : Int32).toUInt32 &&& Int32.toUInt32 31)).toInt32) &&& 1431655765)) &&& 858993459) + ((((x0 - (((x0.toUInt32 >>> ((1 : Int32).toUInt32 &&& Int32.toUInt32 31)).toInt32) &&& 1431655765)).toUInt32 >>> ((2 : Int32).toUInt32 &&& Int32.toUInt32 31)).toInt32) &&& 858993459)) + (((((x0 - (((x0.toUInt32 >>> ((1 : Int32).toUInt32 &&& Int32.toUInt32 31)).toInt32) &&& 1431655765)) &&& 858993459) + ((((x0 - (((x0.toUInt32 >>> ((1 : Int32).toUInt32 &&& Int32.toUInt32 31)).toInt32) &&& 1431655765)).toUInt32 >>> ((2 : Int32).toUInt32 &&& Int32.toUInt32 31)).toInt32) &&& 858993459)).toUInt32 >>> ((4 : Int32).toUInt32 &&& Int32.toUInt32 31)).toInt32)) &&& 252645135).toUInt32 >>> ((8 : Int32).toUInt32 &&& Int32.toUInt32 31)).toInt32)) + ((((((((x0 - (((x0.toUInt32 >>> ((1 : Int32).toUInt32 &&& Int32.toUInt32 31)).toInt32) &&& 1431655765)) &&& 858993459) + ((((x0 - (((x0.toUInt32 >>> ((1 : Int32).toUInt32 &&& Int32.toUInt32 31)).toInt32) &&& 1431655765)).toUInt32 >>> ((2 : Int32).toUInt32 &&& Int32.toUInt32 31)).toInt32) &&& 858993459)) + (((((x0 - (((x0.toUInt32 >>> ((1 : Int32).toUInt32 &&& Int32.toUInt32 31)).toInt32) &&& 1431655765)) &&& 858993459) + ((((x0 - (((x0.toUInt32 >>> ((1 : Int32).toUInt32 &&& Int32.toUInt32 31)).toInt32) &&& 1431655765)).toUInt32 >>> ((2 : Int32).toUInt32 &&& Int32.toUInt32 31)).toInt32) &&& 858993459)).toUInt32 >>> ((4 : Int32).toUInt32 &&& Int32.toUInt32 31)).toInt32)) &&& 252645135) + (((((((x0 - (((x0.toUInt32 >>> ((1 : Int32).toUInt32 &&& Int32.toUInt32 31)).toInt32) &&& 1431655765)) &&& 858993459) + ((((x0 - (((x0.toUInt32 >>> ((1 : Int32).toUInt32 &&& Int32.toUInt32 31)).toInt32) &&& 1431655765)).toUInt32 >>> ((2 : Int32).toUInt32 &&& Int32.toUInt32 31)).toInt32) &&& 858993459)) + (((((x0 - (((x0.toUInt32 >>> ((1 : Int32).toUInt32 &&& Int32.toUInt32 31)).toInt32) &&& 1431655765)) &&& 858993459) + ((((x0 - (((x0.toUInt32 >>> ((1 : Int32).toUInt32 &&& Int32.toUInt32 31)).toInt32) &&& 1431655765)).toUInt32 >>> ((2 : Int32).toUInt32 &&& Int32.toUInt32 31)).toInt32) &&& 858993459)).toUInt32 >>> ((4 : Int32).toUInt32 &&& Int32.toUInt32 31)).toInt32)) &&& 252645135).toUInt32 >>> ((8 : Int32).toUInt32 &&& Int32.toUInt32 31)).toInt32)).toUInt32 >>> ((16 : Int32).toUInt32 &&& Int32.toUInt32 31)).toInt32)))]) (st' := [.int ((((((((x0 - (((x0.toUInt32 >>> ((1 : Int32).toUInt32 &&& Int32.toUInt32 31)).toInt32) &&& 1431655765)) &&& 858993459) + ((((x0 - (((x0.toUInt32 >>> ((1 : Int32).toUInt32 &&& Int32.toUInt32 31)).toInt32) &&& 1431655765)).toUInt32 >>> ((2 : Int32).toUInt32 &&& Int32.toUInt32 31)).toInt32) &&& 858993459)) + (((((x0 - (((x0.toUInt32 >>> ((1 : Int32).toUInt32 &&& Int32.toUInt32 31)).toInt32) &&& 1431655765)) &&& 858993459) + ((((x0 - (((x0.toUInt32 >>> ((1 : Int32).toUInt32 &&& Int32.toUInt32 31)).toInt32) &&& 1431655765)).toUInt32 >>> ((2 : Int32).toUInt32 &&& Int32.toUInt32 31)).toInt32) &&& 858993459)).toUInt32 >>> ((4 : Int32).toUInt32 &&& Int32.toUInt32 31)).toInt32)) &&& 252645135) + (((((((x0 - (((x0.toUInt32 >>> ((1 : Int32).toUInt32 &&& Int32.toUInt32 31)).toInt32) &&& 1431655765)) &&& 858993459) + ((((x0 - (((x0.toUInt32 >>> ((1 : Int32).toUInt32 &&& Int32.toUInt32 31)).toInt32) &&& 1431655765)).toUInt32 >>> ((2 : Int32).toUInt32 &&& Int32.toUInt32 31)).toInt32) &&& 858993459)) + (((((x0 - (((x0.toUInt32 >>> ((1 : Int32).toUInt32 &&& Int32.toUInt32 31)).toInt32) &&& 1431655765)) &&& 858993459) + ((((x0 - (((x0.toUInt32 >>> ((1 : Int32).toUInt32 &&& Int32.toUInt32 31)).toInt32) &&& 1431655765)).toUInt32 >>> ((2 : Int32).toUInt32 &&& Int32.toUInt32 31)).toInt32) &&& 858993459)).toUInt32 >>> ((4 : Int32).toUInt32 &&& Int32.toUInt32 31)).toInt32)) &&& 252645135).toUInt32 >>> ((8 : Int32).toUInt32 &&& Int32.toUInt32 31)).toInt32)) + ((((((((x0 - (((x0.toUInt32 >>> ((1 : Int32).toUInt32 &&& Int32.toUInt32 31)).toInt32) &&& 1431655765)) &&& 858993459) + ((((x0 - (((x0.toUInt32 >>> ((1 : Int32).toUInt32 &&& Int32.toUInt32 31)).toInt32) &&& 1431655765)).toUInt32 >>> ((2 : Int32).toUInt32 &&& Int32.toUInt32 31)).toInt32) &&& 858993459)) + (((((x0 - (((x0.toUInt32 >>> ((1 : Int32).toUInt32 &&& Int32.toUInt32 31)).toInt32) &&& 1431655765)) &&& 858993459) + ((((x0 - (((x0.toUInt32 >>> ((1 : Int32).toUInt32 &&& Int32.toUInt32 31)).toInt32) &&& 1431655765)).toUInt32 >>> ((2 : Int32).toUInt32 &&& Int32.toUInt32 31)).toInt32) &&& 858993459)).toUInt32 >>> ((4 : Int32).toUInt32 &&& Int32.toUInt32 31)).toInt32)) &&& 252645135) + (((((((x0 - (((x0.toUInt32 >>> ((1 : Int32).toUInt32 &&& Int32.toUInt32 31)).toInt32) &&& 1431655765)) &&& 858993459) + ((((x0 - (((x0.toUInt32 >>> ((1 : Int32).toUInt32 &&& Int32.toUInt32 31)).toInt32) &&& 1431655765)).toUInt32 >>> ((2 : Int32).toUInt32 &&& Int32.toUInt32 31)).toInt32) &&& 858993459)) + (((((x0 - (((x0.toUInt32 >>> ((1 : Int32).toUInt32 &&& Int32.toUInt32 31)).toInt32) &&& 1431655765)) &&& 858993459) + ((((x0 - (((x0.toUInt32 >>> ((1 : Int32).toUInt32 &&& Int32.toUInt32 31)).toInt32) &&& 1431655765)).toUInt32 >>> ((2 : Int32).toUInt32 &&& Int32.toUInt32 31)).toInt32) &&& 858993459)).toUInt32 >>> ((4 : Int32).toUInt32 &&& Int32.toUInt32 31)).toInt32)) &&& 252645135).toUInt32 >>> ((8 : Int32).toUInt32 &&& Int32.toUInt32 31)).toInt32)).toUInt32 >>> ((16 : Int32).toUInt32 &&& Int32.toUInt32 31)).toInt32)) &&& 63)]) (h' := hs σ) [(.iload_n 0, 1, 0, 0, 0, 0, 0, 0), (.iload_n 0, 1, 0, 0, 0, 0, 0, 0), (.iconst 1, 1, 0, 0, 0, 0, 1, 0), (.iushr, 1, 0, 0, 0, 0, 0, 0), (.ldc_w 265, 3, 0, 0, 0, 575, 1431655765, 0), (.iand, 1, 0, 0, 0, 0, 0, 0), (.isub, 1, 0, 0, 0, 0, 0, 0), (.istore_n 0, 1, 0, 0, 0, 0, 0, 0), (.iload_n 0, 1, 0, 0, 0, 0, 0, 0), (.ldc_w 266, 3, 0, 0, 0, 576, 858993459, 0), (.iand, 1, 0, 0, 0, 0, 0, 0), (.iload_n 0, 1, 0, 0, 0, 0, 0, 0), (.iconst 2, 1, 0, 0, 0, 0, 2, 0), (.iushr, 1, 0, 0, 0, 0, 0, 0), (.ldc_w 266, 3, 0, 0, 0, 576, 858993459, 0), (.iand, 1, 0, 0, 0, 0, 0, 0), (.iadd, 1, 0, 0, 0, 0, 0, 0), (.istore_n 0, 1, 0, 0, 0, 0, 0, 0), (.iload_n 0, 1, 0, 0, 0, 0, 0, 0), (.iload_n 0, 1, 0, 0, 0, 0, 0, 0), (.iconst 4, 1, 0, 0, 0, 0, 4, 0), (.iushr, 1, 0, 0, 0, 0, 0, 0), (.iadd, 1, 0, 0, 0, 0, 0, 0), (.ldc_w 267, 3, 0, 0, 0, 577, 252645135, 0), (.iand, 1, 0, 0, 0, 0, 0, 0), (.istore_n 0, 1, 0, 0, 0, 0, 0, 0), (.iload_n 0, 1, 0, 0, 0, 0, 0, 0), (.iload_n 0, 1, 0, 0, 0, 0, 0, 0), (.bipush 8, 2, 0, 0, 0, 0, 8, 0), (.iushr, 1, 0, 0, 0, 0, 0, 0), (.iadd, 1, 0, 0, 0, 0, 0, 0), (.istore_n 0, 1, 0, 0, 0, 0, 0, 0), (.iload_n 0, 1, 0, 0, 0, 0, 0, 0), (.iload_n 0, 1, 0, 0, 0, 0, 0, 0), (.bipush 16, 2, 0, 0, 0, 0, 16, 0), (.iushr, 1, 0, 0, 0, 0, 0, 0), (.iadd, 1, 0, 0, 0, 0, 0, 0), (.istore_n 0, 1, 0, 0, 0, 0, 0, 0), (.iload_n 0, 1, 0, 0, 0, 0, 0, 0), (.bipush 63, 2, 0, 0, 0, 0, 63, 0), (.iand, 1, 0, 0, 0, 0, 0, 0)] (by decide +kernel) rfl rfl ?_
  exact XA.ret (some (.int ((((((((x0 - (((x0.toUInt32 >>> ((1 : Int32).toUInt32 &&& Int32.toUInt32 31)).toInt32) &&& 1431655765)) &&& 858993459) + ((((x0 - (((x0.toUInt32 >>> ((1 : Int32).toUInt32 &&& Int32.toUInt32 31)).toInt32) &&& 1431655765)).toUInt32 >>> ((2 : Int32).toUInt32 &&& Int32.toUInt32 31)).toInt32) &&& 858993459)) + (((((x0 - (((x0.toUInt32 >>> ((1 : Int32).toUInt32 &&& Int32.toUInt32 31)).toInt32) &&& 1431655765)) &&& 858993459) + ((((x0 - (((x0.toUInt32 >>> ((1 : Int32).toUInt32 &&& Int32.toUInt32 31)).toInt32) &&& 1431655765)).toUInt32 >>> ((2 : Int32).toUInt32 &&& Int32.toUInt32 31)).toInt32) &&& 858993459)).toUInt32 >>> ((4 : Int32).toUInt32 &&& Int32.toUInt32 31)).toInt32)) &&& 252645135) + (((((((x0 - (((x0.toUInt32 >>> ((1 : Int32).toUInt32 &&& Int32.toUInt32 31)).toInt32) &&& 1431655765)) &&& 858993459) + ((((x0 - (((x0.toUInt32 >>> ((1 : Int32).toUInt32 &&& Int32.toUInt32 31)).toInt32) &&& 1431655765)).toUInt32 >>> ((2 : Int32).toUInt32 &&& Int32.toUInt32 31)).toInt32) &&& 858993459)) + (((((x0 - (((x0.toUInt32 >>> ((1 : Int32).toUInt32 &&& Int32.toUInt32 31)).toInt32) &&& 1431655765)) &&& 858993459) + ((((x0 - (((x0.toUInt32 >>> ((1 : Int32).toUInt32 &&& Int32.toUInt32 31)).toInt32) &&& 1431655765)).toUInt32 >>> ((2 : Int32).toUInt32 &&& Int32.toUInt32 31)).toInt32) &&& 858993459)).toUInt32 >>> ((4 : Int32).toUInt32 &&& Int32.toUInt32 31)).toInt32)) &&& 252645135).toUInt32 >>> ((8 : Int32).toUInt32 &&& Int32.toUInt32 31)).toInt32)) + ((((((((x0 - (((x0.toUInt32 >>> ((1 : Int32).toUInt32 &&& Int32.toUInt32 31)).toInt32) &&& 1431655765)) &&& 858993459) + ((((x0 - (((x0.toUInt32 >>> ((1 : Int32).toUInt32 &&& Int32.toUInt32 31)).toInt32) &&& 1431655765)).toUInt32 >>> ((2 : Int32).toUInt32 &&& Int32.toUInt32 31)).toInt32) &&& 858993459)) + (((((x0 - (((x0.toUInt32 >>> ((1 : Int32).toUInt32 &&& Int32.toUInt32 31)).toInt32) &&& 1431655765)) &&& 858993459) + ((((x0 - (((x0.toUInt32 >>> ((1 : Int32).toUInt32 &&& Int32.toUInt32 31)).toInt32) &&& 1431655765)).toUInt32 >>> ((2 : Int32).toUInt32 &&& Int32.toUInt32 31)).toInt32) &&& 858993459)).toUInt32 >>> ((4 : Int32).toUInt32 &&& Int32.toUInt32 31)).toInt32)) &&& 252645135) + (((((((x0 - (((x0.toUInt32 >>> ((1 : Int32).toUInt32 &&& Int32.toUInt32 31)).toInt32) &&& 1431655765)) &&& 858993459) + ((((x0 - (((x0.toUInt32 >>> ((1 : Int32).toUInt32 &&& Int32.toUInt32 31)).toInt32) &&& 1431655765)).toUInt32 >>> ((2 : Int32).toUInt32 &&& Int32.toUInt32 31)).toInt32) &&& 858993459)) + (((((x0 - (((x0.toUInt32 >>> ((1 : Int32).toUInt32 &&& Int32.toUInt32 31)).toInt32) &&& 1431655765)) &&& 858993459) + ((((x0 - (((x0.toUInt32 >>> ((1 : Int32).toUInt32 &&& Int32.toUInt32 31)).toInt32) &&& 1431655765)).toUInt32 >>> ((2 : Int32).toUInt32 &&& Int32.toUInt32 31)).toInt32) &&& 858993459)).toUInt32 >>> ((4 : Int32).toUInt32 &&& Int32.toUInt32 31)).toInt32)) &&& 252645135).toUInt32 >>> ((8 : Int32).toUInt32 &&& Int32.toUInt32 31)).toInt32)).toUInt32 >>> ((16 : Int32).toUInt32 &&& Int32.toUInt32 31)).toInt32)) &&& 63))) rfl (show ckRt mJ6_bitCount_0f7a4 52 .ireturn = true by decide +kernel) trivial (Nat.le_of_ble_eq_true rfl) (Nat.le_of_ble_eq_true rfl) ⟨_, _, rfl, rfl, H⟩
theorem E_J6_bitCount_0f7a4 {scr : ScA}  {x0 : Int32} {σ : Nat → Nat → Int32} {P : Int32 → (Nat → Nat → Int32) → Prop} (h : K_J6_bitCount_0f7a4_0 scr x0 σ P) : CiA scr 0 mJ6_bitCount_0f7a4 [.int x0] σ P := CtA.of (by decide) (Nat.le_of_ble_eq_true rfl) (XA.drop (by simp [leL, enL]) h)
def K_J7_fill_53178_0 (scr : ScA) (a : Nat) (x1 : Int32) (σ : Nat → Nat → Int32) (P : (Nat → Nat → Int32) → Prop) : Prop := XA scr 0 mJ7_fill_53178 172 4705 0 [some (.ref a), some (.int x1), none, none] [] (hs σ) (pV P)
def K_J7_fill_53178_5 (scr : ScA) (a : Nat) (x1 : Int32) (x2 : Int32) (x3 : Int32) (σ : Nat → Nat → Int32) (P : (Nat → Nat → Int32) → Prop) : Prop := XA scr 0 mJ7_fill_53178 172 4705 5 [some (.ref a), some (.int x1), some (.int x2), some (.int x3)] [] (hs σ) (pV P)
set_option maxRecDepth 20000 in
theorem W_J7_fill_53178_0 {scr : ScA} {a : Nat} {n : Nat} (ha : isAr a n) {x1 : Int32} {σ : Nat → Nat → Int32} {P : (Nat → Nat → Int32) → Prop} (H : K_J7_fill_53178_5 scr a x1 0 (Int32.ofNat (S0 a).2) σ P) : K_J7_fill_53178_0 scr a x1 σ P := by
  show XA scr 0 mJ7_fill_53178 172 4705 0 [some (.ref a), some (.int x1), none, none] [] (hs σ) (pV P)
  refine XA.blk (e9 := 5) (ok := decide (a < 172 ∧ 1 ≤ (S0 a).1 ∧ (S0 a).1 ≤ 5) && (true)) (ls' := [some (.ref a), some (.int x1), some (.int 0), some (.int (Int32.ofNat (S0 a).2))]) (st' := []) (h' := hs σ) [(.iconst 0, 1, 0, 0, 0, 0, 0, 0), (.istore_n 2, 1, 2, 0, 0, 0, 0, 0), (.aload_n 0, 1, 0, 0, 0, 0, 0, 0), (.arraylength, 1, 0, 0, 0, 0, 0, 0), (.istore_n 3, 1, 3, 0, 0, 0, 0, 0)] (by decide +kernel) rfl (by simp only [arL0 ha, Bool.and_true, Bool.true_and]) ?_
  exact H
set_option maxRecDepth 20000 in
theorem W_J7_fill_53178_5 {scr : ScA} {a : Nat} {n : Nat} (ha : isAr a n) {x1 : Int32} {x2 : Int32} {x3 : Int32} {σ : Nat → Nat → Int32} {P : (Nat → Nat → Int32) → Prop} (H : (x3 ≤ x2 → P σ) ∧ (¬ x3 ≤ x2 → (inB x2 n = true) ∧ (∀ σ1, σ1 = (su σ a (Int32.toNatClampNeg x2) x1) → K_J7_fill_53178_5 scr a x1 (x2 + 1) x3 σ1 P))) : K_J7_fill_53178_5 scr a x1 x2 x3 σ P := by
  show XA scr 0 mJ7_fill_53178 172 4705 5 [some (.ref a), some (.int x1), some (.int x2), some (.int x3)] [] (hs σ) (pV P)
  refine XA.blk (e9 := 7) (ok := true) (ls' := [some (.ref a), some (.int x1), some (.int x2), some (.int x3)]) (st' := [.int x3, .int x2]) (h' := hs σ) [(.iload_n 2, 1, 2, 0, 0, 0, 0, 0), (.iload_n 3, 1, 3, 0, 0, 0, 0, 0)] (by decide +kernel) rfl rfl ?_
  refine XA.icmp_ge (13) 20 (by decide +kernel) (fun c1 => ?_) (fun c1 => ?_)
  · have H := H.1 c1
    exact XA.ret none rfl (show ckRt mJ7_fill_53178 20 .return_ = true by decide +kernel) trivial (Nat.le_of_ble_eq_true rfl) (Nat.le_of_ble_eq_true rfl) ⟨_, rfl, rfl, H⟩
  · have H := H.2 c1
    obtain ⟨o1, H⟩ := H
    refine XA.blk (e9 := 14) (ok := kA 172 S0 a 1 x2 && (true)) (ls' := [some (.ref a), some (.int x1), some (.int x2), some (.int x3)]) (st' := []) (h' := hs (su σ a (Int32.toNatClampNeg x2) x1)) [(.aload_n 0, 1, 0, 0, 0, 0, 0, 0), (.iload_n 2, 1, 2, 0, 0, 0, 0, 0), (.iload_n 1, 1, 1, 0, 0, 0, 0, 0), (.iastore, 1, 0, 0, 0, 0, 0, 0)] (by decide +kernel) rfl (by simp only [arA ha x2, o1, Bool.and_true, Bool.true_and]) ?_
    obtain ⟨σ1, hσ1⟩ : ∃ s9, s9 = (su σ a (Int32.toNatClampNeg x2) x1) := ⟨_, rfl⟩
    rw [← hσ1]
    have H := H σ1 hσ1
    refine XA.blk (e9 := 5) (ok := true) (ls' := [some (.ref a), some (.int x1), some (.int (x2 + 1)), some (.int x3)]) (st' := []) (h' := hs σ1) [(.iinc 2 1, 3, 2, 0, 0, 0, 1, 0), (.goto (-12), 3, 5, 0, 0, 0, 0, 0)] (by decide +kernel) rfl rfl ?_
    exact H
theorem E_J7_fill_53178 {scr : ScA} {a : Nat} {x1 : Int32} {σ : Nat → Nat → Int32} {P : (Nat → Nat → Int32) → Prop} (h : K_J7_fill_53178_0 scr a x1 σ P) : CvA scr 0 mJ7_fill_53178 [.ref a, .int x1] σ P := CtA.of (by decide) (Nat.le_of_ble_eq_true rfl) (XA.drop (by simp [leL, enL]) h)
def K_X11_in_0 (scr : ScA)  (x0 : Int32) (x1 : Int32) (x2 : Int32) (σ : Nat → Nat → Int32) (P : Int32 → (Nat → Nat → Int32) → Prop) : Prop := XA scr 0 mX11_in 172 4705 0 [some (.int x0), some (.int x1), some (.int x2)] [] (hs σ) (pI P)
set_option maxRecDepth 20000 in
theorem W_X11_in_0 {scr : ScA}   {x0 : Int32} {x1 : Int32} {x2 : Int32} {σ : Nat → Nat → Int32} {P : Int32 → (Nat → Nat → Int32) → Prop} (H : ((if x0 < x1 then 0 else if x2 < x0 then 0 else 1 : Int32) = 0 ∨ (if x0 < x1 then 0 else if x2 < x0 then 0 else 1 : Int32) = 1) ∧ P (if x0 < x1 then 0 else if x2 < x0 then 0 else 1) σ) : K_X11_in_0 scr x0 x1 x2 σ P := by
  show XA scr 0 mX11_in 172 4705 0 [some (.int x0), some (.int x1), some (.int x2)] [] (hs σ) (pI P)
  refine XA.blk (e9 := 2) (ok := true) (ls' := [some (.int x0), some (.int x1), some (.int x2)]) (st' := [.int x1, .int x0]) (h' := hs σ) [(.iload_n 0, 1, 0, 0, 0, 0, 0, 0), (.iload_n 1, 1, 1, 0, 0, 0, 0, 0)] (by decide +kernel) rfl rfl ?_
  have hJ2 : XA scr 0 mX11_in 172 4705 15 [none, none, none] [.int (if x0 < x1 then 0 else if x2 < x0 then 0 else 1)] (hs σ) (pI P) := by
    exact XA.ret (some (.int (if x0 < x1 then 0 else if x2 < x0 then 0 else 1))) rfl (show ckRt mX11_in 15 .ireturn = true by decide +kernel) H.1 (Nat.le_of_ble_eq_true rfl) (Nat.le_of_ble_eq_true rfl) ⟨_, _, rfl, rfl, H.2⟩
  refine XA.icmp_lt (12) 14 (by decide +kernel) (fun c1 => ?_) (fun c1 => ?_)
  · refine XA.blk (e9 := 15) (ok := true) (ls' := [some (.int x0), some (.int x1), some (.int x2)]) (st' := [.int 0]) (h' := hs σ) [(.iconst 0, 1, 0, 0, 0, 0, 0, 0)] (by decide +kernel) rfl rfl ?_
    refine XA.drop (ls := [none, none, none]) (by simp [leL]) ?_
    simpa only [if_pos c1] using hJ2
  · refine XA.blk (e9 := 7) (ok := true) (ls' := [some (.int x0), some (.int x1), some (.int x2)]) (st' := [.int x2, .int x0]) (h' := hs σ) [(.iload_n 0, 1, 0, 0, 0, 0, 0, 0), (.iload_n 2, 1, 2, 0, 0, 0, 0, 0)] (by decide +kernel) rfl rfl ?_
    have hJ7 : XA scr 0 mX11_in 172 4705 15 [none, none, none] [.int (if x2 < x0 then 0 else 1)] (hs σ) (pI P) := by
      simpa only [if_neg c1] using hJ2
    refine XA.icmp_gt (7) 14 (by decide +kernel) (fun c2 => ?_) (fun c2 => ?_)
    · refine XA.blk (e9 := 15) (ok := true) (ls' := [some (.int x0), some (.int x1), some (.int x2)]) (st' := [.int 0]) (h' := hs σ) [(.iconst 0, 1, 0, 0, 0, 0, 0, 0)] (by decide +kernel) rfl rfl ?_
      refine XA.drop (ls := [none, none, none]) (by simp [leL]) ?_
      simpa only [if_pos c2] using hJ7
    · refine XA.blk (e9 := 15) (ok := true) (ls' := [some (.int x0), some (.int x1), some (.int x2)]) (st' := [.int 1]) (h' := hs σ) [(.iconst 1, 1, 0, 0, 0, 0, 1, 0), (.goto 4, 3, 15, 0, 0, 0, 0, 0)] (by decide +kernel) rfl rfl ?_
      refine XA.drop (ls := [none, none, none]) (by simp [leL]) ?_
      simpa only [if_neg c2] using hJ7
theorem E_X11_in {scr : ScA}  {x0 : Int32} {x1 : Int32} {x2 : Int32} {σ : Nat → Nat → Int32} {P : Int32 → (Nat → Nat → Int32) → Prop} (h : K_X11_in_0 scr x0 x1 x2 σ P) : CiA scr 0 mX11_in [.int x0, .int x1, .int x2] σ P := CtA.of (by decide) (Nat.le_of_ble_eq_true rfl) (XA.drop (by simp [leL, enL]) h)
def K_X11_isIn_0 (scr : ScA)  (x0 : Int32) (x1 : Int32) (σ : Nat → Nat → Int32) (P : Int32 → (Nat → Nat → Int32) → Prop) : Prop := XA scr 0 mX11_isIn 172 4705 0 [some (.int x0), some (.int x1)] [] (hs σ) (pI P)
set_option maxRecDepth 20000 in
theorem W_X11_isIn_0 {scr : ScA}   {x0 : Int32} {x1 : Int32} {σ : Nat → Nat → Int32} {P : Int32 → (Nat → Nat → Int32) → Prop} (H : ((if ¬ ((x0 >>> (x1 &&& 31)) &&& 1) = 1 then 0 else 1 : Int32) = 0 ∨ (if ¬ ((x0 >>> (x1 &&& 31)) &&& 1) = 1 then 0 else 1 : Int32) = 1) ∧ P (if ¬ ((x0 >>> (x1 &&& 31)) &&& 1) = 1 then 0 else 1) σ) : K_X11_isIn_0 scr x0 x1 σ P := by
  show XA scr 0 mX11_isIn 172 4705 0 [some (.int x0), some (.int x1)] [] (hs σ) (pI P)
  refine XA.blk (e9 := 6) (ok := true) (ls' := [some (.int x0), some (.int x1)]) (st' := [.int 1, .int ((x0 >>> (x1 &&& 31)) &&& 1)]) (h' := hs σ) [(.iload_n 0, 1, 0, 0, 0, 0, 0, 0), (.iload_n 1, 1, 1, 0, 0, 0, 0, 0), (.ishr, 1, 0, 0, 0, 0, 0, 0), (.iconst 1, 1, 0, 0, 0, 0, 1, 0), (.iand, 1, 0, 0, 0, 0, 0, 0), (.iconst 1, 1, 0, 0, 0, 0, 1, 0)] (by decide +kernel) rfl rfl ?_
  have hJ6 : XA scr 0 mX11_isIn 172 4705 14 [none, none] [.int (if ¬ ((x0 >>> (x1 &&& 31)) &&& 1) = 1 then 0 else 1)] (hs σ) (pI P) := by
    exact XA.ret (some (.int (if ¬ ((x0 >>> (x1 &&& 31)) &&& 1) = 1 then 0 else 1))) rfl (show ckRt mX11_isIn 14 .ireturn = true by decide +kernel) H.1 (Nat.le_of_ble_eq_true rfl) (Nat.le_of_ble_eq_true rfl) ⟨_, _, rfl, rfl, H.2⟩
  refine XA.icmp_ne (7) 13 (by decide +kernel) (fun c1 => ?_) (fun c1 => ?_)
  · refine XA.blk (e9 := 14) (ok := true) (ls' := [some (.int x0), some (.int x1)]) (st' := [.int 0]) (h' := hs σ) [(.iconst 0, 1, 0, 0, 0, 0, 0, 0)] (by decide +kernel) rfl rfl ?_
    refine XA.drop (ls := [none, none]) (by simp [leL]) ?_
    simpa only [if_pos c1] using hJ6
  · refine XA.blk (e9 := 14) (ok := true) (ls' := [some (.int x0), some (.int x1)]) (st' := [.int 1]) (h' := hs σ) [(.iconst 1, 1, 0, 0, 0, 0, 1, 0), (.goto 4, 3, 14, 0, 0, 0, 0, 0)] (by decide +kernel) rfl rfl ?_
    refine XA.drop (ls := [none, none]) (by simp [leL]) ?_
    simpa only [if_neg (not_not_intro c1)] using hJ6
theorem E_X11_isIn {scr : ScA}  {x0 : Int32} {x1 : Int32} {σ : Nat → Nat → Int32} {P : Int32 → (Nat → Nat → Int32) → Prop} (h : K_X11_isIn_0 scr x0 x1 σ P) : CiA scr 0 mX11_isIn [.int x0, .int x1] σ P := CtA.of (by decide) (Nat.le_of_ble_eq_true rfl) (XA.drop (by simp [leL, enL]) h)
def K_X11_no_0 (scr : ScA)  (x0 : Int32) (σ : Nat → Nat → Int32) (P : Int64 → (Nat → Nat → Int32) → Prop) : Prop := XA scr 0 mX11_no 172 4705 0 [some (.int x0)] [] (hs σ) (pJ P)
set_option maxRecDepth 20000 in
theorem W_X11_no_0 {scr : ScA}   {x0 : Int32} {σ : Nat → Nat → Int32} {P : Int64 → (Nat → Nat → Int32) → Prop} (H : P ((-9223372036854775808) - (Int32.toInt64 x0)) σ) : K_X11_no_0 scr x0 σ P := by
  show XA scr 0 mX11_no 172 4705 0 [some (.int x0)] [] (hs σ) (pJ P)
  refine XA.blk (e9 := 6) (ok := true) (ls' := [some (.int x0)]) (st' := [.long ((-9223372036854775808) - (Int32.toInt64 x0))]) (h' := hs σ) [(.ldc2_w 116, 3, 0, 0, 0, 1352, 0, (-9223372036854775808)), (.iload_n 0, 1, 0, 0, 0, 0, 0, 0), (.i2l, 1, 0, 0, 0, 0, 0, 0), (.lsub, 1, 0, 0, 0, 0, 0, 0)] (by decide +kernel) rfl rfl ?_
  exact XA.ret (some (.long ((-9223372036854775808) - (Int32.toInt64 x0)))) rfl (show ckRt mX11_no 6 .lreturn = true by decide +kernel) trivial (Nat.le_of_ble_eq_true rfl) (Nat.le_of_ble_eq_true rfl) ⟨_, _, rfl, rfl, H⟩
theorem E_X11_no {scr : ScA}  {x0 : Int32} {σ : Nat → Nat → Int32} {P : Int64 → (Nat → Nat → Int32) → Prop} (h : K_X11_no_0 scr x0 σ P) : ClA scr 0 mX11_no [.int x0] σ P := CtA.of (by decide) (Nat.le_of_ble_eq_true rfl) (XA.drop (by simp [leL, enL]) h)
def K_X11_below_0 (scr : ScA)  (x0 : Int32) (σ : Nat → Nat → Int32) (P : Int32 → (Nat → Nat → Int32) → Prop) : Prop := XA scr 0 mX11_below 172 4705 0 [some (.int x0)] [] (hs σ) (pI P)
set_option maxRecDepth 20000 in
theorem W_X11_below_0 {scr : ScA}   {x0 : Int32} {σ : Nat → Nat → Int32} {P : Int32 → (Nat → Nat → Int32) → Prop} (H : P (if 7 ≤ x0 then if 9 ≤ x0 then 7 else x0 - 3 else x0 - 4) σ) : K_X11_below_0 scr x0 σ P := by
  show XA scr 0 mX11_below 172 4705 0 [some (.int x0)] [] (hs σ) (pI P)
  refine XA.blk (e9 := 3) (ok := true) (ls' := [some (.int x0)]) (st' := [.int 7, .int x0]) (h' := hs σ) [(.iload_n 0, 1, 0, 0, 0, 0, 0, 0), (.bipush 7, 2, 0, 0, 0, 0, 7, 0)] (by decide +kernel) rfl rfl ?_
  have hJ3 : XA scr 0 mX11_below 172 4705 26 [none] [.int (if 7 ≤ x0 then if 9 ≤ x0 then 7 else x0 - 3 else x0 - 4)] (hs σ) (pI P) := by
    exact XA.ret (some (.int (if 7 ≤ x0 then if 9 ≤ x0 then 7 else x0 - 3 else x0 - 4))) rfl (show ckRt mX11_below 26 .ireturn = true by decide +kernel) trivial (Nat.le_of_ble_eq_true rfl) (Nat.le_of_ble_eq_true rfl) ⟨_, _, rfl, rfl, H⟩
  refine XA.icmp_ge (9) 12 (by decide +kernel) (fun c1 => ?_) (fun c1 => ?_)
  · refine XA.blk (e9 := 15) (ok := true) (ls' := [some (.int x0)]) (st' := [.int 9, .int x0]) (h' := hs σ) [(.iload_n 0, 1, 0, 0, 0, 0, 0, 0), (.bipush 9, 2, 0, 0, 0, 0, 9, 0)] (by decide +kernel) rfl rfl ?_
    have hJ15 : XA scr 0 mX11_below 172 4705 26 [none] [.int (if 9 ≤ x0 then 7 else x0 - 3)] (hs σ) (pI P) := by
      simpa only [if_pos c1] using hJ3
    refine XA.icmp_ge (9) 24 (by decide +kernel) (fun c2 => ?_) (fun c2 => ?_)
    · refine XA.blk (e9 := 26) (ok := true) (ls' := [some (.int x0)]) (st' := [.int 7]) (h' := hs σ) [(.bipush 7, 2, 0, 0, 0, 0, 7, 0)] (by decide +kernel) rfl rfl ?_
      refine XA.drop (ls := [none]) (by simp [leL]) ?_
      simpa only [if_pos c2] using hJ15
    · refine XA.blk (e9 := 26) (ok := true) (ls' := [some (.int x0)]) (st' := [.int (x0 - 3)]) (h' := hs σ) [(.iload_n 0, 1, 0, 0, 0, 0, 0, 0), (.iconst 3, 1, 0, 0, 0, 0, 3, 0), (.isub, 1, 0, 0, 0, 0, 0, 0), (.goto 5, 3, 26, 0, 0, 0, 0, 0)] (by decide +kernel) rfl rfl ?_
      refine XA.drop (ls := [none]) (by simp [leL]) ?_
      simpa only [if_neg c2] using hJ15
  · refine XA.blk (e9 := 26) (ok := true) (ls' := [some (.int x0)]) (st' := [.int (x0 - 4)]) (h' := hs σ) [(.iload_n 0, 1, 0, 0, 0, 0, 0, 0), (.iconst 4, 1, 0, 0, 0, 0, 4, 0), (.isub, 1, 0, 0, 0, 0, 0, 0), (.goto 17, 3, 26, 0, 0, 0, 0, 0)] (by decide +kernel) rfl rfl ?_
    refine XA.drop (ls := [none]) (by simp [leL]) ?_
    simpa only [if_neg c1] using hJ3
theorem E_X11_below {scr : ScA}  {x0 : Int32} {σ : Nat → Nat → Int32} {P : Int32 → (Nat → Nat → Int32) → Prop} (h : K_X11_below_0 scr x0 σ P) : CiA scr 0 mX11_below [.int x0] σ P := CtA.of (by decide) (Nat.le_of_ble_eq_true rfl) (XA.drop (by simp [leL, enL]) h)
def K_X11_lowest_0 (scr : ScA)  (x0 : Int64) (x2 : Int64) (x4 : Int32) (σ : Nat → Nat → Int32) (P : Int64 → (Nat → Nat → Int32) → Prop) : Prop := XA scr 0 mX11_lowest 172 4705 0 [some (.long x0), none, some (.long x2), none, some (.int x4), none, none, none, none, none, none] [] (hs σ) (pJ P)
def K_X11_lowest_6 (scr : ScA)  (x0 : Int64) (x2 : Int64) (x4 : Int32) (x5 : Int64) (x7 : Int64) (σ : Nat → Nat → Int32) (P : Int64 → (Nat → Nat → Int32) → Prop) : Prop := XA scr 0 mX11_lowest 172 4705 6 [some (.long x0), none, some (.long x2), none, some (.int x4), some (.long x5), none, some (.long x7), none, none, none] [] (hs σ) (pJ P)
set_option maxRecDepth 20000 in
theorem W_X11_lowest_0 {scr : ScA}   {x0 : Int64} {x2 : Int64} {x4 : Int32} {σ : Nat → Nat → Int32} {P : Int64 → (Nat → Nat → Int32) → Prop} (H : K_X11_lowest_6 scr x0 x2 x4 x0 x2 σ P) : K_X11_lowest_0 scr x0 x2 x4 σ P := by
  show XA scr 0 mX11_lowest 172 4705 0 [some (.long x0), none, some (.long x2), none, some (.int x4), none, none, none, none, none, none] [] (hs σ) (pJ P)
  refine XA.blk (e9 := 6) (ok := true) (ls' := [some (.long x0), none, some (.long x2), none, some (.int x4), some (.long x0), none, some (.long x2), none, none, none]) (st' := []) (h' := hs σ) [(.lload_n 0, 1, 0, 0, 0, 0, 0, 0), (.lstore 5, 2, 5, 0, 0, 0, 0, 0), (.lload_n 2, 1, 2, 0, 0, 0, 0, 0), (.lstore 7, 2, 7, 0, 0, 0, 0, 0)] (by decide +kernel) rfl rfl ?_
  exact H
set_option maxRecDepth 20000 in
theorem W_X11_lowest_6 {scr : ScA}   {x0 : Int64} {x2 : Int64} {x4 : Int32} {x5 : Int64} {x7 : Int64} {σ : Nat → Nat → Int32} {P : Int64 → (Nat → Nat → Int32) → Prop} (H : ((lg_cmp x7 0) = 0 → (¬ x4 = 0 → (¬ x5 = 0)) ∧ (x4 = 0 → (¬ x5 = 0)) ∧ (P (if ¬ x4 = 0 then x2 / x5 else x0 / x5) σ)) ∧ (¬ (lg_cmp x7 0) = 0 → (¬ x7 = 0) ∧ (K_X11_lowest_6 scr x0 x2 x4 x7 (x5 - x5 / x7 * x7) σ P))) : K_X11_lowest_6 scr x0 x2 x4 x5 x7 σ P := by
  show XA scr 0 mX11_lowest 172 4705 6 [some (.long x0), none, some (.long x2), none, some (.int x4), some (.long x5), none, some (.long x7), none, none, none] [] (hs σ) (pJ P)
  refine XA.blk (e9 := 10) (ok := true) (ls' := [some (.long x0), none, some (.long x2), none, some (.int x4), some (.long x5), none, some (.long x7), none, none, none]) (st' := [.int (lg_cmp x7 0)]) (h' := hs σ) [(.lload 7, 2, 7, 0, 0, 0, 0, 0), (.lconst 0, 1, 0, 0, 0, 0, 0, 0), (.lcmp, 1, 0, 0, 0, 0, 0, 0)] (by decide +kernel) rfl rfl ?_
  refine XA.if_eq (21) 31 (by decide +kernel) (fun c1 => ?_) (fun c1 => ?_)
  · have H := H.1 c1
    refine XA.blk (e9 := 33) (ok := true) (ls' := [some (.long x0), none, some (.long x2), none, some (.int x4), some (.long x5), none, some (.long x7), none, none, none]) (st' := [.int x4]) (h' := hs σ) [(.iload 4, 2, 4, 0, 0, 0, 0, 0)] (by decide +kernel) rfl rfl ?_
    obtain ⟨hT33, hF33, H⟩ := H
    have hJ33 : XA scr 0 mX11_lowest 172 4705 47 [none, none, none, none, none, none, none, none, none, none, none] [.long (if ¬ x4 = 0 then x2 / x5 else x0 / x5)] (hs σ) (pJ P) := by
      exact XA.ret (some (.long (if ¬ x4 = 0 then x2 / x5 else x0 / x5))) rfl (show ckRt mX11_lowest 47 .lreturn = true by decide +kernel) trivial (Nat.le_of_ble_eq_true rfl) (Nat.le_of_ble_eq_true rfl) ⟨_, _, rfl, rfl, H⟩
    refine XA.if_ne (10) 43 (by decide +kernel) (fun c2 => ?_) (fun c2 => ?_)
    · have H := hT33 c2
      have o1 := H
      refine XA.blk (e9 := 47) (ok := decide (¬ x5 = 0) && (true)) (ls' := [some (.long x0), none, some (.long x2), none, some (.int x4), some (.long x5), none, some (.long x7), none, none, none]) (st' := [.long (x2 / x5)]) (h' := hs σ) [(.lload_n 2, 1, 2, 0, 0, 0, 0, 0), (.lload 5, 2, 5, 0, 0, 0, 0, 0), (.ldiv, 1, 0, 0, 0, 0, 0, 0)] (by decide +kernel) rfl (by simp only [decide_eq_true o1, Bool.and_true, Bool.true_and]) ?_
      refine XA.drop (ls := [none, none, none, none, none, none, none, none, none, none, none]) (by simp [leL]) ?_
      simpa only [if_pos c2] using hJ33
    · have H := hF33 c2
      have o1 := H
      refine XA.blk (e9 := 47) (ok := decide (¬ x5 = 0) && (true)) (ls' := [some (.long x0), none, some (.long x2), none, some (.int x4), some (.long x5), none, some (.long x7), none, none, none]) (st' := [.long (x0 / x5)]) (h' := hs σ) [(.lload_n 0, 1, 0, 0, 0, 0, 0, 0), (.lload 5, 2, 5, 0, 0, 0, 0, 0), (.ldiv, 1, 0, 0, 0, 0, 0, 0), (.goto 7, 3, 47, 0, 0, 0, 0, 0)] (by decide +kernel) rfl (by simp only [decide_eq_true o1, Bool.and_true, Bool.true_and]) ?_
      refine XA.drop (ls := [none, none, none, none, none, none, none, none, none, none, none]) (by simp [leL]) ?_
      simpa only [if_neg (not_not_intro c2)] using hJ33
  · have H := H.2 c1
    obtain ⟨o1, H⟩ := H
    refine XA.blk (e9 := 6) (ok := decide (¬ x7 = 0) && (true)) (ls' := [some (.long x0), none, some (.long x2), none, some (.int x4), some (.long x7), none, some (.long (x5 - x5 / x7 * x7)), none, some (.long (x5 - x5 / x7 * x7)), none]) (st' := []) (h' := hs σ) [(.lload 5, 2, 5, 0, 0, 0, 0, 0), (.lload 7, 2, 7, 0, 0, 0, 0, 0), (.lrem, 1, 0, 0, 0, 0, 0, 0), (.lstore 9, 2, 9, 0, 0, 0, 0, 0), (.lload 7, 2, 7, 0, 0, 0, 0, 0), (.lstore 5, 2, 5, 0, 0, 0, 0, 0), (.lload 9, 2, 9, 0, 0, 0, 0, 0), (.lstore 7, 2, 7, 0, 0, 0, 0, 0), (.goto (-22), 3, 6, 0, 0, 0, 0, 0)] (by decide +kernel) rfl (by simp only [decide_eq_true o1, Bool.and_true, Bool.true_and]) ?_
    exact XA.drop (by simp [leL]) H
theorem E_X11_lowest {scr : ScA}  {x0 : Int64} {x2 : Int64} {x4 : Int32} {σ : Nat → Nat → Int32} {P : Int64 → (Nat → Nat → Int32) → Prop} (h : K_X11_lowest_0 scr x0 x2 x4 σ P) : ClA scr 0 mX11_lowest [.long x0, .long x2, .int x4] σ P := CtA.of (by decide) (Nat.le_of_ble_eq_true rfl) (XA.drop (by simp [leL, enL]) h)
def K_X0_part_0 (scr : ScA) (k : Nat) (x1 : Int32) (σ : Nat → Nat → Int32) (P : Int32 → (Nat → Nat → Int32) → Prop) : Prop := XA scr 0 mX0_part 172 4705 0 [some (.ref k), some (.int x1)] [] (hs σ) (pI P)
set_option maxRecDepth 20000 in
theorem W_X0_part_0 {scr : ScA} {k : Nat} (hk : isBe k) {x1 : Int32} {σ : Nat → Nat → Int32} {P : Int32 → (Nat → Nat → Int32) → Prop} (H : (x1 = 0 → P (σ k 0) σ) ∧ (x1 = 1 → P (σ k 1) σ) ∧ (¬ x1 = 0 → ¬ x1 = 1 → P (σ k 2) σ)) : K_X0_part_0 scr k x1 σ P := by
  show XA scr 0 mX0_part 172 4705 0 [some (.ref k), some (.int x1)] [] (hs σ) (pI P)
  refine XA.blk (e9 := 1) (ok := true) (ls' := [some (.ref k), some (.int x1)]) (st' := [.int x1]) (h' := hs σ) [(.iload_n 1, 1, 1, 0, 0, 0, 0, 0)] (by decide +kernel) rfl rfl ?_
  refine XA.lsw (37) [(0, 27), (1, 32)] 27 [(0, 28), (1, 33)] 38 (by decide +kernel) (fun q9 hq9 e9 => ?_) (fun e9 => ?_)
  · simp only [List.mem_cons, List.not_mem_nil, or_false] at hq9
    rcases hq9 with rfl | rfl
    · have H := H.1 e9
      refine XA.blk (e9 := 32) (ok := kO 172 S0 k 0 && (true)) (ls' := [some (.ref k), some (.int x1)]) (st' := [.int (σ k 0)]) (h' := hs σ) [(.aload_n 0, 1, 0, 0, 0, 0, 0, 0), (.getfield 9, 3, 0, 0, 0, 277, 0, 0)] (by decide +kernel) rfl (by simp only [beO hk, Bool.and_true, Bool.true_and]) ?_
      exact XA.ret (some (.int (σ k 0))) rfl (show ckRt mX0_part 32 .ireturn = true by decide +kernel) trivial (Nat.le_of_ble_eq_true rfl) (Nat.le_of_ble_eq_true rfl) ⟨_, _, rfl, rfl, H⟩
    · have H := H.2.1 e9
      refine XA.blk (e9 := 37) (ok := kO 172 S0 k 0 && (true)) (ls' := [some (.ref k), some (.int x1)]) (st' := [.int (σ k 1)]) (h' := hs σ) [(.aload_n 0, 1, 0, 0, 0, 0, 0, 0), (.getfield 15, 3, 0, 1, 0, 279, 0, 0)] (by decide +kernel) rfl (by simp only [beO hk, Bool.and_true, Bool.true_and]) ?_
      exact XA.ret (some (.int (σ k 1))) rfl (show ckRt mX0_part 37 .ireturn = true by decide +kernel) trivial (Nat.le_of_ble_eq_true rfl) (Nat.le_of_ble_eq_true rfl) ⟨_, _, rfl, rfl, H⟩
  · have H := H.2.2 (e9 (0, 28) (by simp)) (e9 (1, 33) (by simp))
    refine XA.blk (e9 := 42) (ok := kO 172 S0 k 0 && (true)) (ls' := [some (.ref k), some (.int x1)]) (st' := [.int (σ k 2)]) (h' := hs σ) [(.aload_n 0, 1, 0, 0, 0, 0, 0, 0), (.getfield 18, 3, 0, 2, 0, 280, 0, 0)] (by decide +kernel) rfl (by simp only [beO hk, Bool.and_true, Bool.true_and]) ?_
    exact XA.ret (some (.int (σ k 2))) rfl (show ckRt mX0_part 42 .ireturn = true by decide +kernel) trivial (Nat.le_of_ble_eq_true rfl) (Nat.le_of_ble_eq_true rfl) ⟨_, _, rfl, rfl, H⟩
theorem E_X0_part {scr : ScA} {k : Nat} {x1 : Int32} {σ : Nat → Nat → Int32} {P : Int32 → (Nat → Nat → Int32) → Prop} (h : K_X0_part_0 scr k x1 σ P) : CiA scr 0 mX0_part [.ref k, .int x1] σ P := CtA.of (by decide) (Nat.le_of_ble_eq_true rfl) (XA.drop (by simp [leL, enL]) h)
def K_X0_offer_0 (scr : ScA) (k : Nat) (x1 : Int32) (x2 : Int32) (x3 : Int32) (σ : Nat → Nat → Int32) (P : (Nat → Nat → Int32) → Prop) : Prop := XA scr 0 mX0_offer 172 4705 0 [some (.ref k), some (.int x1), some (.int x2), some (.int x3)] [] (hs σ) (pV P)
set_option maxRecDepth 20000 in
theorem W_X0_offer_0 {scr : ScA} {k : Nat} (hk : isBe k) {x1 : Int32} {x2 : Int32} {x3 : Int32} {σ : Nat → Nat → Int32} {P : (Nat → Nat → Int32) → Prop} (H : (x3 ≤ (σ k 2) → P σ) ∧ (¬ x3 ≤ (σ k 2) → ∀ σ1, σ1 = (su σ k 0 x1) → ∀ σ2, σ2 = (su σ1 k 1 x2) → ∀ σ3, σ3 = (su σ2 k 2 x3) → P σ3)) : K_X0_offer_0 scr k x1 x2 x3 σ P := by
  show XA scr 0 mX0_offer 172 4705 0 [some (.ref k), some (.int x1), some (.int x2), some (.int x3)] [] (hs σ) (pV P)
  refine XA.blk (e9 := 5) (ok := kO 172 S0 k 0 && (true)) (ls' := [some (.ref k), some (.int x1), some (.int x2), some (.int x3)]) (st' := [.int (σ k 2), .int x3]) (h' := hs σ) [(.iload_n 3, 1, 3, 0, 0, 0, 0, 0), (.aload_n 0, 1, 0, 0, 0, 0, 0, 0), (.getfield 18, 3, 0, 2, 0, 280, 0, 0)] (by decide +kernel) rfl (by simp only [beO hk, Bool.and_true, Bool.true_and]) ?_
  refine XA.icmp_le (18) 23 (by decide +kernel) (fun c1 => ?_) (fun c1 => ?_)
  · have H := H.1 c1
    exact XA.ret none rfl (show ckRt mX0_offer 23 .return_ = true by decide +kernel) trivial (Nat.le_of_ble_eq_true rfl) (Nat.le_of_ble_eq_true rfl) ⟨_, rfl, rfl, H⟩
  · have H := H.2 c1
    refine XA.blk (e9 := 13) (ok := kO 172 S0 k 0 && (true)) (ls' := [some (.ref k), some (.int x1), some (.int x2), some (.int x3)]) (st' := []) (h' := hs (su σ k 0 x1)) [(.aload_n 0, 1, 0, 0, 0, 0, 0, 0), (.iload_n 1, 1, 1, 0, 0, 0, 0, 0), (.putfield 9, 3, 0, 0, 0, 277, 0, 0)] (by decide +kernel) rfl (by simp only [beO hk, Bool.and_true, Bool.true_and]) ?_
    obtain ⟨σ1, hσ1⟩ : ∃ s9, s9 = (su σ k 0 x1) := ⟨_, rfl⟩
    rw [← hσ1]
    have H := H σ1 hσ1
    refine XA.blk (e9 := 18) (ok := kO 172 S0 k 0 && (true)) (ls' := [some (.ref k), some (.int x1), some (.int x2), some (.int x3)]) (st' := []) (h' := hs (su σ1 k 1 x2)) [(.aload_n 0, 1, 0, 0, 0, 0, 0, 0), (.iload_n 2, 1, 2, 0, 0, 0, 0, 0), (.putfield 15, 3, 0, 1, 0, 279, 0, 0)] (by decide +kernel) rfl (by simp only [beO hk, Bool.and_true, Bool.true_and]) ?_
    obtain ⟨σ2, hσ2⟩ : ∃ s9, s9 = (su σ1 k 1 x2) := ⟨_, rfl⟩
    rw [← hσ2]
    have H := H σ2 hσ2
    refine XA.blk (e9 := 23) (ok := kO 172 S0 k 0 && (true)) (ls' := [some (.ref k), some (.int x1), some (.int x2), some (.int x3)]) (st' := []) (h' := hs (su σ2 k 2 x3)) [(.aload_n 0, 1, 0, 0, 0, 0, 0, 0), (.iload_n 3, 1, 3, 0, 0, 0, 0, 0), (.putfield 18, 3, 0, 2, 0, 280, 0, 0)] (by decide +kernel) rfl (by simp only [beO hk, Bool.and_true, Bool.true_and]) ?_
    obtain ⟨σ3, hσ3⟩ : ∃ s9, s9 = (su σ2 k 2 x3) := ⟨_, rfl⟩
    rw [← hσ3]
    have H := H σ3 hσ3
    exact XA.ret none rfl (show ckRt mX0_offer 23 .return_ = true by decide +kernel) trivial (Nat.le_of_ble_eq_true rfl) (Nat.le_of_ble_eq_true rfl) ⟨_, rfl, rfl, H⟩
theorem E_X0_offer {scr : ScA} {k : Nat} {x1 : Int32} {x2 : Int32} {x3 : Int32} {σ : Nat → Nat → Int32} {P : (Nat → Nat → Int32) → Prop} (h : K_X0_offer_0 scr k x1 x2 x3 σ P) : CvA scr 0 mX0_offer [.ref k, .int x1, .int x2, .int x3] σ P := CtA.of (by decide) (Nat.le_of_ble_eq_true rfl) (XA.drop (by simp [leL, enL]) h)
def K_X0_begin_0 (scr : ScA) (k : Nat)  (σ : Nat → Nat → Int32) (P : (Nat → Nat → Int32) → Prop) : Prop := XA scr 0 mX0_begin 172 4705 0 [some (.ref k)] [] (hs σ) (pV P)
set_option maxRecDepth 20000 in
theorem W_X0_begin_0 {scr : ScA} {k : Nat} (hk : isBe k)  {σ : Nat → Nat → Int32} {P : (Nat → Nat → Int32) → Prop} (H : ∀ σ1, σ1 = (su σ k 0 (-1)) → ∀ σ2, σ2 = (su σ1 k 1 (-1)) → ∀ σ3, σ3 = (su σ2 k 2 (-1)) → ∀ σ4, σ4 = (su σ3 k 3 1) → P σ4) : K_X0_begin_0 scr k σ P := by
  show XA scr 0 mX0_begin 172 4705 0 [some (.ref k)] [] (hs σ) (pV P)
  refine XA.blk (e9 := 5) (ok := kO 172 S0 k 0 && (true)) (ls' := [some (.ref k)]) (st' := []) (h' := hs (su σ k 0 (-1))) [(.aload_n 0, 1, 0, 0, 0, 0, 0, 0), (.iconst (-1), 1, 0, 0, 0, 0, (-1), 0), (.putfield 9, 3, 0, 0, 0, 277, 0, 0)] (by decide +kernel) rfl (by simp only [beO hk, Bool.and_true, Bool.true_and]) ?_
  obtain ⟨σ1, hσ1⟩ : ∃ s9, s9 = (su σ k 0 (-1)) := ⟨_, rfl⟩
  rw [← hσ1]
  have H := H σ1 hσ1
  refine XA.blk (e9 := 10) (ok := kO 172 S0 k 0 && (true)) (ls' := [some (.ref k)]) (st' := []) (h' := hs (su σ1 k 1 (-1))) [(.aload_n 0, 1, 0, 0, 0, 0, 0, 0), (.iconst (-1), 1, 0, 0, 0, 0, (-1), 0), (.putfield 15, 3, 0, 1, 0, 279, 0, 0)] (by decide +kernel) rfl (by simp only [beO hk, Bool.and_true, Bool.true_and]) ?_
  obtain ⟨σ2, hσ2⟩ : ∃ s9, s9 = (su σ1 k 1 (-1)) := ⟨_, rfl⟩
  rw [← hσ2]
  have H := H σ2 hσ2
  refine XA.blk (e9 := 15) (ok := kO 172 S0 k 0 && (true)) (ls' := [some (.ref k)]) (st' := []) (h' := hs (su σ2 k 2 (-1))) [(.aload_n 0, 1, 0, 0, 0, 0, 0, 0), (.iconst (-1), 1, 0, 0, 0, 0, (-1), 0), (.putfield 18, 3, 0, 2, 0, 280, 0, 0)] (by decide +kernel) rfl (by simp only [beO hk, Bool.and_true, Bool.true_and]) ?_
  obtain ⟨σ3, hσ3⟩ : ∃ s9, s9 = (su σ2 k 2 (-1)) := ⟨_, rfl⟩
  rw [← hσ3]
  have H := H σ3 hσ3
  refine XA.blk (e9 := 20) (ok := (kO 172 S0 k 0 && true) && (true)) (ls' := [some (.ref k)]) (st' := []) (h' := hs (su σ3 k 3 1)) [(.aload_n 0, 1, 0, 0, 0, 0, 0, 0), (.iconst 1, 1, 0, 0, 0, 0, 1, 0), (.putfield 21, 3, 0, 3, 2, 283, 0, 0)] (by decide +kernel) rfl (by simp only [beO hk, Bool.and_true, Bool.true_and]) ?_
  obtain ⟨σ4, hσ4⟩ : ∃ s9, s9 = (su σ3 k 3 1) := ⟨_, rfl⟩
  rw [← hσ4]
  have H := H σ4 hσ4
  exact XA.ret none rfl (show ckRt mX0_begin 20 .return_ = true by decide +kernel) trivial (Nat.le_of_ble_eq_true rfl) (Nat.le_of_ble_eq_true rfl) ⟨_, rfl, rfl, H⟩
theorem E_X0_begin {scr : ScA} {k : Nat}  {σ : Nat → Nat → Int32} {P : (Nat → Nat → Int32) → Prop} (h : K_X0_begin_0 scr k σ P) : CvA scr 0 mX0_begin [.ref k] σ P := CtA.of (by decide) (Nat.le_of_ble_eq_true rfl) (XA.drop (by simp [leL, enL]) h)
def K_X4_hasRange_0 (scr : ScA) (k : Nat) (x1 : Int32) (x2 : Int32) (σ : Nat → Nat → Int32) (P : Int32 → (Nat → Nat → Int32) → Prop) : Prop := XA scr 0 mX4_hasRange 172 4705 0 [some (.ref k), some (.int x1), some (.int x2)] [] (hs σ) (pI P)
set_option maxRecDepth 20000 in
theorem W_X4_hasRange_0 {scr : ScA} {k : Nat} (hk : isSe k) {x1 : Int32} {x2 : Int32} {σ : Nat → Nat → Int32} {P : Int32 → (Nat → Nat → Int32) → Prop} (H : ((if x1 < 0 then 0 else if x2 < 0 then 0 else if (σ k 2) < x1 then 0 else if ((σ k 2) - x1) < x2 then 0 else 1 : Int32) = 0 ∨ (if x1 < 0 then 0 else if x2 < 0 then 0 else if (σ k 2) < x1 then 0 else if ((σ k 2) - x1) < x2 then 0 else 1 : Int32) = 1) ∧ P (if x1 < 0 then 0 else if x2 < 0 then 0 else if (σ k 2) < x1 then 0 else if ((σ k 2) - x1) < x2 then 0 else 1) σ) : K_X4_hasRange_0 scr k x1 x2 σ P := by
  show XA scr 0 mX4_hasRange 172 4705 0 [some (.ref k), some (.int x1), some (.int x2)] [] (hs σ) (pI P)
  refine XA.blk (e9 := 1) (ok := true) (ls' := [some (.ref k), some (.int x1), some (.int x2)]) (st' := [.int x1]) (h' := hs σ) [(.iload_n 1, 1, 1, 0, 0, 0, 0, 0)] (by decide +kernel) rfl rfl ?_
  have hJ1 : XA scr 0 mX4_hasRange 172 4705 31 [none, none, none] [.int (if x1 < 0 then 0 else if x2 < 0 then 0 else if (σ k 2) < x1 then 0 else if ((σ k 2) - x1) < x2 then 0 else 1)] (hs σ) (pI P) := by
    exact XA.ret (some (.int (if x1 < 0 then 0 else if x2 < 0 then 0 else if (σ k 2) < x1 then 0 else if ((σ k 2) - x1) < x2 then 0 else 1))) rfl (show ckRt mX4_hasRange 31 .ireturn = true by decide +kernel) H.1 (Nat.le_of_ble_eq_true rfl) (Nat.le_of_ble_eq_true rfl) ⟨_, _, rfl, rfl, H.2⟩
  refine XA.if_lt (29) 30 (by decide +kernel) (fun c1 => ?_) (fun c1 => ?_)
  · refine XA.blk (e9 := 31) (ok := true) (ls' := [some (.ref k), some (.int x1), some (.int x2)]) (st' := [.int 0]) (h' := hs σ) [(.iconst 0, 1, 0, 0, 0, 0, 0, 0)] (by decide +kernel) rfl rfl ?_
    refine XA.drop (ls := [none, none, none]) (by simp [leL]) ?_
    simpa only [if_pos c1] using hJ1
  · refine XA.blk (e9 := 5) (ok := true) (ls' := [some (.ref k), some (.int x1), some (.int x2)]) (st' := [.int x2]) (h' := hs σ) [(.iload_n 2, 1, 2, 0, 0, 0, 0, 0)] (by decide +kernel) rfl rfl ?_
    have hJ5 : XA scr 0 mX4_hasRange 172 4705 31 [none, none, none] [.int (if x2 < 0 then 0 else if (σ k 2) < x1 then 0 else if ((σ k 2) - x1) < x2 then 0 else 1)] (hs σ) (pI P) := by
      simpa only [if_neg c1] using hJ1
    refine XA.if_lt (25) 30 (by decide +kernel) (fun c2 => ?_) (fun c2 => ?_)
    · refine XA.blk (e9 := 31) (ok := true) (ls' := [some (.ref k), some (.int x1), some (.int x2)]) (st' := [.int 0]) (h' := hs σ) [(.iconst 0, 1, 0, 0, 0, 0, 0, 0)] (by decide +kernel) rfl rfl ?_
      refine XA.drop (ls := [none, none, none]) (by simp [leL]) ?_
      simpa only [if_pos c2] using hJ5
    · refine XA.blk (e9 := 13) (ok := kO 172 S0 k 4 && (true)) (ls' := [some (.ref k), some (.int x1), some (.int x2)]) (st' := [.int (σ k 2), .int x1]) (h' := hs σ) [(.iload_n 1, 1, 1, 0, 0, 0, 0, 0), (.aload_n 0, 1, 0, 0, 0, 0, 0, 0), (.getfield 38, 3, 4, 2, 0, 385, 0, 0)] (by decide +kernel) rfl (by simp only [seO hk, Bool.and_true, Bool.true_and]) ?_
      have hJ13 : XA scr 0 mX4_hasRange 172 4705 31 [none, none, none] [.int (if (σ k 2) < x1 then 0 else if ((σ k 2) - x1) < x2 then 0 else 1)] (hs σ) (pI P) := by
        simpa only [if_neg c2] using hJ5
      refine XA.icmp_gt (17) 30 (by decide +kernel) (fun c3 => ?_) (fun c3 => ?_)
      · refine XA.blk (e9 := 31) (ok := true) (ls' := [some (.ref k), some (.int x1), some (.int x2)]) (st' := [.int 0]) (h' := hs σ) [(.iconst 0, 1, 0, 0, 0, 0, 0, 0)] (by decide +kernel) rfl rfl ?_
        refine XA.drop (ls := [none, none, none]) (by simp [leL]) ?_
        simpa only [if_pos c3] using hJ13
      · refine XA.blk (e9 := 23) (ok := kO 172 S0 k 4 && (true)) (ls' := [some (.ref k), some (.int x1), some (.int x2)]) (st' := [.int ((σ k 2) - x1), .int x2]) (h' := hs σ) [(.iload_n 2, 1, 2, 0, 0, 0, 0, 0), (.aload_n 0, 1, 0, 0, 0, 0, 0, 0), (.getfield 38, 3, 4, 2, 0, 385, 0, 0), (.iload_n 1, 1, 1, 0, 0, 0, 0, 0), (.isub, 1, 0, 0, 0, 0, 0, 0)] (by decide +kernel) rfl (by simp only [seO hk, Bool.and_true, Bool.true_and]) ?_
        have hJ23 : XA scr 0 mX4_hasRange 172 4705 31 [none, none, none] [.int (if ((σ k 2) - x1) < x2 then 0 else 1)] (hs σ) (pI P) := by
          simpa only [if_neg c3] using hJ13
        refine XA.icmp_gt (7) 30 (by decide +kernel) (fun c4 => ?_) (fun c4 => ?_)
        · refine XA.blk (e9 := 31) (ok := true) (ls' := [some (.ref k), some (.int x1), some (.int x2)]) (st' := [.int 0]) (h' := hs σ) [(.iconst 0, 1, 0, 0, 0, 0, 0, 0)] (by decide +kernel) rfl rfl ?_
          refine XA.drop (ls := [none, none, none]) (by simp [leL]) ?_
          simpa only [if_pos c4] using hJ23
        · refine XA.blk (e9 := 31) (ok := true) (ls' := [some (.ref k), some (.int x1), some (.int x2)]) (st' := [.int 1]) (h' := hs σ) [(.iconst 1, 1, 0, 0, 0, 0, 1, 0), (.goto 4, 3, 31, 0, 0, 0, 0, 0)] (by decide +kernel) rfl rfl ?_
          refine XA.drop (ls := [none, none, none]) (by simp [leL]) ?_
          simpa only [if_neg c4] using hJ23
theorem E_X4_hasRange {scr : ScA} {k : Nat} {x1 : Int32} {x2 : Int32} {σ : Nat → Nat → Int32} {P : Int32 → (Nat → Nat → Int32) → Prop} (h : K_X4_hasRange_0 scr k x1 x2 σ P) : CiA scr 0 mX4_hasRange [.ref k, .int x1, .int x2] σ P := CtA.of (by decide) (Nat.le_of_ble_eq_true rfl) (XA.drop (by simp [leL, enL]) h)
def K_X6_add_0 (scr : ScA)  (x1 : Int32) (x2 : Int32) (x3 : Int32) (σ : Nat → Nat → Int32) (P : (Nat → Nat → Int32) → Prop) : Prop := XA scr 0 mX6_add 172 4705 0 [some (.ref 14), some (.int x1), some (.int x2), some (.int x3)] [] (hs σ) (pV P)
set_option maxRecDepth 20000 in
theorem W_X6_add_0 {scr : ScA}   {x1 : Int32} {x2 : Int32} {x3 : Int32} {σ : Nat → Nat → Int32} {P : (Nat → Nat → Int32) → Prop} (H : (8 ≤ (σ 14 3) → P σ) ∧ (¬ 8 ≤ (σ 14 3) → (inB (σ 14 3) 8 = true) ∧ (∀ σ1, σ1 = (su σ 15 (Int32.toNatClampNeg (σ 14 3)) x1) → (inB (σ1 14 3) 8 = true) ∧ (∀ σ2, σ2 = (su σ1 16 (Int32.toNatClampNeg (σ1 14 3)) x2) → (inB (σ2 14 3) 8 = true) ∧ (∀ σ3, σ3 = (su σ2 17 (Int32.toNatClampNeg (σ2 14 3)) (if ¬ x3 = 10 then x3 else (-1))) → ∀ σ4, σ4 = (su σ3 14 3 ((σ3 14 3) + 1)) → P σ4))))) : K_X6_add_0 scr x1 x2 x3 σ P := by
  show XA scr 0 mX6_add 172 4705 0 [some (.ref 14), some (.int x1), some (.int x2), some (.int x3)] [] (hs σ) (pV P)
  refine XA.blk (e9 := 6) (ok := true) (ls' := [some (.ref 14), some (.int x1), some (.int x2), some (.int x3)]) (st' := [.int 8, .int (σ 14 3)]) (h' := hs σ) [(.aload_n 0, 1, 0, 0, 0, 0, 0, 0), (.getfield 21, 3, 6, 3, 0, 194, 0, 0), (.bipush 8, 2, 0, 0, 0, 0, 8, 0)] (by decide +kernel) rfl rfl ?_
  refine XA.icmp_ge (53) 59 (by decide +kernel) (fun c1 => ?_) (fun c1 => ?_)
  · have H := H.1 c1
    exact XA.ret none rfl (show ckRt mX6_add 59 .return_ = true by decide +kernel) trivial (Nat.le_of_ble_eq_true rfl) (Nat.le_of_ble_eq_true rfl) ⟨_, rfl, rfl, H⟩
  · have H := H.2 c1
    obtain ⟨o1, H⟩ := H
    refine XA.blk (e9 := 19) (ok := inB (σ 14 3) 8 && (true)) (ls' := [some (.ref 14), some (.int x1), some (.int x2), some (.int x3)]) (st' := []) (h' := hs (su σ 15 (Int32.toNatClampNeg (σ 14 3)) x1)) [(.aload_n 0, 1, 0, 0, 0, 0, 0, 0), (.getfield 9, 3, 6, 0, 2, 191, 0, 0), (.aload_n 0, 1, 0, 0, 0, 0, 0, 0), (.getfield 21, 3, 6, 3, 0, 194, 0, 0), (.iload_n 1, 1, 1, 0, 0, 0, 0, 0), (.iastore, 1, 0, 0, 0, 0, 0, 0)] (by decide +kernel) rfl (by simp only [o1, Bool.and_true, Bool.true_and]) ?_
    obtain ⟨σ1, hσ1⟩ : ∃ s9, s9 = (su σ 15 (Int32.toNatClampNeg (σ 14 3)) x1) := ⟨_, rfl⟩
    rw [← hσ1]
    have H := H σ1 hσ1
    obtain ⟨o2, H⟩ := H
    refine XA.blk (e9 := 29) (ok := inB (σ1 14 3) 8 && (true)) (ls' := [some (.ref 14), some (.int x1), some (.int x2), some (.int x3)]) (st' := []) (h' := hs (su σ1 16 (Int32.toNatClampNeg (σ1 14 3)) x2)) [(.aload_n 0, 1, 0, 0, 0, 0, 0, 0), (.getfield 15, 3, 6, 1, 3, 192, 0, 0), (.aload_n 0, 1, 0, 0, 0, 0, 0, 0), (.getfield 21, 3, 6, 3, 0, 194, 0, 0), (.iload_n 2, 1, 2, 0, 0, 0, 0, 0), (.iastore, 1, 0, 0, 0, 0, 0, 0)] (by decide +kernel) rfl (by simp only [o2, Bool.and_true, Bool.true_and]) ?_
    obtain ⟨σ2, hσ2⟩ : ∃ s9, s9 = (su σ1 16 (Int32.toNatClampNeg (σ1 14 3)) x2) := ⟨_, rfl⟩
    rw [← hσ2]
    have H := H σ2 hσ2
    refine XA.blk (e9 := 40) (ok := true) (ls' := [some (.ref 14), some (.int x1), some (.int x2), some (.int x3)]) (st' := [.int 10, .int x3, .int (σ2 14 3), .ref 17]) (h' := hs σ2) [(.aload_n 0, 1, 0, 0, 0, 0, 0, 0), (.getfield 18, 3, 6, 2, 4, 193, 0, 0), (.aload_n 0, 1, 0, 0, 0, 0, 0, 0), (.getfield 21, 3, 6, 3, 0, 194, 0, 0), (.iload_n 3, 1, 3, 0, 0, 0, 0, 0), (.bipush 10, 2, 0, 0, 0, 0, 10, 0)] (by decide +kernel) rfl rfl ?_
    have hJ40 : XA scr 0 mX6_add 172 4705 48 [some (.ref 14), none, none, none] [.int (if ¬ x3 = 10 then x3 else (-1)), .int (σ2 14 3), .ref 17] (hs σ2) (pV P) := by
      obtain ⟨o3, H⟩ := H
      refine XA.blk (e9 := 49) (ok := inB (σ2 14 3) 8 && (true)) (ls' := [some (.ref 14), none, none, none]) (st' := []) (h' := hs (su σ2 17 (Int32.toNatClampNeg (σ2 14 3)) (if ¬ x3 = 10 then x3 else (-1)))) [(.iastore, 1, 0, 0, 0, 0, 0, 0)] (by decide +kernel) rfl (by simp only [o3, Bool.and_true, Bool.true_and]) ?_
      obtain ⟨σ3, hσ3⟩ : ∃ s9, s9 = (su σ2 17 (Int32.toNatClampNeg (σ2 14 3)) (if ¬ x3 = 10 then x3 else (-1))) := ⟨_, rfl⟩
      rw [← hσ3]
      have H := H σ3 hσ3
      refine XA.blk (e9 := 59) (ok := true) (ls' := [some (.ref 14), none, none, none]) (st' := []) (h' := hs (su σ3 14 3 ((σ3 14 3) + 1))) [(.aload_n 0, 1, 0, 0, 0, 0, 0, 0), (.dup, 1, 0, 0, 0, 0, 0, 0), (.getfield 21, 3, 6, 3, 0, 194, 0, 0), (.iconst 1, 1, 0, 0, 0, 0, 1, 0), (.iadd, 1, 0, 0, 0, 0, 0, 0), (.putfield 21, 3, 6, 3, 0, 194, 0, 0)] (by decide +kernel) rfl rfl ?_
      obtain ⟨σ4, hσ4⟩ : ∃ s9, s9 = (su σ3 14 3 ((σ3 14 3) + 1)) := ⟨_, rfl⟩
      rw [← hσ4]
      have H := H σ4 hσ4
      exact XA.ret none rfl (show ckRt mX6_add 59 .return_ = true by decide +kernel) trivial (Nat.le_of_ble_eq_true rfl) (Nat.le_of_ble_eq_true rfl) ⟨_, rfl, rfl, H⟩
    refine XA.icmp_ne (7) 47 (by decide +kernel) (fun c2 => ?_) (fun c2 => ?_)
    · refine XA.blk (e9 := 48) (ok := true) (ls' := [some (.ref 14), some (.int x1), some (.int x2), some (.int x3)]) (st' := [.int x3, .int (σ2 14 3), .ref 17]) (h' := hs σ2) [(.iload_n 3, 1, 3, 0, 0, 0, 0, 0)] (by decide +kernel) rfl rfl ?_
      refine XA.drop (ls := [some (.ref 14), none, none, none]) (by simp [leL]) ?_
      simpa only [if_pos c2] using hJ40
    · refine XA.blk (e9 := 48) (ok := true) (ls' := [some (.ref 14), some (.int x1), some (.int x2), some (.int x3)]) (st' := [.int (-1), .int (σ2 14 3), .ref 17]) (h' := hs σ2) [(.iconst (-1), 1, 0, 0, 0, 0, (-1), 0), (.goto 4, 3, 48, 0, 0, 0, 0, 0)] (by decide +kernel) rfl rfl ?_
      refine XA.drop (ls := [some (.ref 14), none, none, none]) (by simp [leL]) ?_
      simpa only [if_neg (not_not_intro c2)] using hJ40
theorem E_X6_add {scr : ScA}  {x1 : Int32} {x2 : Int32} {x3 : Int32} {σ : Nat → Nat → Int32} {P : (Nat → Nat → Int32) → Prop} (h : K_X6_add_0 scr x1 x2 x3 σ P) : CvA scr 0 mX6_add [.ref 14, .int x1, .int x2, .int x3] σ P := CtA.of (by decide) (Nat.le_of_ble_eq_true rfl) (XA.drop (by simp [leL, enL]) h)
def K_X7_append_0 (scr : ScA)  (x1 : Int32) (σ : Nat → Nat → Int32) (P : (Nat → Nat → Int32) → Prop) : Prop := XA scr 0 mX7_append 172 4705 0 [some (.ref 1), some (.int x1)] [] (hs σ) (pV P)
set_option maxRecDepth 20000 in
theorem W_X7_append_0 {scr : ScA}   {x1 : Int32} {σ : Nat → Nat → Int32} {P : (Nat → Nat → Int32) → Prop} (H : (59 ≤ (σ 1 1) → P σ) ∧ (¬ 59 ≤ (σ 1 1) → (inB (σ 1 1) 59 = true) ∧ (∀ σ1, σ1 = (su σ 2 (Int32.toNatClampNeg (σ 1 1)) x1) → ∀ σ2, σ2 = (su σ1 1 1 ((σ1 1 1) + 1)) → P σ2))) : K_X7_append_0 scr x1 σ P := by
  show XA scr 0 mX7_append 172 4705 0 [some (.ref 1), some (.int x1)] [] (hs σ) (pV P)
  refine XA.blk (e9 := 6) (ok := true) (ls' := [some (.ref 1), some (.int x1)]) (st' := [.int 59, .int (σ 1 1)]) (h' := hs σ) [(.aload_n 0, 1, 0, 0, 0, 0, 0, 0), (.getfield 15, 3, 7, 1, 0, 96, 0, 0), (.bipush 59, 2, 0, 0, 0, 0, 59, 0)] (by decide +kernel) rfl rfl ?_
  refine XA.icmp_ge (23) 29 (by decide +kernel) (fun c1 => ?_) (fun c1 => ?_)
  · have H := H.1 c1
    exact XA.ret none rfl (show ckRt mX7_append 29 .return_ = true by decide +kernel) trivial (Nat.le_of_ble_eq_true rfl) (Nat.le_of_ble_eq_true rfl) ⟨_, rfl, rfl, H⟩
  · have H := H.2 c1
    obtain ⟨o1, H⟩ := H
    refine XA.blk (e9 := 19) (ok := inB (σ 1 1) 59 && (true)) (ls' := [some (.ref 1), some (.int x1)]) (st' := []) (h' := hs (su σ 2 (Int32.toNatClampNeg (σ 1 1)) x1)) [(.aload_n 0, 1, 0, 0, 0, 0, 0, 0), (.getfield 9, 3, 7, 0, 2, 95, 0, 0), (.aload_n 0, 1, 0, 0, 0, 0, 0, 0), (.getfield 15, 3, 7, 1, 0, 96, 0, 0), (.iload_n 1, 1, 1, 0, 0, 0, 0, 0), (.iastore, 1, 0, 0, 0, 0, 0, 0)] (by decide +kernel) rfl (by simp only [o1, Bool.and_true, Bool.true_and]) ?_
    obtain ⟨σ1, hσ1⟩ : ∃ s9, s9 = (su σ 2 (Int32.toNatClampNeg (σ 1 1)) x1) := ⟨_, rfl⟩
    rw [← hσ1]
    have H := H σ1 hσ1
    refine XA.blk (e9 := 29) (ok := true) (ls' := [some (.ref 1), some (.int x1)]) (st' := []) (h' := hs (su σ1 1 1 ((σ1 1 1) + 1))) [(.aload_n 0, 1, 0, 0, 0, 0, 0, 0), (.dup, 1, 0, 0, 0, 0, 0, 0), (.getfield 15, 3, 7, 1, 0, 96, 0, 0), (.iconst 1, 1, 0, 0, 0, 0, 1, 0), (.iadd, 1, 0, 0, 0, 0, 0, 0), (.putfield 15, 3, 7, 1, 0, 96, 0, 0)] (by decide +kernel) rfl rfl ?_
    obtain ⟨σ2, hσ2⟩ : ∃ s9, s9 = (su σ1 1 1 ((σ1 1 1) + 1)) := ⟨_, rfl⟩
    rw [← hσ2]
    have H := H σ2 hσ2
    exact XA.ret none rfl (show ckRt mX7_append 29 .return_ = true by decide +kernel) trivial (Nat.le_of_ble_eq_true rfl) (Nat.le_of_ble_eq_true rfl) ⟨_, rfl, rfl, H⟩
theorem E_X7_append {scr : ScA}  {x1 : Int32} {σ : Nat → Nat → Int32} {P : (Nat → Nat → Int32) → Prop} (h : K_X7_append_0 scr x1 σ P) : CvA scr 0 mX7_append [.ref 1, .int x1] σ P := CtA.of (by decide) (Nat.le_of_ble_eq_true rfl) (XA.drop (by simp [leL, enL]) h)
def K_X9_forgetAnswers_0 (scr : ScA)   (σ : Nat → Nat → Int32) (P : (Nat → Nat → Int32) → Prop) : Prop := XA scr 0 mX9_forgetAnswers 172 4705 0 [some (.ref 106)] [] (hs σ) (pV P)
set_option maxRecDepth 20000 in
theorem W_X9_forgetAnswers_0 {scr : ScA}    {σ : Nat → Nat → Int32} {P : (Nat → Nat → Int32) → Prop} (H : ∀ σ1, σ1 = (su σ 106 3 0) → P σ1) : K_X9_forgetAnswers_0 scr σ P := by
  show XA scr 0 mX9_forgetAnswers 172 4705 0 [some (.ref 106)] [] (hs σ) (pV P)
  refine XA.blk (e9 := 5) (ok := true) (ls' := [some (.ref 106)]) (st' := []) (h' := hs (su σ 106 3 0)) [(.aload_n 0, 1, 0, 0, 0, 0, 0, 0), (.iconst 0, 1, 0, 0, 0, 0, 0, 0), (.putfield 31, 3, 9, 3, 2, 364, 0, 0)] (by decide +kernel) rfl rfl ?_
  obtain ⟨σ1, hσ1⟩ : ∃ s9, s9 = (su σ 106 3 0) := ⟨_, rfl⟩
  rw [← hσ1]
  have H := H σ1 hσ1
  exact XA.ret none rfl (show ckRt mX9_forgetAnswers 5 .return_ = true by decide +kernel) trivial (Nat.le_of_ble_eq_true rfl) (Nat.le_of_ble_eq_true rfl) ⟨_, rfl, rfl, H⟩
theorem E_X9_forgetAnswers {scr : ScA}   {σ : Nat → Nat → Int32} {P : (Nat → Nat → Int32) → Prop} (h : K_X9_forgetAnswers_0 scr σ P) : CvA scr 0 mX9_forgetAnswers [.ref 106] σ P := CtA.of (by decide) (Nat.le_of_ble_eq_true rfl) (XA.drop (by simp [leL, enL]) h)
def K_X3_forgetAnswers_0 (scr : ScA)   (σ : Nat → Nat → Int32) (P : (Nat → Nat → Int32) → Prop) : Prop := XA scr 0 mX3_forgetAnswers 172 4705 0 [some (.ref 49), none] [] (hs σ) (pV P)
def K_X3_forgetAnswers_18 (scr : ScA)  (x1 : Int32) (σ : Nat → Nat → Int32) (P : (Nat → Nat → Int32) → Prop) : Prop := XA scr 0 mX3_forgetAnswers 172 4705 18 [some (.ref 49), some (.int x1)] [] (hs σ) (pV P)
set_option maxRecDepth 20000 in
theorem W_X3_forgetAnswers_0 {scr : ScA}    {σ : Nat → Nat → Int32} {P : (Nat → Nat → Int32) → Prop} (H : ∀ σ1, σ1 = (su σ 64 3 0) → ∀ σ2, σ2 = (su σ1 65 3 0) → K_X3_forgetAnswers_18 scr 0 σ2 P) : K_X3_forgetAnswers_0 scr σ P := by
  show XA scr 0 mX3_forgetAnswers 172 4705 0 [some (.ref 49), none] [] (hs σ) (pV P)
  refine XA.blk (e9 := 8) (ok := true) (ls' := [some (.ref 49), none]) (st' := []) (h' := hs (su σ 64 3 0)) [(.aload_n 0, 1, 0, 0, 0, 0, 0, 0), (.getfield 30, 3, 3, 2, 16, 296, 0, 0), (.iconst 0, 1, 0, 0, 0, 0, 0, 0), (.putfield 41, 3, 0, 3, 2, 282, 0, 0)] (by decide +kernel) rfl rfl ?_
  obtain ⟨σ1, hσ1⟩ : ∃ s9, s9 = (su σ 64 3 0) := ⟨_, rfl⟩
  rw [← hσ1]
  have H := H σ1 hσ1
  refine XA.blk (e9 := 16) (ok := true) (ls' := [some (.ref 49), none]) (st' := []) (h' := hs (su σ1 65 3 0)) [(.aload_n 0, 1, 0, 0, 0, 0, 0, 0), (.getfield 34, 3, 3, 3, 17, 297, 0, 0), (.iconst 0, 1, 0, 0, 0, 0, 0, 0), (.putfield 41, 3, 0, 3, 2, 282, 0, 0)] (by decide +kernel) rfl rfl ?_
  obtain ⟨σ2, hσ2⟩ : ∃ s9, s9 = (su σ1 65 3 0) := ⟨_, rfl⟩
  rw [← hσ2]
  have H := H σ2 hσ2
  refine XA.blk (e9 := 18) (ok := true) (ls' := [some (.ref 49), some (.int 0)]) (st' := []) (h' := hs σ2) [(.iconst 0, 1, 0, 0, 0, 0, 0, 0), (.istore_n 1, 1, 1, 0, 0, 0, 0, 0)] (by decide +kernel) rfl rfl ?_
  exact H
set_option maxRecDepth 20000 in
theorem W_X3_forgetAnswers_18 {scr : ScA}   {x1 : Int32} {σ : Nat → Nat → Int32} {P : (Nat → Nat → Int32) → Prop} (H : (10 ≤ x1 → P σ) ∧ (¬ 10 ≤ x1 → (inB x1 10 = true) ∧ (∀ σ1, σ1 = (su σ (66 + 1 + 1 * Int32.toNatClampNeg x1) 3 0) → K_X3_forgetAnswers_18 scr (x1 + 1) σ1 P))) : K_X3_forgetAnswers_18 scr x1 σ P := by
  show XA scr 0 mX3_forgetAnswers 172 4705 18 [some (.ref 49), some (.int x1)] [] (hs σ) (pV P)
  refine XA.blk (e9 := 21) (ok := true) (ls' := [some (.ref 49), some (.int x1)]) (st' := [.int 10, .int x1]) (h' := hs σ) [(.iload_n 1, 1, 1, 0, 0, 0, 0, 0), (.bipush 10, 2, 0, 0, 0, 0, 10, 0)] (by decide +kernel) rfl rfl ?_
  refine XA.icmp_ge (19) 40 (by decide +kernel) (fun c1 => ?_) (fun c1 => ?_)
  · have H := H.1 c1
    exact XA.ret none rfl (show ckRt mX3_forgetAnswers 40 .return_ = true by decide +kernel) trivial (Nat.le_of_ble_eq_true rfl) (Nat.le_of_ble_eq_true rfl) ⟨_, rfl, rfl, H⟩
  · have H := H.2 c1
    obtain ⟨o1, H⟩ := H
    refine XA.blk (e9 := 34) (ok := (inB x1 10 && (true && kR R0 66 (Int32.toNatClampNeg x1) (66 + 1 + 1 * Int32.toNatClampNeg x1))) && ((kO 172 S0 (66 + 1 + 1 * Int32.toNatClampNeg x1) 0 && true) && (true))) (ls' := [some (.ref 49), some (.int x1)]) (st' := []) (h' := hs (su σ (66 + 1 + 1 * Int32.toNatClampNeg x1) 3 0)) [(.aload_n 0, 1, 0, 0, 0, 0, 0, 0), (.getfield 37, 3, 3, 4, 18, 298, 0, 0), (.iload_n 1, 1, 1, 0, 0, 0, 0, 0), (.aaload, 1, 1, 1, 0, 0, 0, 0), (.iconst 0, 1, 0, 0, 0, 0, 0, 0), (.putfield 41, 3, 0, 3, 2, 282, 0, 0)] (by decide +kernel) rfl (by simp only [beK o1, beO (beH o1), o1, Bool.and_true, Bool.true_and]) ?_
    obtain ⟨σ1, hσ1⟩ : ∃ s9, s9 = (su σ (66 + 1 + 1 * Int32.toNatClampNeg x1) 3 0) := ⟨_, rfl⟩
    rw [← hσ1]
    have H := H σ1 hσ1
    refine XA.blk (e9 := 18) (ok := true) (ls' := [some (.ref 49), some (.int (x1 + 1))]) (st' := []) (h' := hs σ1) [(.iinc 1 1, 3, 1, 0, 0, 0, 1, 0), (.goto (-19), 3, 18, 0, 0, 0, 0, 0)] (by decide +kernel) rfl rfl ?_
    exact H
theorem E_X3_forgetAnswers {scr : ScA}   {σ : Nat → Nat → Int32} {P : (Nat → Nat → Int32) → Prop} (h : K_X3_forgetAnswers_0 scr σ P) : CvA scr 0 mX3_forgetAnswers [.ref 49] σ P := CtA.of (by decide) (Nat.le_of_ble_eq_true rfl) (XA.drop (by simp [leL, enL]) h)
def K_X10_fault_0 (scr : ScA)   (σ : Nat → Nat → Int32) (P : Int32 → (Nat → Nat → Int32) → Prop) : Prop := XA scr 0 mX10_fault 172 4705 0 [some (.ref 0)] [] (hs σ) (pI P)
set_option maxRecDepth 20000 in
theorem W_X10_fault_0 {scr : ScA}    {σ : Nat → Nat → Int32} {P : Int32 → (Nat → Nat → Int32) → Prop} (H : P (σ 0 11) σ) : K_X10_fault_0 scr σ P := by
  show XA scr 0 mX10_fault 172 4705 0 [some (.ref 0)] [] (hs σ) (pI P)
  refine XA.blk (e9 := 4) (ok := true) (ls' := [some (.ref 0)]) (st' := [.int (σ 0 11)]) (h' := hs σ) [(.aload_n 0, 1, 0, 0, 0, 0, 0, 0), (.getfield 80, 3, 10, 11, 0, 409, 0, 0)] (by decide +kernel) rfl rfl ?_
  exact XA.ret (some (.int (σ 0 11))) rfl (show ckRt mX10_fault 4 .ireturn = true by decide +kernel) trivial (Nat.le_of_ble_eq_true rfl) (Nat.le_of_ble_eq_true rfl) ⟨_, _, rfl, rfl, H⟩
theorem E_X10_fault {scr : ScA}   {σ : Nat → Nat → Int32} {P : Int32 → (Nat → Nat → Int32) → Prop} (h : K_X10_fault_0 scr σ P) : CiA scr 0 mX10_fault [.ref 0] σ P := CtA.of (by decide) (Nat.le_of_ble_eq_true rfl) (XA.drop (by simp [leL, enL]) h)
def K_X10_finding_0 (scr : ScA)  (x1 : Int32) (σ : Nat → Nat → Int32) (P : Int32 → (Nat → Nat → Int32) → Prop) : Prop := XA scr 0 mX10_finding 172 4705 0 [some (.ref 0), some (.int x1)] [] (hs σ) (pI P)
set_option maxRecDepth 20000 in
theorem W_X10_finding_0 {scr : ScA}   {x1 : Int32} {σ : Nat → Nat → Int32} {P : Int32 → (Nat → Nat → Int32) → Prop} (H : ∀ σ1, σ1 = (su σ 0 13 x1) → P ((-10) - x1) σ1) : K_X10_finding_0 scr x1 σ P := by
  show XA scr 0 mX10_finding 172 4705 0 [some (.ref 0), some (.int x1)] [] (hs σ) (pI P)
  refine XA.blk (e9 := 5) (ok := true) (ls' := [some (.ref 0), some (.int x1)]) (st' := []) (h' := hs (su σ 0 13 x1)) [(.aload_n 0, 1, 0, 0, 0, 0, 0, 0), (.iload_n 1, 1, 1, 0, 0, 0, 0, 0), (.putfield 257, 3, 10, 13, 0, 411, 0, 0)] (by decide +kernel) rfl rfl ?_
  obtain ⟨σ1, hσ1⟩ : ∃ s9, s9 = (su σ 0 13 x1) := ⟨_, rfl⟩
  rw [← hσ1]
  have H := H σ1 hσ1
  refine XA.blk (e9 := 9) (ok := true) (ls' := [some (.ref 0), some (.int x1)]) (st' := [.int ((-10) - x1)]) (h' := hs σ1) [(.bipush (-10), 2, 0, 0, 0, 0, (-10), 0), (.iload_n 1, 1, 1, 0, 0, 0, 0, 0), (.isub, 1, 0, 0, 0, 0, 0, 0)] (by decide +kernel) rfl rfl ?_
  exact XA.ret (some (.int ((-10) - x1))) rfl (show ckRt mX10_finding 9 .ireturn = true by decide +kernel) trivial (Nat.le_of_ble_eq_true rfl) (Nat.le_of_ble_eq_true rfl) ⟨_, _, rfl, rfl, H⟩
theorem E_X10_finding {scr : ScA}  {x1 : Int32} {σ : Nat → Nat → Int32} {P : Int32 → (Nat → Nat → Int32) → Prop} (h : K_X10_finding_0 scr x1 σ P) : CiA scr 0 mX10_finding [.ref 0, .int x1] σ P := CtA.of (by decide) (Nat.le_of_ble_eq_true rfl) (XA.drop (by simp [leL, enL]) h)
def K_X8_become_0 (scr : ScA) (k : Nat)  (σ : Nat → Nat → Int32) (P : (Nat → Nat → Int32) → Prop) : Prop := XA scr 1 mX8_become 172 4705 0 [some (.ref k), some (.ref 3)] [] (hs σ) (pV P)
set_option maxRecDepth 20000 in
theorem W_X8_become_0 {scr : ScA} {k : Nat} (hk : isTr k)  {σ : Nat → Nat → Int32} {P : (Nat → Nat → Int32) → Prop} (H : ∀ σ1, σ1 = (su σ k 6 (σ 3 6)) → (decide ((k + 1) < 172 ∧ (S0 (k + 1)).1 = 1 ∧ 4 < 172 ∧ (S0 4).1 = 1) = true) ∧ (decide (¬ ((0 : Int32)) < 0 ∧ ¬ ((0 : Int32)) < 0 ∧ ¬ ((10 : Int32)) < 0 ∧ Int32.toNatClampNeg ((0 : Int32)) + Int32.toNatClampNeg ((10 : Int32)) ≤ (S0 4).2 ∧ Int32.toNatClampNeg ((0 : Int32)) + Int32.toNatClampNeg ((10 : Int32)) ≤ (S0 (k + 1)).2) = true) ∧ (∀ σ2, σ2 = (sr σ1 (k + 1) (va_cpy (σ1 4) (σ1 (k + 1)) (Int32.toNatClampNeg 0) (Int32.toNatClampNeg 0) (Int32.toNatClampNeg 10))) → (decide ((k + 2) < 172 ∧ (S0 (k + 2)).1 = 1 ∧ 5 < 172 ∧ (S0 5).1 = 1) = true) ∧ (decide (¬ ((0 : Int32)) < 0 ∧ ¬ ((0 : Int32)) < 0 ∧ ¬ ((10 : Int32)) < 0 ∧ Int32.toNatClampNeg ((0 : Int32)) + Int32.toNatClampNeg ((10 : Int32)) ≤ (S0 5).2 ∧ Int32.toNatClampNeg ((0 : Int32)) + Int32.toNatClampNeg ((10 : Int32)) ≤ (S0 (k + 2)).2) = true) ∧ (∀ σ3, σ3 = (sr σ2 (k + 2) (va_cpy (σ2 5) (σ2 (k + 2)) (Int32.toNatClampNeg 0) (Int32.toNatClampNeg 0) (Int32.toNatClampNeg 10))) → (decide ((k + 3) < 172 ∧ (S0 (k + 3)).1 = 1 ∧ 6 < 172 ∧ (S0 6).1 = 1) = true) ∧ (decide (¬ ((0 : Int32)) < 0 ∧ ¬ ((0 : Int32)) < 0 ∧ ¬ ((10 : Int32)) < 0 ∧ Int32.toNatClampNeg ((0 : Int32)) + Int32.toNatClampNeg ((10 : Int32)) ≤ (S0 6).2 ∧ Int32.toNatClampNeg ((0 : Int32)) + Int32.toNatClampNeg ((10 : Int32)) ≤ (S0 (k + 3)).2) = true) ∧ (∀ σ4, σ4 = (sr σ3 (k + 3) (va_cpy (σ3 6) (σ3 (k + 3)) (Int32.toNatClampNeg 0) (Int32.toNatClampNeg 0) (Int32.toNatClampNeg 10))) → (decide ((k + 4) < 172 ∧ (S0 (k + 4)).1 = 1 ∧ 7 < 172 ∧ (S0 7).1 = 1) = true) ∧ (decide (¬ ((0 : Int32)) < 0 ∧ ¬ ((0 : Int32)) < 0 ∧ ¬ ((10 : Int32)) < 0 ∧ Int32.toNatClampNeg ((0 : Int32)) + Int32.toNatClampNeg ((10 : Int32)) ≤ (S0 7).2 ∧ Int32.toNatClampNeg ((0 : Int32)) + Int32.toNatClampNeg ((10 : Int32)) ≤ (S0 (k + 4)).2) = true) ∧ (∀ σ5, σ5 = (sr σ4 (k + 4) (va_cpy (σ4 7) (σ4 (k + 4)) (Int32.toNatClampNeg 0) (Int32.toNatClampNeg 0) (Int32.toNatClampNeg 10))) → (decide ((k + 5) < 172 ∧ (S0 (k + 5)).1 = 1 ∧ 8 < 172 ∧ (S0 8).1 = 1) = true) ∧ (decide (¬ ((0 : Int32)) < 0 ∧ ¬ ((0 : Int32)) < 0 ∧ ¬ ((10 : Int32)) < 0 ∧ Int32.toNatClampNeg ((0 : Int32)) + Int32.toNatClampNeg ((10 : Int32)) ≤ (S0 8).2 ∧ Int32.toNatClampNeg ((0 : Int32)) + Int32.toNatClampNeg ((10 : Int32)) ≤ (S0 (k + 5)).2) = true) ∧ (∀ σ6, σ6 = (sr σ5 (k + 5) (va_cpy (σ5 8) (σ5 (k + 5)) (Int32.toNatClampNeg 0) (Int32.toNatClampNeg 0) (Int32.toNatClampNeg 10))) → (decide ((k + 6) < 172 ∧ (S0 (k + 6)).1 = 1 ∧ 9 < 172 ∧ (S0 9).1 = 1) = true) ∧ (decide (¬ ((0 : Int32)) < 0 ∧ ¬ ((0 : Int32)) < 0 ∧ ¬ ((10 : Int32)) < 0 ∧ Int32.toNatClampNeg ((0 : Int32)) + Int32.toNatClampNeg ((10 : Int32)) ≤ (S0 9).2 ∧ Int32.toNatClampNeg ((0 : Int32)) + Int32.toNatClampNeg ((10 : Int32)) ≤ (S0 (k + 6)).2) = true) ∧ (∀ σ7, σ7 = (sr σ6 (k + 6) (va_cpy (σ6 9) (σ6 (k + 6)) (Int32.toNatClampNeg 0) (Int32.toNatClampNeg 0) (Int32.toNatClampNeg 10))) → P σ7))))))) : K_X8_become_0 scr k σ P := by
  show XA scr 1 mX8_become 172 4705 0 [some (.ref k), some (.ref 3)] [] (hs σ) (pV P)
  refine XA.blk (e9 := 8) (ok := kO 172 S0 k 8 && (true)) (ls' := [some (.ref k), some (.ref 3)]) (st' := []) (h' := hs (su σ k 6 (σ 3 6))) [(.aload_n 0, 1, 0, 0, 0, 0, 0, 0), (.aload_n 1, 1, 1, 0, 0, 0, 0, 0), (.getfield 36, 3, 8, 6, 0, 139, 0, 0), (.putfield 36, 3, 8, 6, 0, 139, 0, 0)] (by decide +kernel) rfl (by simp only [trO hk, Bool.and_true, Bool.true_and]) ?_
  obtain ⟨σ1, hσ1⟩ : ∃ s9, s9 = (su σ k 6 (σ 3 6)) := ⟨_, rfl⟩
  rw [← hσ1]
  have H := H σ1 hσ1
  obtain ⟨o1, o2, H⟩ := H
  refine XA.blk (e9 := 23) (ok := (kO 172 S0 k 8 && kR R0 k 0 (k + 1)) && ((decide ((k + 1) < 172 ∧ (S0 (k + 1)).1 = 1 ∧ 4 < 172 ∧ (S0 4).1 = 1) && decide (¬ ((0 : Int32)) < 0 ∧ ¬ ((0 : Int32)) < 0 ∧ ¬ ((10 : Int32)) < 0 ∧ Int32.toNatClampNeg ((0 : Int32)) + Int32.toNatClampNeg ((10 : Int32)) ≤ (S0 4).2 ∧ Int32.toNatClampNeg ((0 : Int32)) + Int32.toNatClampNeg ((10 : Int32)) ≤ (S0 (k + 1)).2)) && (true))) (ls' := [some (.ref k), some (.ref 3)]) (st' := []) (h' := hs (sr σ1 (k + 1) (va_cpy (σ1 4) (σ1 (k + 1)) (Int32.toNatClampNeg 0) (Int32.toNatClampNeg 0) (Int32.toNatClampNeg 10)))) [(.aload_n 1, 1, 1, 0, 0, 0, 0, 0), (.getfield 9, 3, 8, 0, 2, 113, 0, 0), (.iconst 0, 1, 0, 0, 0, 0, 0, 0), (.aload_n 0, 1, 0, 0, 0, 0, 0, 0), (.getfield 9, 3, 8, 0, 2, 113, 0, 0), (.iconst 0, 1, 0, 0, 0, 0, 0, 0), (.bipush 10, 2, 0, 0, 0, 0, 10, 0), (.invokestatic 40, 3, 2, 0, 0, 667, 0, 0)] (by decide +kernel) rfl (by simp only [trO hk, trR0 hk, o1, o2, Bool.and_true, Bool.true_and]) ?_
  obtain ⟨σ2, hσ2⟩ : ∃ s9, s9 = (sr σ1 (k + 1) (va_cpy (σ1 4) (σ1 (k + 1)) (Int32.toNatClampNeg 0) (Int32.toNatClampNeg 0) (Int32.toNatClampNeg 10))) := ⟨_, rfl⟩
  rw [← hσ2]
  have H := H σ2 hσ2
  obtain ⟨o3, o4, H⟩ := H
  refine XA.blk (e9 := 38) (ok := (kO 172 S0 k 8 && kR R0 k 1 (k + 2)) && ((decide ((k + 2) < 172 ∧ (S0 (k + 2)).1 = 1 ∧ 5 < 172 ∧ (S0 5).1 = 1) && decide (¬ ((0 : Int32)) < 0 ∧ ¬ ((0 : Int32)) < 0 ∧ ¬ ((10 : Int32)) < 0 ∧ Int32.toNatClampNeg ((0 : Int32)) + Int32.toNatClampNeg ((10 : Int32)) ≤ (S0 5).2 ∧ Int32.toNatClampNeg ((0 : Int32)) + Int32.toNatClampNeg ((10 : Int32)) ≤ (S0 (k + 2)).2)) && (true))) (ls' := [some (.ref k), some (.ref 3)]) (st' := []) (h' := hs (sr σ2 (k + 2) (va_cpy (σ2 5) (σ2 (k + 2)) (Int32.toNatClampNeg 0) (Int32.toNatClampNeg 0) (Int32.toNatClampNeg 10)))) [(.aload_n 1, 1, 1, 0, 0, 0, 0, 0), (.getfield 15, 3, 8, 1, 3, 117, 0, 0), (.iconst 0, 1, 0, 0, 0, 0, 0, 0), (.aload_n 0, 1, 0, 0, 0, 0, 0, 0), (.getfield 15, 3, 8, 1, 3, 117, 0, 0), (.iconst 0, 1, 0, 0, 0, 0, 0, 0), (.bipush 10, 2, 0, 0, 0, 0, 10, 0), (.invokestatic 40, 3, 2, 0, 0, 667, 0, 0)] (by decide +kernel) rfl (by simp only [trO hk, trR1 hk, o3, o4, Bool.and_true, Bool.true_and]) ?_
  obtain ⟨σ3, hσ3⟩ : ∃ s9, s9 = (sr σ2 (k + 2) (va_cpy (σ2 5) (σ2 (k + 2)) (Int32.toNatClampNeg 0) (Int32.toNatClampNeg 0) (Int32.toNatClampNeg 10))) := ⟨_, rfl⟩
  rw [← hσ3]
  have H := H σ3 hσ3
  obtain ⟨o5, o6, H⟩ := H
  refine XA.blk (e9 := 53) (ok := (kO 172 S0 k 8 && kR R0 k 2 (k + 3)) && ((decide ((k + 3) < 172 ∧ (S0 (k + 3)).1 = 1 ∧ 6 < 172 ∧ (S0 6).1 = 1) && decide (¬ ((0 : Int32)) < 0 ∧ ¬ ((0 : Int32)) < 0 ∧ ¬ ((10 : Int32)) < 0 ∧ Int32.toNatClampNeg ((0 : Int32)) + Int32.toNatClampNeg ((10 : Int32)) ≤ (S0 6).2 ∧ Int32.toNatClampNeg ((0 : Int32)) + Int32.toNatClampNeg ((10 : Int32)) ≤ (S0 (k + 3)).2)) && (true))) (ls' := [some (.ref k), some (.ref 3)]) (st' := []) (h' := hs (sr σ3 (k + 3) (va_cpy (σ3 6) (σ3 (k + 3)) (Int32.toNatClampNeg 0) (Int32.toNatClampNeg 0) (Int32.toNatClampNeg 10)))) [(.aload_n 1, 1, 1, 0, 0, 0, 0, 0), (.getfield 18, 3, 8, 2, 4, 122, 0, 0), (.iconst 0, 1, 0, 0, 0, 0, 0, 0), (.aload_n 0, 1, 0, 0, 0, 0, 0, 0), (.getfield 18, 3, 8, 2, 4, 122, 0, 0), (.iconst 0, 1, 0, 0, 0, 0, 0, 0), (.bipush 10, 2, 0, 0, 0, 0, 10, 0), (.invokestatic 40, 3, 2, 0, 0, 667, 0, 0)] (by decide +kernel) rfl (by simp only [trO hk, trR2 hk, o5, o6, Bool.and_true, Bool.true_and]) ?_
  obtain ⟨σ4, hσ4⟩ : ∃ s9, s9 = (sr σ3 (k + 3) (va_cpy (σ3 6) (σ3 (k + 3)) (Int32.toNatClampNeg 0) (Int32.toNatClampNeg 0) (Int32.toNatClampNeg 10))) := ⟨_, rfl⟩
  rw [← hσ4]
  have H := H σ4 hσ4
  obtain ⟨o7, o8, H⟩ := H
  refine XA.blk (e9 := 68) (ok := (kO 172 S0 k 8 && kR R0 k 3 (k + 4)) && ((decide ((k + 4) < 172 ∧ (S0 (k + 4)).1 = 1 ∧ 7 < 172 ∧ (S0 7).1 = 1) && decide (¬ ((0 : Int32)) < 0 ∧ ¬ ((0 : Int32)) < 0 ∧ ¬ ((10 : Int32)) < 0 ∧ Int32.toNatClampNeg ((0 : Int32)) + Int32.toNatClampNeg ((10 : Int32)) ≤ (S0 7).2 ∧ Int32.toNatClampNeg ((0 : Int32)) + Int32.toNatClampNeg ((10 : Int32)) ≤ (S0 (k + 4)).2)) && (true))) (ls' := [some (.ref k), some (.ref 3)]) (st' := []) (h' := hs (sr σ4 (k + 4) (va_cpy (σ4 7) (σ4 (k + 4)) (Int32.toNatClampNeg 0) (Int32.toNatClampNeg 0) (Int32.toNatClampNeg 10)))) [(.aload_n 1, 1, 1, 0, 0, 0, 0, 0), (.getfield 21, 3, 8, 3, 5, 128, 0, 0), (.iconst 0, 1, 0, 0, 0, 0, 0, 0), (.aload_n 0, 1, 0, 0, 0, 0, 0, 0), (.getfield 21, 3, 8, 3, 5, 128, 0, 0), (.iconst 0, 1, 0, 0, 0, 0, 0, 0), (.bipush 10, 2, 0, 0, 0, 0, 10, 0), (.invokestatic 40, 3, 2, 0, 0, 667, 0, 0)] (by decide +kernel) rfl (by simp only [trO hk, trR3 hk, o7, o8, Bool.and_true, Bool.true_and]) ?_
  obtain ⟨σ5, hσ5⟩ : ∃ s9, s9 = (sr σ4 (k + 4) (va_cpy (σ4 7) (σ4 (k + 4)) (Int32.toNatClampNeg 0) (Int32.toNatClampNeg 0) (Int32.toNatClampNeg 10))) := ⟨_, rfl⟩
  rw [← hσ5]
  have H := H σ5 hσ5
  obtain ⟨o9, o10, H⟩ := H
  refine XA.blk (e9 := 83) (ok := (kO 172 S0 k 8 && kR R0 k 4 (k + 5)) && ((decide ((k + 5) < 172 ∧ (S0 (k + 5)).1 = 1 ∧ 8 < 172 ∧ (S0 8).1 = 1) && decide (¬ ((0 : Int32)) < 0 ∧ ¬ ((0 : Int32)) < 0 ∧ ¬ ((10 : Int32)) < 0 ∧ Int32.toNatClampNeg ((0 : Int32)) + Int32.toNatClampNeg ((10 : Int32)) ≤ (S0 8).2 ∧ Int32.toNatClampNeg ((0 : Int32)) + Int32.toNatClampNeg ((10 : Int32)) ≤ (S0 (k + 5)).2)) && (true))) (ls' := [some (.ref k), some (.ref 3)]) (st' := []) (h' := hs (sr σ5 (k + 5) (va_cpy (σ5 8) (σ5 (k + 5)) (Int32.toNatClampNeg 0) (Int32.toNatClampNeg 0) (Int32.toNatClampNeg 10)))) [(.aload_n 1, 1, 1, 0, 0, 0, 0, 0), (.getfield 24, 3, 8, 4, 6, 133, 0, 0), (.iconst 0, 1, 0, 0, 0, 0, 0, 0), (.aload_n 0, 1, 0, 0, 0, 0, 0, 0), (.getfield 24, 3, 8, 4, 6, 133, 0, 0), (.iconst 0, 1, 0, 0, 0, 0, 0, 0), (.bipush 10, 2, 0, 0, 0, 0, 10, 0), (.invokestatic 40, 3, 2, 0, 0, 667, 0, 0)] (by decide +kernel) rfl (by simp only [trO hk, trR4 hk, o9, o10, Bool.and_true, Bool.true_and]) ?_
  obtain ⟨σ6, hσ6⟩ : ∃ s9, s9 = (sr σ5 (k + 5) (va_cpy (σ5 8) (σ5 (k + 5)) (Int32.toNatClampNeg 0) (Int32.toNatClampNeg 0) (Int32.toNatClampNeg 10))) := ⟨_, rfl⟩
  rw [← hσ6]
  have H := H σ6 hσ6
  obtain ⟨o11, o12, H⟩ := H
  refine XA.blk (e9 := 98) (ok := (kO 172 S0 k 8 && kR R0 k 5 (k + 6)) && ((decide ((k + 6) < 172 ∧ (S0 (k + 6)).1 = 1 ∧ 9 < 172 ∧ (S0 9).1 = 1) && decide (¬ ((0 : Int32)) < 0 ∧ ¬ ((0 : Int32)) < 0 ∧ ¬ ((10 : Int32)) < 0 ∧ Int32.toNatClampNeg ((0 : Int32)) + Int32.toNatClampNeg ((10 : Int32)) ≤ (S0 9).2 ∧ Int32.toNatClampNeg ((0 : Int32)) + Int32.toNatClampNeg ((10 : Int32)) ≤ (S0 (k + 6)).2)) && (true))) (ls' := [some (.ref k), some (.ref 3)]) (st' := []) (h' := hs (sr σ6 (k + 6) (va_cpy (σ6 9) (σ6 (k + 6)) (Int32.toNatClampNeg 0) (Int32.toNatClampNeg 0) (Int32.toNatClampNeg 10)))) [(.aload_n 1, 1, 1, 0, 0, 0, 0, 0), (.getfield 27, 3, 8, 5, 7, 136, 0, 0), (.iconst 0, 1, 0, 0, 0, 0, 0, 0), (.aload_n 0, 1, 0, 0, 0, 0, 0, 0), (.getfield 27, 3, 8, 5, 7, 136, 0, 0), (.iconst 0, 1, 0, 0, 0, 0, 0, 0), (.bipush 10, 2, 0, 0, 0, 0, 10, 0), (.invokestatic 40, 3, 2, 0, 0, 667, 0, 0)] (by decide +kernel) rfl (by simp only [trO hk, trR5 hk, o11, o12, Bool.and_true, Bool.true_and]) ?_
  obtain ⟨σ7, hσ7⟩ : ∃ s9, s9 = (sr σ6 (k + 6) (va_cpy (σ6 9) (σ6 (k + 6)) (Int32.toNatClampNeg 0) (Int32.toNatClampNeg 0) (Int32.toNatClampNeg 10))) := ⟨_, rfl⟩
  rw [← hσ7]
  have H := H σ7 hσ7
  exact XA.ret none rfl (show ckRt mX8_become 98 .return_ = true by decide +kernel) trivial (Nat.le_of_ble_eq_true rfl) (Nat.le_of_ble_eq_true rfl) ⟨_, rfl, rfl, H⟩
theorem E_X8_become {scr : ScA} {k : Nat}  {σ : Nat → Nat → Int32} {P : (Nat → Nat → Int32) → Prop} (h : K_X8_become_0 scr k σ P) : CvA scr 1 mX8_become [.ref k, .ref 3] σ P := CtA.of (by decide) (Nat.le_of_ble_eq_true rfl) (XA.drop (by simp [leL, enL]) h)
def K_X5_applaud_0 (scr : ScA) (k q : Nat)  (σ : Nat → Nat → Int32) (P : (Nat → Nat → Int32) → Prop) : Prop := XA scr 1 mX5_applaud 172 4705 0 [some (.ref k), some (.ref q), none] [] (hs σ) (pV P)
def K_X5_applaud_2 (scr : ScA) (k q : Nat) (x2 : Int32) (σ : Nat → Nat → Int32) (P : (Nat → Nat → Int32) → Prop) : Prop := XA scr 1 mX5_applaud 172 4705 2 [some (.ref k), some (.ref q), some (.int x2)] [] (hs σ) (pV P)
set_option maxRecDepth 20000 in
theorem W_X5_applaud_0 {scr : ScA} {k q : Nat} (hk : isSw k) (hq : isTr q)  {σ : Nat → Nat → Int32} {P : (Nat → Nat → Int32) → Prop} (H : K_X5_applaud_2 scr k q 0 σ P) : K_X5_applaud_0 scr k q σ P := by
  show XA scr 1 mX5_applaud 172 4705 0 [some (.ref k), some (.ref q), none] [] (hs σ) (pV P)
  refine XA.blk (e9 := 2) (ok := true) (ls' := [some (.ref k), some (.ref q), some (.int 0)]) (st' := []) (h' := hs σ) [(.iconst 0, 1, 0, 0, 0, 0, 0, 0), (.istore_n 2, 1, 2, 0, 0, 0, 0, 0)] (by decide +kernel) rfl rfl ?_
  exact H
set_option maxRecDepth 20000 in
theorem W_X5_applaud_2 {scr : ScA} {k q : Nat} (hk : isSw k) (hq : isTr q) {x2 : Int32} {σ : Nat → Nat → Int32} {P : (Nat → Nat → Int32) → Prop} (H : ((σ k 9) ≤ 0 → P σ) ∧ (¬ (σ k 9) ≤ 0 → ((σ q 6) ≤ x2 → P σ) ∧ (¬ (σ q 6) ≤ x2 → (inB x2 10 = true) ∧ (∀ σ1, σ1 = (su σ (k + 2) (Int32.toNatClampNeg x2) (if 0 < (σ (k + 2) (Int32.toNatClampNeg x2)) - (σ k 9) then (σ (k + 2) (Int32.toNatClampNeg x2)) - (σ k 9) else 0)) → K_X5_applaud_2 scr k q (x2 + 1) σ1 P)))) : K_X5_applaud_2 scr k q x2 σ P := by
  show XA scr 1 mX5_applaud 172 4705 2 [some (.ref k), some (.ref q), some (.int x2)] [] (hs σ) (pV P)
  refine XA.blk (e9 := 6) (ok := kO 172 S0 k 5 && (true)) (ls' := [some (.ref k), some (.ref q), some (.int x2)]) (st' := [.int (σ k 9)]) (h' := hs σ) [(.aload_n 0, 1, 0, 0, 0, 0, 0, 0), (.getfield 95, 3, 5, 9, 0, 226, 0, 0)] (by decide +kernel) rfl (by simp only [swO hk, Bool.and_true, Bool.true_and]) ?_
  refine XA.if_le (38) 44 (by decide +kernel) (fun c1 => ?_) (fun c1 => ?_)
  · have H := H.1 c1
    exact XA.ret none rfl (show ckRt mX5_applaud 44 .return_ = true by decide +kernel) trivial (Nat.le_of_ble_eq_true rfl) (Nat.le_of_ble_eq_true rfl) ⟨_, rfl, rfl, H⟩
  · have H := H.2 c1
    refine XA.blk (e9 := 14) (ok := kO 172 S0 q 8 && (true)) (ls' := [some (.ref k), some (.ref q), some (.int x2)]) (st' := [.int (σ q 6), .int x2]) (h' := hs σ) [(.iload_n 2, 1, 2, 0, 0, 0, 0, 0), (.aload_n 1, 1, 1, 0, 0, 0, 0, 0), (.getfield 116, 3, 8, 6, 0, 141, 0, 0)] (by decide +kernel) rfl (by simp only [trO hq, Bool.and_true, Bool.true_and]) ?_
    refine XA.icmp_ge (30) 44 (by decide +kernel) (fun c2 => ?_) (fun c2 => ?_)
    · have H := H.1 c2
      exact XA.ret none rfl (show ckRt mX5_applaud 44 .return_ = true by decide +kernel) trivial (Nat.le_of_ble_eq_true rfl) (Nat.le_of_ble_eq_true rfl) ⟨_, rfl, rfl, H⟩
    · have H := H.2 c2
      obtain ⟨o1, H⟩ := H
      refine XA.blk (e9 := 38) (ok := (kO 172 S0 k 5 && kR R0 k 2 (k + 2)) && ((kO 172 S0 k 5 && kR R0 k 2 (k + 2)) && (kA 172 S0 (k + 2) 1 x2 && (kO 172 S0 k 5 && (kA 172 S0 (k + 2) 1 x2 && (true)))))) (ls' := [some (.ref k), some (.ref q), some (.int x2)]) (st' := []) (h' := hs (su σ (k + 2) (Int32.toNatClampNeg x2) (if 0 < (σ (k + 2) (Int32.toNatClampNeg x2)) - (σ k 9) then (σ (k + 2) (Int32.toNatClampNeg x2)) - (σ k 9) else 0))) [(.aload_n 0, 1, 0, 0, 0, 0, 0, 0), (.getfield 15, 3, 5, 2, 3, 218, 0, 0), (.iload_n 2, 1, 2, 0, 0, 0, 0, 0), (.iconst 0, 1, 0, 0, 0, 0, 0, 0), (.aload_n 0, 1, 0, 0, 0, 0, 0, 0), (.getfield 15, 3, 5, 2, 3, 218, 0, 0), (.iload_n 2, 1, 2, 0, 0, 0, 0, 0), (.iaload, 1, 0, 0, 0, 0, 0, 0), (.aload_n 0, 1, 0, 0, 0, 0, 0, 0), (.getfield 95, 3, 5, 9, 0, 226, 0, 0), (.isub, 1, 0, 0, 0, 0, 0, 0), (.invokestatic 122, 3, 0, 0, 0, 583, 0, 0), (.iastore, 1, 0, 0, 0, 0, 0, 0)] (by decide +kernel) rfl (by simp only [swO hk, swR2 hk, swA2 hk x2, o1, Bool.and_true, Bool.true_and]) ?_
      obtain ⟨σ1, hσ1⟩ : ∃ s9, s9 = (su σ (k + 2) (Int32.toNatClampNeg x2) (if 0 < (σ (k + 2) (Int32.toNatClampNeg x2)) - (σ k 9) then (σ (k + 2) (Int32.toNatClampNeg x2)) - (σ k 9) else 0)) := ⟨_, rfl⟩
      rw [← hσ1]
      have H := H σ1 hσ1
      refine XA.blk (e9 := 2) (ok := true) (ls' := [some (.ref k), some (.ref q), some (.int (x2 + 1))]) (st' := []) (h' := hs σ1) [(.iinc 2 1, 3, 2, 0, 0, 0, 1, 0), (.goto (-39), 3, 2, 0, 0, 0, 0, 0)] (by decide +kernel) rfl rfl ?_
      exact H
theorem E_X5_applaud {scr : ScA} {k q : Nat}  {σ : Nat → Nat → Int32} {P : (Nat → Nat → Int32) → Prop} (h : K_X5_applaud_0 scr k q σ P) : CvA scr 1 mX5_applaud [.ref k, .ref q] σ P := CtA.of (by decide) (Nat.le_of_ble_eq_true rfl) (XA.drop (by simp [leL, enL]) h)
def K_X11_byteAt_0 (scr : ScA)  (x1 : Int32) (σ : Nat → Nat → Int32) (P : Int32 → (Nat → Nat → Int32) → Prop) : Prop := XA scr 0 mX11_byteAt 172 4705 0 [some (.ref 136), some (.int x1)] [] (hs σ) (pI P)
set_option maxRecDepth 20000 in
theorem W_X11_byteAt_0 {scr : ScA}   {x1 : Int32} {σ : Nat → Nat → Int32} {P : Int32 → (Nat → Nat → Int32) → Prop} (H : (¬ (σ 136 0) ≤ x1 → (inB x1 59 = true)) ∧ (P (if (σ 136 0) ≤ x1 then (-1) else σ 137 (Int32.toNatClampNeg x1)) σ)) : K_X11_byteAt_0 scr x1 σ P := by
  show XA scr 0 mX11_byteAt 172 4705 0 [some (.ref 136), some (.int x1)] [] (hs σ) (pI P)
  refine XA.blk (e9 := 5) (ok := true) (ls' := [some (.ref 136), some (.int x1)]) (st' := [.int (σ 136 0), .int x1]) (h' := hs σ) [(.iload_n 1, 1, 1, 0, 0, 0, 0, 0), (.aload_n 0, 1, 0, 0, 0, 0, 0, 0), (.getfield 122, 3, 11, 0, 0, 893, 0, 0)] (by decide +kernel) rfl rfl ?_
  obtain ⟨hF5, H⟩ := H
  have hJ5 : XA scr 0 mX11_byteAt 172 4705 18 [none, none] [.int (if (σ 136 0) ≤ x1 then (-1) else σ 137 (Int32.toNatClampNeg x1))] (hs σ) (pI P) := by
    exact XA.ret (some (.int (if (σ 136 0) ≤ x1 then (-1) else σ 137 (Int32.toNatClampNeg x1)))) rfl (show ckRt mX11_byteAt 18 .ireturn = true by decide +kernel) trivial (Nat.le_of_ble_eq_true rfl) (Nat.le_of_ble_eq_true rfl) ⟨_, _, rfl, rfl, H⟩
  refine XA.icmp_ge (12) 17 (by decide +kernel) (fun c1 => ?_) (fun c1 => ?_)
  · refine XA.blk (e9 := 18) (ok := true) (ls' := [some (.ref 136), some (.int x1)]) (st' := [.int (-1)]) (h' := hs σ) [(.iconst (-1), 1, 0, 0, 0, 0, (-1), 0)] (by decide +kernel) rfl rfl ?_
    refine XA.drop (ls := [none, none]) (by simp [leL]) ?_
    simpa only [if_pos c1] using hJ5
  · have H := hF5 c1
    have o1 := H
    refine XA.blk (e9 := 18) (ok := inB x1 59 && (true)) (ls' := [some (.ref 136), some (.int x1)]) (st' := [.int (σ 137 (Int32.toNatClampNeg x1))]) (h' := hs σ) [(.aload_n 0, 1, 0, 0, 0, 0, 0, 0), (.getfield 7, 3, 11, 1, 2, 894, 0, 0), (.iload_n 1, 1, 1, 0, 0, 0, 0, 0), (.iaload, 1, 0, 0, 0, 0, 0, 0), (.goto 4, 3, 18, 0, 0, 0, 0, 0)] (by decide +kernel) rfl (by simp only [o1, Bool.and_true, Bool.true_and]) ?_
    refine XA.drop (ls := [none, none]) (by simp [leL]) ?_
    simpa only [if_neg c1] using hJ5
theorem E_X11_byteAt {scr : ScA}  {x1 : Int32} {σ : Nat → Nat → Int32} {P : Int32 → (Nat → Nat → Int32) → Prop} (h : K_X11_byteAt_0 scr x1 σ P) : CiA scr 0 mX11_byteAt [.ref 136, .int x1] σ P := CtA.of (by decide) (Nat.le_of_ble_eq_true rfl) (XA.drop (by simp [leL, enL]) h)
def K_X11_isTaken_0 (scr : ScA)  (x1 : Int32) (x2 : Int32) (σ : Nat → Nat → Int32) (P : Int32 → (Nat → Nat → Int32) → Prop) : Prop := XA scr 0 mX11_isTaken 172 4705 0 [some (.ref 136), some (.int x1), some (.int x2), none, none] [] (hs σ) (pI P)
def K_X11_isTaken_5 (scr : ScA)  (x1 : Int32) (x2 : Int32) (x3 : Int32) (x4 : Int32) (σ : Nat → Nat → Int32) (P : Int32 → (Nat → Nat → Int32) → Prop) : Prop := XA scr 0 mX11_isTaken 172 4705 5 [some (.ref 136), some (.int x1), some (.int x2), some (.int x3), some (.int x4)] [] (hs σ) (pI P)
set_option maxRecDepth 20000 in
theorem W_X11_isTaken_0 {scr : ScA}   {x1 : Int32} {x2 : Int32} {σ : Nat → Nat → Int32} {P : Int32 → (Nat → Nat → Int32) → Prop} (H : K_X11_isTaken_5 scr x1 x2 0 0 σ P) : K_X11_isTaken_0 scr x1 x2 σ P := by
  show XA scr 0 mX11_isTaken 172 4705 0 [some (.ref 136), some (.int x1), some (.int x2), none, none] [] (hs σ) (pI P)
  refine XA.blk (e9 := 5) (ok := true) (ls' := [some (.ref 136), some (.int x1), some (.int x2), some (.int 0), some (.int 0)]) (st' := []) (h' := hs σ) [(.iconst 0, 1, 0, 0, 0, 0, 0, 0), (.istore_n 3, 1, 3, 0, 0, 0, 0, 0), (.iconst 0, 1, 0, 0, 0, 0, 0, 0), (.istore 4, 2, 4, 0, 0, 0, 0, 0)] (by decide +kernel) rfl rfl ?_
  exact H
set_option maxRecDepth 20000 in
theorem W_X11_isTaken_5 {scr : ScA}   {x1 : Int32} {x2 : Int32} {x3 : Int32} {x4 : Int32} {σ : Nat → Nat → Int32} {P : Int32 → (Nat → Nat → Int32) → Prop} (H : (x1 ≤ x4 → ((x3 : Int32) = 0 ∨ (x3 : Int32) = 1) ∧ P x3 σ) ∧ (¬ x1 ≤ x4 → (x3 = 0 → (inB x4 11 = true)) ∧ (K_X11_isTaken_5 scr x1 x2 (if ¬ x3 = 0 then 1 else if ¬ (σ 142 (Int32.toNatClampNeg x4)) = x2 then 0 else 1) (x4 + 1) σ P))) : K_X11_isTaken_5 scr x1 x2 x3 x4 σ P := by
  show XA scr 0 mX11_isTaken 172 4705 5 [some (.ref 136), some (.int x1), some (.int x2), some (.int x3), some (.int x4)] [] (hs σ) (pI P)
  refine XA.blk (e9 := 8) (ok := true) (ls' := [some (.ref 136), some (.int x1), some (.int x2), some (.int x3), some (.int x4)]) (st' := [.int x1, .int x4]) (h' := hs σ) [(.iload 4, 2, 4, 0, 0, 0, 0, 0), (.iload_n 1, 1, 1, 0, 0, 0, 0, 0)] (by decide +kernel) rfl rfl ?_
  refine XA.icmp_ge (30) 38 (by decide +kernel) (fun c1 => ?_) (fun c1 => ?_)
  · have H := H.1 c1
    refine XA.blk (e9 := 39) (ok := true) (ls' := [some (.ref 136), some (.int x1), some (.int x2), some (.int x3), some (.int x4)]) (st' := [.int x3]) (h' := hs σ) [(.iload_n 3, 1, 3, 0, 0, 0, 0, 0)] (by decide +kernel) rfl rfl ?_
    exact XA.ret (some (.int x3)) rfl (show ckRt mX11_isTaken 39 .ireturn = true by decide +kernel) H.1 (Nat.le_of_ble_eq_true rfl) (Nat.le_of_ble_eq_true rfl) ⟨_, _, rfl, rfl, H.2⟩
  · have H := H.2 c1
    refine XA.blk (e9 := 12) (ok := true) (ls' := [some (.ref 136), some (.int x1), some (.int x2), some (.int x3), some (.int x4)]) (st' := [.int x3]) (h' := hs σ) [(.iload_n 3, 1, 3, 0, 0, 0, 0, 0)] (by decide +kernel) rfl rfl ?_
    obtain ⟨hF12, H⟩ := H
    have hJ12 : XA scr 0 mX11_isTaken 172 4705 31 [some (.ref 136), some (.int x1), some (.int x2), none, some (.int x4)] [.int (if ¬ x3 = 0 then 1 else if ¬ (σ 142 (Int32.toNatClampNeg x4)) = x2 then 0 else 1)] (hs σ) (pI P) := by
      refine XA.blk (e9 := 5) (ok := true) (ls' := [some (.ref 136), some (.int x1), some (.int x2), some (.int (if ¬ x3 = 0 then 1 else if ¬ (σ 142 (Int32.toNatClampNeg x4)) = x2 then 0 else 1)), some (.int (x4 + 1))]) (st' := []) (h' := hs σ) [(.istore_n 3, 1, 3, 0, 0, 0, 0, 0), (.iinc 4 1, 3, 4, 0, 0, 0, 1, 0), (.goto (-30), 3, 5, 0, 0, 0, 0, 0)] (by decide +kernel) rfl rfl ?_
      exact H
    refine XA.if_ne (14) 26 (by decide +kernel) (fun c2 => ?_) (fun c2 => ?_)
    · refine XA.blk (e9 := 31) (ok := true) (ls' := [some (.ref 136), some (.int x1), some (.int x2), some (.int x3), some (.int x4)]) (st' := [.int 1]) (h' := hs σ) [(.iconst 1, 1, 0, 0, 0, 0, 1, 0), (.goto 4, 3, 31, 0, 0, 0, 0, 0)] (by decide +kernel) rfl rfl ?_
      refine XA.drop (ls := [some (.ref 136), some (.int x1), some (.int x2), none, some (.int x4)]) (by simp [leL]) ?_
      simpa only [if_pos c2] using hJ12
    · have H := hF12 c2
      have o1 := H
      refine XA.blk (e9 := 23) (ok := inB x4 11 && (true)) (ls' := [some (.ref 136), some (.int x1), some (.int x2), some (.int x3), some (.int x4)]) (st' := [.int x2, .int (σ 142 (Int32.toNatClampNeg x4))]) (h' := hs σ) [(.aload_n 0, 1, 0, 0, 0, 0, 0, 0), (.getfield 25, 3, 11, 7, 7, 900, 0, 0), (.iload 4, 2, 4, 0, 0, 0, 0, 0), (.iaload, 1, 0, 0, 0, 0, 0, 0), (.iload_n 2, 1, 2, 0, 0, 0, 0, 0)] (by decide +kernel) rfl (by simp only [o1, Bool.and_true, Bool.true_and]) ?_
      have hJ23 : XA scr 0 mX11_isTaken 172 4705 31 [some (.ref 136), some (.int x1), some (.int x2), none, some (.int x4)] [.int (if ¬ (σ 142 (Int32.toNatClampNeg x4)) = x2 then 0 else 1)] (hs σ) (pI P) := by
        simpa only [if_neg (not_not_intro c2)] using hJ12
      refine XA.icmp_ne (7) 30 (by decide +kernel) (fun c3 => ?_) (fun c3 => ?_)
      · refine XA.blk (e9 := 31) (ok := true) (ls' := [some (.ref 136), some (.int x1), some (.int x2), some (.int x3), some (.int x4)]) (st' := [.int 0]) (h' := hs σ) [(.iconst 0, 1, 0, 0, 0, 0, 0, 0)] (by decide +kernel) rfl rfl ?_
        refine XA.drop (ls := [some (.ref 136), some (.int x1), some (.int x2), none, some (.int x4)]) (by simp [leL]) ?_
        simpa only [if_pos c3] using hJ23
      · refine XA.blk (e9 := 31) (ok := true) (ls' := [some (.ref 136), some (.int x1), some (.int x2), some (.int x3), some (.int x4)]) (st' := [.int 1]) (h' := hs σ) [(.iconst 1, 1, 0, 0, 0, 0, 1, 0), (.goto 4, 3, 31, 0, 0, 0, 0, 0)] (by decide +kernel) rfl rfl ?_
        refine XA.drop (ls := [some (.ref 136), some (.int x1), some (.int x2), none, some (.int x4)]) (by simp [leL]) ?_
        simpa only [if_neg (not_not_intro c3)] using hJ23
theorem E_X11_isTaken {scr : ScA}  {x1 : Int32} {x2 : Int32} {σ : Nat → Nat → Int32} {P : Int32 → (Nat → Nat → Int32) → Prop} (h : K_X11_isTaken_0 scr x1 x2 σ P) : CiA scr 0 mX11_isTaken [.ref 136, .int x1, .int x2] σ P := CtA.of (by decide) (Nat.le_of_ble_eq_true rfl) (XA.drop (by simp [leL, enL]) h)
def K_X11_acrobatOf_0 (scr : ScA)  (x1 : Int32) (x2 : Int32) (σ : Nat → Nat → Int32) (P : Int32 → (Nat → Nat → Int32) → Prop) : Prop := XA scr 0 mX11_acrobatOf 172 4705 0 [some (.ref 136), some (.int x1), some (.int x2)] [] (hs σ) (pI P)
set_option maxRecDepth 20000 in
theorem W_X11_acrobatOf_0 {scr : ScA}   {x1 : Int32} {x2 : Int32} {σ : Nat → Nat → Int32} {P : Int32 → (Nat → Nat → Int32) → Prop} (H : (¬ x2 = 0 → (¬ x2 = 1 → (¬ x2 = 2 → (¬ x2 = 3 → (inB x1 11 = true)) ∧ (x2 = 3 → (inB x1 11 = true))) ∧ (x2 = 2 → (inB x1 11 = true))) ∧ (x2 = 1 → (inB x1 11 = true))) ∧ (x2 = 0 → (inB x1 11 = true)) ∧ (P (if ¬ x2 = 0 then if ¬ x2 = 1 then if ¬ x2 = 2 then if ¬ x2 = 3 then σ 142 (Int32.toNatClampNeg x1) else σ 141 (Int32.toNatClampNeg x1) else σ 140 (Int32.toNatClampNeg x1) else σ 139 (Int32.toNatClampNeg x1) else σ 138 (Int32.toNatClampNeg x1)) σ)) : K_X11_acrobatOf_0 scr x1 x2 σ P := by
  show XA scr 0 mX11_acrobatOf 172 4705 0 [some (.ref 136), some (.int x1), some (.int x2)] [] (hs σ) (pI P)
  refine XA.blk (e9 := 1) (ok := true) (ls' := [some (.ref 136), some (.int x1), some (.int x2)]) (st' := [.int x2]) (h' := hs σ) [(.iload_n 2, 1, 2, 0, 0, 0, 0, 0)] (by decide +kernel) rfl rfl ?_
  obtain ⟨hT1, hF1, H⟩ := H
  have hJ1 : XA scr 0 mX11_acrobatOf 172 4705 61 [none, none, none] [.int (if ¬ x2 = 0 then if ¬ x2 = 1 then if ¬ x2 = 2 then if ¬ x2 = 3 then σ 142 (Int32.toNatClampNeg x1) else σ 141 (Int32.toNatClampNeg x1) else σ 140 (Int32.toNatClampNeg x1) else σ 139 (Int32.toNatClampNeg x1) else σ 138 (Int32.toNatClampNeg x1))] (hs σ) (pI P) := by
    exact XA.ret (some (.int (if ¬ x2 = 0 then if ¬ x2 = 1 then if ¬ x2 = 2 then if ¬ x2 = 3 then σ 142 (Int32.toNatClampNeg x1) else σ 141 (Int32.toNatClampNeg x1) else σ 140 (Int32.toNatClampNeg x1) else σ 139 (Int32.toNatClampNeg x1) else σ 138 (Int32.toNatClampNeg x1)))) rfl (show ckRt mX11_acrobatOf 61 .ireturn = true by decide +kernel) trivial (Nat.le_of_ble_eq_true rfl) (Nat.le_of_ble_eq_true rfl) ⟨_, _, rfl, rfl, H⟩
  refine XA.if_ne (12) 13 (by decide +kernel) (fun c1 => ?_) (fun c1 => ?_)
  · have H := hT1 c1
    refine XA.blk (e9 := 15) (ok := true) (ls' := [some (.ref 136), some (.int x1), some (.int x2)]) (st' := [.int 1, .int x2]) (h' := hs σ) [(.iload_n 2, 1, 2, 0, 0, 0, 0, 0), (.iconst 1, 1, 0, 0, 0, 0, 1, 0)] (by decide +kernel) rfl rfl ?_
    obtain ⟨hT15, hF15⟩ := H
    have hJ15 : XA scr 0 mX11_acrobatOf 172 4705 61 [none, none, none] [.int (if ¬ x2 = 1 then if ¬ x2 = 2 then if ¬ x2 = 3 then σ 142 (Int32.toNatClampNeg x1) else σ 141 (Int32.toNatClampNeg x1) else σ 140 (Int32.toNatClampNeg x1) else σ 139 (Int32.toNatClampNeg x1))] (hs σ) (pI P) := by
      simpa only [if_pos c1] using hJ1
    refine XA.icmp_ne (12) 27 (by decide +kernel) (fun c2 => ?_) (fun c2 => ?_)
    · have H := hT15 c2
      refine XA.blk (e9 := 29) (ok := true) (ls' := [some (.ref 136), some (.int x1), some (.int x2)]) (st' := [.int 2, .int x2]) (h' := hs σ) [(.iload_n 2, 1, 2, 0, 0, 0, 0, 0), (.iconst 2, 1, 0, 0, 0, 0, 2, 0)] (by decide +kernel) rfl rfl ?_
      obtain ⟨hT29, hF29⟩ := H
      have hJ29 : XA scr 0 mX11_acrobatOf 172 4705 61 [none, none, none] [.int (if ¬ x2 = 2 then if ¬ x2 = 3 then σ 142 (Int32.toNatClampNeg x1) else σ 141 (Int32.toNatClampNeg x1) else σ 140 (Int32.toNatClampNeg x1))] (hs σ) (pI P) := by
        simpa only [if_pos c2] using hJ15
      refine XA.icmp_ne (12) 41 (by decide +kernel) (fun c3 => ?_) (fun c3 => ?_)
      · have H := hT29 c3
        refine XA.blk (e9 := 43) (ok := true) (ls' := [some (.ref 136), some (.int x1), some (.int x2)]) (st' := [.int 3, .int x2]) (h' := hs σ) [(.iload_n 2, 1, 2, 0, 0, 0, 0, 0), (.iconst 3, 1, 0, 0, 0, 0, 3, 0)] (by decide +kernel) rfl rfl ?_
        obtain ⟨hT43, hF43⟩ := H
        have hJ43 : XA scr 0 mX11_acrobatOf 172 4705 61 [none, none, none] [.int (if ¬ x2 = 3 then σ 142 (Int32.toNatClampNeg x1) else σ 141 (Int32.toNatClampNeg x1))] (hs σ) (pI P) := by
          simpa only [if_pos c3] using hJ29
        refine XA.icmp_ne (12) 55 (by decide +kernel) (fun c4 => ?_) (fun c4 => ?_)
        · have H := hT43 c4
          have o1 := H
          refine XA.blk (e9 := 61) (ok := inB x1 11 && (true)) (ls' := [some (.ref 136), some (.int x1), some (.int x2)]) (st' := [.int (σ 142 (Int32.toNatClampNeg x1))]) (h' := hs σ) [(.aload_n 0, 1, 0, 0, 0, 0, 0, 0), (.getfield 25, 3, 11, 7, 7, 900, 0, 0), (.iload_n 1, 1, 1, 0, 0, 0, 0, 0), (.iaload, 1, 0, 0, 0, 0, 0, 0)] (by decide +kernel) rfl (by simp only [o1, Bool.and_true, Bool.true_and]) ?_
          refine XA.drop (ls := [none, none, none]) (by simp [leL]) ?_
          simpa only [if_pos c4] using hJ43
        · have H := hF43 c4
          have o1 := H
          refine XA.blk (e9 := 61) (ok := inB x1 11 && (true)) (ls' := [some (.ref 136), some (.int x1), some (.int x2)]) (st' := [.int (σ 141 (Int32.toNatClampNeg x1))]) (h' := hs σ) [(.aload_n 0, 1, 0, 0, 0, 0, 0, 0), (.getfield 22, 3, 11, 6, 6, 899, 0, 0), (.iload_n 1, 1, 1, 0, 0, 0, 0, 0), (.iaload, 1, 0, 0, 0, 0, 0, 0), (.goto 9, 3, 61, 0, 0, 0, 0, 0)] (by decide +kernel) rfl (by simp only [o1, Bool.and_true, Bool.true_and]) ?_
          refine XA.drop (ls := [none, none, none]) (by simp [leL]) ?_
          simpa only [if_neg (not_not_intro c4)] using hJ43
      · have H := hF29 c3
        have o1 := H
        refine XA.blk (e9 := 61) (ok := inB x1 11 && (true)) (ls' := [some (.ref 136), some (.int x1), some (.int x2)]) (st' := [.int (σ 140 (Int32.toNatClampNeg x1))]) (h' := hs σ) [(.aload_n 0, 1, 0, 0, 0, 0, 0, 0), (.getfield 19, 3, 11, 5, 5, 898, 0, 0), (.iload_n 1, 1, 1, 0, 0, 0, 0, 0), (.iaload, 1, 0, 0, 0, 0, 0, 0), (.goto 23, 3, 61, 0, 0, 0, 0, 0)] (by decide +kernel) rfl (by simp only [o1, Bool.and_true, Bool.true_and]) ?_
        refine XA.drop (ls := [none, none, none]) (by simp [leL]) ?_
        simpa only [if_neg (not_not_intro c3)] using hJ29
    · have H := hF15 c2
      have o1 := H
      refine XA.blk (e9 := 61) (ok := inB x1 11 && (true)) (ls' := [some (.ref 136), some (.int x1), some (.int x2)]) (st' := [.int (σ 139 (Int32.toNatClampNeg x1))]) (h' := hs σ) [(.aload_n 0, 1, 0, 0, 0, 0, 0, 0), (.getfield 16, 3, 11, 4, 4, 897, 0, 0), (.iload_n 1, 1, 1, 0, 0, 0, 0, 0), (.iaload, 1, 0, 0, 0, 0, 0, 0), (.goto 37, 3, 61, 0, 0, 0, 0, 0)] (by decide +kernel) rfl (by simp only [o1, Bool.and_true, Bool.true_and]) ?_
      refine XA.drop (ls := [none, none, none]) (by simp [leL]) ?_
      simpa only [if_neg (not_not_intro c2)] using hJ15
  · have H := hF1 c1
    have o1 := H
    refine XA.blk (e9 := 61) (ok := inB x1 11 && (true)) (ls' := [some (.ref 136), some (.int x1), some (.int x2)]) (st' := [.int (σ 138 (Int32.toNatClampNeg x1))]) (h' := hs σ) [(.aload_n 0, 1, 0, 0, 0, 0, 0, 0), (.getfield 13, 3, 11, 3, 3, 896, 0, 0), (.iload_n 1, 1, 1, 0, 0, 0, 0, 0), (.iaload, 1, 0, 0, 0, 0, 0, 0), (.goto 51, 3, 61, 0, 0, 0, 0, 0)] (by decide +kernel) rfl (by simp only [o1, Bool.and_true, Bool.true_and]) ?_
    refine XA.drop (ls := [none, none, none]) (by simp [leL]) ?_
    simpa only [if_neg (not_not_intro c1)] using hJ1
theorem E_X11_acrobatOf {scr : ScA}  {x1 : Int32} {x2 : Int32} {σ : Nat → Nat → Int32} {P : Int32 → (Nat → Nat → Int32) → Prop} (h : K_X11_acrobatOf_0 scr x1 x2 σ P) : CiA scr 0 mX11_acrobatOf [.ref 136, .int x1, .int x2] σ P := CtA.of (by decide) (Nat.le_of_ble_eq_true rfl) (XA.drop (by simp [leL, enL]) h)
def K_X11_lies_0 (scr : ScA)  (x1 : Int32) (x2 : Int32) (σ : Nat → Nat → Int32) (P : Int32 → (Nat → Nat → Int32) → Prop) : Prop := XA scr 0 mX11_lies 172 4705 0 [some (.ref 136), some (.int x1), some (.int x2)] [] (hs σ) (pI P)
set_option maxRecDepth 20000 in
theorem W_X11_lies_0 {scr : ScA}   {x1 : Int32} {x2 : Int32} {σ : Nat → Nat → Int32} {P : Int32 → (Nat → Nat → Int32) → Prop} (H : (inB x1 10 = true) ∧ (((if (σ 153 (Int32.toNatClampNeg x1)) = (-1) then 0 else if 3 ≤ (x2 - (σ 153 (Int32.toNatClampNeg x1))) then 0 else 1 : Int32) = 0 ∨ (if (σ 153 (Int32.toNatClampNeg x1)) = (-1) then 0 else if 3 ≤ (x2 - (σ 153 (Int32.toNatClampNeg x1))) then 0 else 1 : Int32) = 1) ∧ P (if (σ 153 (Int32.toNatClampNeg x1)) = (-1) then 0 else if 3 ≤ (x2 - (σ 153 (Int32.toNatClampNeg x1))) then 0 else 1) σ)) : K_X11_lies_0 scr x1 x2 σ P := by
  show XA scr 0 mX11_lies 172 4705 0 [some (.ref 136), some (.int x1), some (.int x2)] [] (hs σ) (pI P)
  obtain ⟨o1, H⟩ := H
  refine XA.blk (e9 := 7) (ok := inB x1 10 && (true)) (ls' := [some (.ref 136), some (.int x1), some (.int x2)]) (st' := [.int (-1), .int (σ 153 (Int32.toNatClampNeg x1))]) (h' := hs σ) [(.aload_n 0, 1, 0, 0, 0, 0, 0, 0), (.getfield 58, 3, 11, 31, 18, 924, 0, 0), (.iload_n 1, 1, 1, 0, 0, 0, 0, 0), (.iaload, 1, 0, 0, 0, 0, 0, 0), (.iconst (-1), 1, 0, 0, 0, 0, (-1), 0)] (by decide +kernel) rfl (by simp only [o1, Bool.and_true, Bool.true_and]) ?_
  have hJ7 : XA scr 0 mX11_lies 172 4705 27 [none, none, none] [.int (if (σ 153 (Int32.toNatClampNeg x1)) = (-1) then 0 else if 3 ≤ (x2 - (σ 153 (Int32.toNatClampNeg x1))) then 0 else 1)] (hs σ) (pI P) := by
    exact XA.ret (some (.int (if (σ 153 (Int32.toNatClampNeg x1)) = (-1) then 0 else if 3 ≤ (x2 - (σ 153 (Int32.toNatClampNeg x1))) then 0 else 1))) rfl (show ckRt mX11_lies 27 .ireturn = true by decide +kernel) H.1 (Nat.le_of_ble_eq_true rfl) (Nat.le_of_ble_eq_true rfl) ⟨_, _, rfl, rfl, H.2⟩
  refine XA.icmp_eq (19) 26 (by decide +kernel) (fun c1 => ?_) (fun c1 => ?_)
  · refine XA.blk (e9 := 27) (ok := true) (ls' := [some (.ref 136), some (.int x1), some (.int x2)]) (st' := [.int 0]) (h' := hs σ) [(.iconst 0, 1, 0, 0, 0, 0, 0, 0)] (by decide +kernel) rfl rfl ?_
    refine XA.drop (ls := [none, none, none]) (by simp [leL]) ?_
    simpa only [if_pos c1] using hJ7
  · refine XA.blk (e9 := 19) (ok := inB x1 10 && (true)) (ls' := [some (.ref 136), some (.int x1), some (.int x2)]) (st' := [.int 3, .int (x2 - (σ 153 (Int32.toNatClampNeg x1)))]) (h' := hs σ) [(.iload_n 2, 1, 2, 0, 0, 0, 0, 0), (.aload_n 0, 1, 0, 0, 0, 0, 0, 0), (.getfield 58, 3, 11, 31, 18, 924, 0, 0), (.iload_n 1, 1, 1, 0, 0, 0, 0, 0), (.iaload, 1, 0, 0, 0, 0, 0, 0), (.isub, 1, 0, 0, 0, 0, 0, 0), (.iconst 3, 1, 0, 0, 0, 0, 3, 0)] (by decide +kernel) rfl (by simp only [o1, Bool.and_true, Bool.true_and]) ?_
    have hJ19 : XA scr 0 mX11_lies 172 4705 27 [none, none, none] [.int (if 3 ≤ (x2 - (σ 153 (Int32.toNatClampNeg x1))) then 0 else 1)] (hs σ) (pI P) := by
      simpa only [if_neg c1] using hJ7
    refine XA.icmp_ge (7) 26 (by decide +kernel) (fun c2 => ?_) (fun c2 => ?_)
    · refine XA.blk (e9 := 27) (ok := true) (ls' := [some (.ref 136), some (.int x1), some (.int x2)]) (st' := [.int 0]) (h' := hs σ) [(.iconst 0, 1, 0, 0, 0, 0, 0, 0)] (by decide +kernel) rfl rfl ?_
      refine XA.drop (ls := [none, none, none]) (by simp [leL]) ?_
      simpa only [if_pos c2] using hJ19
    · refine XA.blk (e9 := 27) (ok := true) (ls' := [some (.ref 136), some (.int x1), some (.int x2)]) (st' := [.int 1]) (h' := hs σ) [(.iconst 1, 1, 0, 0, 0, 0, 1, 0), (.goto 4, 3, 27, 0, 0, 0, 0, 0)] (by decide +kernel) rfl rfl ?_
      refine XA.drop (ls := [none, none, none]) (by simp [leL]) ?_
      simpa only [if_neg c2] using hJ19
theorem E_X11_lies {scr : ScA}  {x1 : Int32} {x2 : Int32} {σ : Nat → Nat → Int32} {P : Int32 → (Nat → Nat → Int32) → Prop} (h : K_X11_lies_0 scr x1 x2 σ P) : CiA scr 0 mX11_lies [.ref 136, .int x1, .int x2] σ P := CtA.of (by decide) (Nat.le_of_ble_eq_true rfl) (XA.drop (by simp [leL, enL]) h)
def K_X11_wipe_0 (scr : ScA)   (σ : Nat → Nat → Int32) (P : Int32 → (Nat → Nat → Int32) → Prop) : Prop := XA scr 0 mX11_wipe 172 4705 0 [some (.ref 136), none] [] (hs σ) (pI P)
set_option maxRecDepth 20000 in
theorem W_X11_wipe_0 {scr : ScA}    {σ : Nat → Nat → Int32} {P : Int32 → (Nat → Nat → Int32) → Prop} (H : ∀ σ1, σ1 = (su σ 136 0 0) → P (σ 136 0) σ1) : K_X11_wipe_0 scr σ P := by
  show XA scr 0 mX11_wipe 172 4705 0 [some (.ref 136), none] [] (hs σ) (pI P)
  refine XA.blk (e9 := 10) (ok := true) (ls' := [some (.ref 136), some (.int (σ 136 0))]) (st' := []) (h' := hs (su σ 136 0 0)) [(.aload_n 0, 1, 0, 0, 0, 0, 0, 0), (.getfield 122, 3, 11, 0, 0, 893, 0, 0), (.istore_n 1, 1, 1, 0, 0, 0, 0, 0), (.aload_n 0, 1, 0, 0, 0, 0, 0, 0), (.iconst 0, 1, 0, 0, 0, 0, 0, 0), (.putfield 122, 3, 11, 0, 0, 893, 0, 0)] (by decide +kernel) rfl rfl ?_
  obtain ⟨σ1, hσ1⟩ : ∃ s9, s9 = (su σ 136 0 0) := ⟨_, rfl⟩
  rw [← hσ1]
  have H := H σ1 hσ1
  refine XA.blk (e9 := 11) (ok := true) (ls' := [some (.ref 136), some (.int (σ 136 0))]) (st' := [.int (σ 136 0)]) (h' := hs σ1) [(.iload_n 1, 1, 1, 0, 0, 0, 0, 0)] (by decide +kernel) rfl rfl ?_
  exact XA.ret (some (.int (σ 136 0))) rfl (show ckRt mX11_wipe 11 .ireturn = true by decide +kernel) trivial (Nat.le_of_ble_eq_true rfl) (Nat.le_of_ble_eq_true rfl) ⟨_, _, rfl, rfl, H⟩
theorem E_X11_wipe {scr : ScA}   {σ : Nat → Nat → Int32} {P : Int32 → (Nat → Nat → Int32) → Prop} (h : K_X11_wipe_0 scr σ P) : CiA scr 0 mX11_wipe [.ref 136] σ P := CtA.of (by decide) (Nat.le_of_ble_eq_true rfl) (XA.drop (by simp [leL, enL]) h)
def K_X11_undo_0 (scr : ScA)   (σ : Nat → Nat → Int32) (P : Int32 → (Nat → Nat → Int32) → Prop) : Prop := XA scr 0 mX11_undo 172 4705 0 [some (.ref 136)] [] (hs σ) (pI P)
set_option maxRecDepth 20000 in
theorem W_X11_undo_0 {scr : ScA}    {σ : Nat → Nat → Int32} {P : Int32 → (Nat → Nat → Int32) → Prop} (H : (¬ (σ 136 0) = 0 → ∀ σ1, σ1 = (su σ 136 0 ((σ 136 0) - 1)) → P (σ1 136 0) σ1) ∧ ((σ 136 0) = 0 → P (-3) σ)) : K_X11_undo_0 scr σ P := by
  show XA scr 0 mX11_undo 172 4705 0 [some (.ref 136)] [] (hs σ) (pI P)
  refine XA.blk (e9 := 4) (ok := true) (ls' := [some (.ref 136)]) (st' := [.int (σ 136 0)]) (h' := hs σ) [(.aload_n 0, 1, 0, 0, 0, 0, 0, 0), (.getfield 122, 3, 11, 0, 0, 893, 0, 0)] (by decide +kernel) rfl rfl ?_
  refine XA.if_ne (6) 10 (by decide +kernel) (fun c1 => ?_) (fun c1 => ?_)
  · have H := H.1 c1
    refine XA.blk (e9 := 20) (ok := true) (ls' := [some (.ref 136)]) (st' := []) (h' := hs (su σ 136 0 ((σ 136 0) - 1))) [(.aload_n 0, 1, 0, 0, 0, 0, 0, 0), (.dup, 1, 0, 0, 0, 0, 0, 0), (.getfield 122, 3, 11, 0, 0, 893, 0, 0), (.iconst 1, 1, 0, 0, 0, 0, 1, 0), (.isub, 1, 0, 0, 0, 0, 0, 0), (.putfield 122, 3, 11, 0, 0, 893, 0, 0)] (by decide +kernel) rfl rfl ?_
    obtain ⟨σ1, hσ1⟩ : ∃ s9, s9 = (su σ 136 0 ((σ 136 0) - 1)) := ⟨_, rfl⟩
    rw [← hσ1]
    have H := H σ1 hσ1
    refine XA.blk (e9 := 24) (ok := true) (ls' := [some (.ref 136)]) (st' := [.int (σ1 136 0)]) (h' := hs σ1) [(.aload_n 0, 1, 0, 0, 0, 0, 0, 0), (.getfield 122, 3, 11, 0, 0, 893, 0, 0)] (by decide +kernel) rfl rfl ?_
    exact XA.ret (some (.int (σ1 136 0))) rfl (show ckRt mX11_undo 24 .ireturn = true by decide +kernel) trivial (Nat.le_of_ble_eq_true rfl) (Nat.le_of_ble_eq_true rfl) ⟨_, _, rfl, rfl, H⟩
  · have H := H.2 c1
    refine XA.blk (e9 := 9) (ok := true) (ls' := [some (.ref 136)]) (st' := [.int (-3)]) (h' := hs σ) [(.bipush (-3), 2, 0, 0, 0, 0, (-3), 0)] (by decide +kernel) rfl rfl ?_
    exact XA.ret (some (.int (-3))) rfl (show ckRt mX11_undo 9 .ireturn = true by decide +kernel) trivial (Nat.le_of_ble_eq_true rfl) (Nat.le_of_ble_eq_true rfl) ⟨_, _, rfl, rfl, H⟩
theorem E_X11_undo {scr : ScA}   {σ : Nat → Nat → Int32} {P : Int32 → (Nat → Nat → Int32) → Prop} (h : K_X11_undo_0 scr σ P) : CiA scr 0 mX11_undo [.ref 136] σ P := CtA.of (by decide) (Nat.le_of_ble_eq_true rfl) (XA.drop (by simp [leL, enL]) h)
def K_X11_back_0 (scr : ScA)   (σ : Nat → Nat → Int32) (P : Int32 → (Nat → Nat → Int32) → Prop) : Prop := XA scr 0 mX11_back 172 4705 0 [some (.ref 136)] [] (hs σ) (pI P)
set_option maxRecDepth 20000 in
theorem W_X11_back_0 {scr : ScA}    {σ : Nat → Nat → Int32} {P : Int32 → (Nat → Nat → Int32) → Prop} (H : (¬ (σ 136 8) = 0 → ∀ σ1, σ1 = (su σ 136 8 ((σ 136 8) - 1)) → P (σ1 136 8) σ1) ∧ ((σ 136 8) = 0 → P (-3) σ)) : K_X11_back_0 scr σ P := by
  show XA scr 0 mX11_back 172 4705 0 [some (.ref 136)] [] (hs σ) (pI P)
  refine XA.blk (e9 := 4) (ok := true) (ls' := [some (.ref 136)]) (st' := [.int (σ 136 8)]) (h' := hs σ) [(.aload_n 0, 1, 0, 0, 0, 0, 0, 0), (.getfield 164, 3, 11, 8, 0, 901, 0, 0)] (by decide +kernel) rfl rfl ?_
  refine XA.if_ne (6) 10 (by decide +kernel) (fun c1 => ?_) (fun c1 => ?_)
  · have H := H.1 c1
    refine XA.blk (e9 := 20) (ok := true) (ls' := [some (.ref 136)]) (st' := []) (h' := hs (su σ 136 8 ((σ 136 8) - 1))) [(.aload_n 0, 1, 0, 0, 0, 0, 0, 0), (.dup, 1, 0, 0, 0, 0, 0, 0), (.getfield 164, 3, 11, 8, 0, 901, 0, 0), (.iconst 1, 1, 0, 0, 0, 0, 1, 0), (.isub, 1, 0, 0, 0, 0, 0, 0), (.putfield 164, 3, 11, 8, 0, 901, 0, 0)] (by decide +kernel) rfl rfl ?_
    obtain ⟨σ1, hσ1⟩ : ∃ s9, s9 = (su σ 136 8 ((σ 136 8) - 1)) := ⟨_, rfl⟩
    rw [← hσ1]
    have H := H σ1 hσ1
    refine XA.blk (e9 := 24) (ok := true) (ls' := [some (.ref 136)]) (st' := [.int (σ1 136 8)]) (h' := hs σ1) [(.aload_n 0, 1, 0, 0, 0, 0, 0, 0), (.getfield 164, 3, 11, 8, 0, 901, 0, 0)] (by decide +kernel) rfl rfl ?_
    exact XA.ret (some (.int (σ1 136 8))) rfl (show ckRt mX11_back 24 .ireturn = true by decide +kernel) trivial (Nat.le_of_ble_eq_true rfl) (Nat.le_of_ble_eq_true rfl) ⟨_, _, rfl, rfl, H⟩
  · have H := H.2 c1
    refine XA.blk (e9 := 9) (ok := true) (ls' := [some (.ref 136)]) (st' := [.int (-3)]) (h' := hs σ) [(.bipush (-3), 2, 0, 0, 0, 0, (-3), 0)] (by decide +kernel) rfl rfl ?_
    exact XA.ret (some (.int (-3))) rfl (show ckRt mX11_back 9 .ireturn = true by decide +kernel) trivial (Nat.le_of_ble_eq_true rfl) (Nat.le_of_ble_eq_true rfl) ⟨_, _, rfl, rfl, H⟩
theorem E_X11_back {scr : ScA}   {σ : Nat → Nat → Int32} {P : Int32 → (Nat → Nat → Int32) → Prop} (h : K_X11_back_0 scr σ P) : CiA scr 0 mX11_back [.ref 136] σ P := CtA.of (by decide) (Nat.le_of_ble_eq_true rfl) (XA.drop (by simp [leL, enL]) h)
def K_X11_ofRow_0 (scr : ScA)  (x1 : Int32) (x2 : Int32) (σ : Nat → Nat → Int32) (P : Int32 → (Nat → Nat → Int32) → Prop) : Prop := XA scr 0 mX11_ofRow 172 4705 0 [some (.ref 136), some (.int x1), some (.int x2)] [] (hs σ) (pI P)
set_option maxRecDepth 20000 in
theorem W_X11_ofRow_0 {scr : ScA}   {x1 : Int32} {x2 : Int32} {σ : Nat → Nat → Int32} {P : Int32 → (Nat → Nat → Int32) → Prop} (H : (¬ x2 = (-1) → (¬ x1 ≤ x2 → (inB x2 2 = true))) ∧ (P (if ¬ x2 = (-1) then if x1 ≤ x2 then (-1) else σ 162 (Int32.toNatClampNeg x2) else x1) σ)) : K_X11_ofRow_0 scr x1 x2 σ P := by
  show XA scr 0 mX11_ofRow 172 4705 0 [some (.ref 136), some (.int x1), some (.int x2)] [] (hs σ) (pI P)
  refine XA.blk (e9 := 2) (ok := true) (ls' := [some (.ref 136), some (.int x1), some (.int x2)]) (st' := [.int (-1), .int x2]) (h' := hs σ) [(.iload_n 2, 1, 2, 0, 0, 0, 0, 0), (.iconst (-1), 1, 0, 0, 0, 0, (-1), 0)] (by decide +kernel) rfl rfl ?_
  obtain ⟨hT2, H⟩ := H
  have hJ2 : XA scr 0 mX11_ofRow 172 4705 24 [none, none, none] [.int (if ¬ x2 = (-1) then if x1 ≤ x2 then (-1) else σ 162 (Int32.toNatClampNeg x2) else x1)] (hs σ) (pI P) := by
    exact XA.ret (some (.int (if ¬ x2 = (-1) then if x1 ≤ x2 then (-1) else σ 162 (Int32.toNatClampNeg x2) else x1))) rfl (show ckRt mX11_ofRow 24 .ireturn = true by decide +kernel) trivial (Nat.le_of_ble_eq_true rfl) (Nat.le_of_ble_eq_true rfl) ⟨_, _, rfl, rfl, H⟩
  refine XA.icmp_ne (7) 9 (by decide +kernel) (fun c1 => ?_) (fun c1 => ?_)
  · have H := hT2 c1
    refine XA.blk (e9 := 11) (ok := true) (ls' := [some (.ref 136), some (.int x1), some (.int x2)]) (st' := [.int x1, .int x2]) (h' := hs σ) [(.iload_n 2, 1, 2, 0, 0, 0, 0, 0), (.iload_n 1, 1, 1, 0, 0, 0, 0, 0)] (by decide +kernel) rfl rfl ?_
    have hF11 := H
    have hJ11 : XA scr 0 mX11_ofRow 172 4705 24 [none, none, none] [.int (if x1 ≤ x2 then (-1) else σ 162 (Int32.toNatClampNeg x2))] (hs σ) (pI P) := by
      simpa only [if_pos c1] using hJ2
    refine XA.icmp_ge (12) 23 (by decide +kernel) (fun c2 => ?_) (fun c2 => ?_)
    · refine XA.blk (e9 := 24) (ok := true) (ls' := [some (.ref 136), some (.int x1), some (.int x2)]) (st' := [.int (-1)]) (h' := hs σ) [(.iconst (-1), 1, 0, 0, 0, 0, (-1), 0)] (by decide +kernel) rfl rfl ?_
      refine XA.drop (ls := [none, none, none]) (by simp [leL]) ?_
      simpa only [if_pos c2] using hJ11
    · have H := hF11 c2
      have o1 := H
      refine XA.blk (e9 := 24) (ok := inB x2 2 && (true)) (ls' := [some (.ref 136), some (.int x1), some (.int x2)]) (st' := [.int (σ 162 (Int32.toNatClampNeg x2))]) (h' := hs σ) [(.aload_n 0, 1, 0, 0, 0, 0, 0, 0), (.getfield 85, 3, 11, 42, 27, 935, 0, 0), (.iload_n 2, 1, 2, 0, 0, 0, 0, 0), (.iaload, 1, 0, 0, 0, 0, 0, 0), (.goto 4, 3, 24, 0, 0, 0, 0, 0)] (by decide +kernel) rfl (by simp only [o1, Bool.and_true, Bool.true_and]) ?_
      refine XA.drop (ls := [none, none, none]) (by simp [leL]) ?_
      simpa only [if_neg c2] using hJ11
  · refine XA.blk (e9 := 24) (ok := true) (ls' := [some (.ref 136), some (.int x1), some (.int x2)]) (st' := [.int x1]) (h' := hs σ) [(.iload_n 1, 1, 1, 0, 0, 0, 0, 0), (.goto 18, 3, 24, 0, 0, 0, 0, 0)] (by decide +kernel) rfl rfl ?_
    refine XA.drop (ls := [none, none, none]) (by simp [leL]) ?_
    simpa only [if_neg (not_not_intro c1)] using hJ2
theorem E_X11_ofRow {scr : ScA}  {x1 : Int32} {x2 : Int32} {σ : Nat → Nat → Int32} {P : Int32 → (Nat → Nat → Int32) → Prop} (h : K_X11_ofRow_0 scr x1 x2 σ P) : CiA scr 0 mX11_ofRow [.ref 136, .int x1, .int x2] σ P := CtA.of (by decide) (Nat.le_of_ble_eq_true rfl) (XA.drop (by simp [leL, enL]) h)
def K_X11_forget_0 (scr : ScA)   (σ : Nat → Nat → Int32) (P : Int32 → (Nat → Nat → Int32) → Prop) : Prop := XA scr 0 mX11_forget 172 4705 0 [some (.ref 136), none] [] (hs σ) (pI P)
set_option maxRecDepth 20000 in
theorem W_X11_forget_0 {scr : ScA}    {σ : Nat → Nat → Int32} {P : Int32 → (Nat → Nat → Int32) → Prop} (H : ∀ σ1, σ1 = (su σ 136 43 0) → P (σ 136 43) σ1) : K_X11_forget_0 scr σ P := by
  show XA scr 0 mX11_forget 172 4705 0 [some (.ref 136), none] [] (hs σ) (pI P)
  refine XA.blk (e9 := 10) (ok := true) (ls' := [some (.ref 136), some (.int (σ 136 43))]) (st' := []) (h' := hs (su σ 136 43 0)) [(.aload_n 0, 1, 0, 0, 0, 0, 0, 0), (.getfield 307, 3, 11, 43, 0, 936, 0, 0), (.istore_n 1, 1, 1, 0, 0, 0, 0, 0), (.aload_n 0, 1, 0, 0, 0, 0, 0, 0), (.iconst 0, 1, 0, 0, 0, 0, 0, 0), (.putfield 307, 3, 11, 43, 0, 936, 0, 0)] (by decide +kernel) rfl rfl ?_
  obtain ⟨σ1, hσ1⟩ : ∃ s9, s9 = (su σ 136 43 0) := ⟨_, rfl⟩
  rw [← hσ1]
  have H := H σ1 hσ1
  refine XA.blk (e9 := 11) (ok := true) (ls' := [some (.ref 136), some (.int (σ 136 43))]) (st' := [.int (σ 136 43)]) (h' := hs σ1) [(.iload_n 1, 1, 1, 0, 0, 0, 0, 0)] (by decide +kernel) rfl rfl ?_
  exact XA.ret (some (.int (σ 136 43))) rfl (show ckRt mX11_forget 11 .ireturn = true by decide +kernel) trivial (Nat.le_of_ble_eq_true rfl) (Nat.le_of_ble_eq_true rfl) ⟨_, _, rfl, rfl, H⟩
theorem E_X11_forget {scr : ScA}   {σ : Nat → Nat → Int32} {P : Int32 → (Nat → Nat → Int32) → Prop} (h : K_X11_forget_0 scr σ P) : CiA scr 0 mX11_forget [.ref 136] σ P := CtA.of (by decide) (Nat.le_of_ble_eq_true rfl) (XA.drop (by simp [leL, enL]) h)
def K_X11_meets_0 (scr : ScA)  (x1 : Int32) (σ : Nat → Nat → Int32) (P : Int32 → (Nat → Nat → Int32) → Prop) : Prop := XA scr 0 mX11_meets 172 4705 0 [some (.ref 136), some (.int x1)] [] (hs σ) (pI P)
set_option maxRecDepth 20000 in
theorem W_X11_meets_0 {scr : ScA}   {x1 : Int32} {σ : Nat → Nat → Int32} {P : Int32 → (Nat → Nat → Int32) → Prop} (H : ∀ σ1, σ1 = (su σ 136 53 x1) → P ((-10) - x1) σ1) : K_X11_meets_0 scr x1 σ P := by
  show XA scr 0 mX11_meets 172 4705 0 [some (.ref 136), some (.int x1)] [] (hs σ) (pI P)
  refine XA.blk (e9 := 5) (ok := true) (ls' := [some (.ref 136), some (.int x1)]) (st' := []) (h' := hs (su σ 136 53 x1)) [(.aload_n 0, 1, 0, 0, 0, 0, 0, 0), (.iload_n 1, 1, 1, 0, 0, 0, 0, 0), (.putfield 342, 3, 11, 53, 0, 946, 0, 0)] (by decide +kernel) rfl rfl ?_
  obtain ⟨σ1, hσ1⟩ : ∃ s9, s9 = (su σ 136 53 x1) := ⟨_, rfl⟩
  rw [← hσ1]
  have H := H σ1 hσ1
  refine XA.blk (e9 := 9) (ok := true) (ls' := [some (.ref 136), some (.int x1)]) (st' := [.int ((-10) - x1)]) (h' := hs σ1) [(.bipush (-10), 2, 0, 0, 0, 0, (-10), 0), (.iload_n 1, 1, 1, 0, 0, 0, 0, 0), (.isub, 1, 0, 0, 0, 0, 0, 0)] (by decide +kernel) rfl rfl ?_
  exact XA.ret (some (.int ((-10) - x1))) rfl (show ckRt mX11_meets 9 .ireturn = true by decide +kernel) trivial (Nat.le_of_ble_eq_true rfl) (Nat.le_of_ble_eq_true rfl) ⟨_, _, rfl, rfl, H⟩
theorem E_X11_meets {scr : ScA}  {x1 : Int32} {σ : Nat → Nat → Int32} {P : Int32 → (Nat → Nat → Int32) → Prop} (h : K_X11_meets_0 scr x1 σ P) : CiA scr 0 mX11_meets [.ref 136, .int x1] σ P := CtA.of (by decide) (Nat.le_of_ble_eq_true rfl) (XA.drop (by simp [leL, enL]) h)
def K_X11_keep_0 (scr : ScA)  (x1 : Int32) (x2 : Int32) (x3 : Int32) (σ : Nat → Nat → Int32) (P : (Nat → Nat → Int32) → Prop) : Prop := XA scr 0 mX11_keep 172 4705 0 [some (.ref 136), some (.int x1), some (.int x2), some (.int x3)] [] (hs σ) (pV P)
set_option maxRecDepth 20000 in
theorem W_X11_keep_0 {scr : ScA}   {x1 : Int32} {x2 : Int32} {x3 : Int32} {σ : Nat → Nat → Int32} {P : (Nat → Nat → Int32) → Prop} (H : (inB x1 4 = true) ∧ ((inB ((60 * x1) + x2) 240 = true) ∧ (∀ σ1, σ1 = (su σ 170 (Int32.toNatClampNeg ((60 * x1) + x2)) (if ¬ (σ 168 (Int32.toNatClampNeg x1)) = 0 then if ¬ (σ 168 (Int32.toNatClampNeg x1)) = 1 then x3 else (Int32.toInt16 x3).toInt32 else (Int32.toInt8 x3).toInt32)) → P σ1))) : K_X11_keep_0 scr x1 x2 x3 σ P := by
  show XA scr 0 mX11_keep 172 4705 0 [some (.ref 136), some (.int x1), some (.int x2), some (.int x3)] [] (hs σ) (pV P)
  obtain ⟨o1, H⟩ := H
  refine XA.blk (e9 := 16) (ok := inB x1 4 && (true)) (ls' := [some (.ref 136), some (.int x1), some (.int x2), some (.int x3)]) (st' := [.int (σ 168 (Int32.toNatClampNeg x1)), .int ((60 * x1) + x2), .ref 170]) (h' := hs σ) [(.aload_n 0, 1, 0, 0, 0, 0, 0, 0), (.getfield 110, 3, 11, 51, 35, 944, 0, 0), (.bipush 60, 2, 0, 0, 0, 0, 60, 0), (.iload_n 1, 1, 1, 0, 0, 0, 0, 0), (.imul, 1, 0, 0, 0, 0, 0, 0), (.iload_n 2, 1, 2, 0, 0, 0, 0, 0), (.iadd, 1, 0, 0, 0, 0, 0, 0), (.aload_n 0, 1, 0, 0, 0, 0, 0, 0), (.getfield 104, 3, 11, 49, 33, 942, 0, 0), (.iload_n 1, 1, 1, 0, 0, 0, 0, 0), (.iaload, 1, 0, 0, 0, 0, 0, 0)] (by decide +kernel) rfl (by simp only [o1, Bool.and_true, Bool.true_and]) ?_
  have hJ16 : XA scr 0 mX11_keep 172 4705 40 [none, none, none, none] [.int (if ¬ (σ 168 (Int32.toNatClampNeg x1)) = 0 then if ¬ (σ 168 (Int32.toNatClampNeg x1)) = 1 then x3 else (Int32.toInt16 x3).toInt32 else (Int32.toInt8 x3).toInt32), .int ((60 * x1) + x2), .ref 170] (hs σ) (pV P) := by
    obtain ⟨o2, H⟩ := H
    refine XA.blk (e9 := 41) (ok := inB ((60 * x1) + x2) 240 && (true)) (ls' := [none, none, none, none]) (st' := []) (h' := hs (su σ 170 (Int32.toNatClampNeg ((60 * x1) + x2)) (if ¬ (σ 168 (Int32.toNatClampNeg x1)) = 0 then if ¬ (σ 168 (Int32.toNatClampNeg x1)) = 1 then x3 else (Int32.toInt16 x3).toInt32 else (Int32.toInt8 x3).toInt32))) [(.iastore, 1, 0, 0, 0, 0, 0, 0)] (by decide +kernel) rfl (by simp only [o2, Bool.and_true, Bool.true_and]) ?_
    obtain ⟨σ1, hσ1⟩ : ∃ s9, s9 = (su σ 170 (Int32.toNatClampNeg ((60 * x1) + x2)) (if ¬ (σ 168 (Int32.toNatClampNeg x1)) = 0 then if ¬ (σ 168 (Int32.toNatClampNeg x1)) = 1 then x3 else (Int32.toInt16 x3).toInt32 else (Int32.toInt8 x3).toInt32)) := ⟨_, rfl⟩
    rw [← hσ1]
    have H := H σ1 hσ1
    exact XA.ret none rfl (show ckRt mX11_keep 41 .return_ = true by decide +kernel) trivial (Nat.le_of_ble_eq_true rfl) (Nat.le_of_ble_eq_true rfl) ⟨_, rfl, rfl, H⟩
  refine XA.if_ne (8) 24 (by decide +kernel) (fun c1 => ?_) (fun c1 => ?_)
  · refine XA.blk (e9 := 31) (ok := inB x1 4 && (true)) (ls' := [some (.ref 136), some (.int x1), some (.int x2), some (.int x3)]) (st' := [.int 1, .int (σ 168 (Int32.toNatClampNeg x1)), .int ((60 * x1) + x2), .ref 170]) (h' := hs σ) [(.aload_n 0, 1, 0, 0, 0, 0, 0, 0), (.getfield 104, 3, 11, 49, 33, 942, 0, 0), (.iload_n 1, 1, 1, 0, 0, 0, 0, 0), (.iaload, 1, 0, 0, 0, 0, 0, 0), (.iconst 1, 1, 0, 0, 0, 0, 1, 0)] (by decide +kernel) rfl (by simp only [o1, Bool.and_true, Bool.true_and]) ?_
    have hJ31 : XA scr 0 mX11_keep 172 4705 40 [none, none, none, none] [.int (if ¬ (σ 168 (Int32.toNatClampNeg x1)) = 1 then x3 else (Int32.toInt16 x3).toInt32), .int ((60 * x1) + x2), .ref 170] (hs σ) (pV P) := by
      simpa only [if_pos c1] using hJ16
    refine XA.icmp_ne (8) 39 (by decide +kernel) (fun c2 => ?_) (fun c2 => ?_)
    · refine XA.blk (e9 := 40) (ok := true) (ls' := [some (.ref 136), some (.int x1), some (.int x2), some (.int x3)]) (st' := [.int x3, .int ((60 * x1) + x2), .ref 170]) (h' := hs σ) [(.iload_n 3, 1, 3, 0, 0, 0, 0, 0)] (by decide +kernel) rfl rfl ?_
      refine XA.drop (ls := [none, none, none, none]) (by simp [leL]) ?_
      simpa only [if_pos c2] using hJ31
    · refine XA.blk (e9 := 40) (ok := true) (ls' := [some (.ref 136), some (.int x1), some (.int x2), some (.int x3)]) (st' := [.int ((Int32.toInt16 x3).toInt32), .int ((60 * x1) + x2), .ref 170]) (h' := hs σ) [(.iload_n 3, 1, 3, 0, 0, 0, 0, 0), (.i2s, 1, 0, 0, 0, 0, 0, 0), (.goto 4, 3, 40, 0, 0, 0, 0, 0)] (by decide +kernel) rfl rfl ?_
      refine XA.drop (ls := [none, none, none, none]) (by simp [leL]) ?_
      simpa only [if_neg (not_not_intro c2)] using hJ31
  · refine XA.blk (e9 := 40) (ok := true) (ls' := [some (.ref 136), some (.int x1), some (.int x2), some (.int x3)]) (st' := [.int ((Int32.toInt8 x3).toInt32), .int ((60 * x1) + x2), .ref 170]) (h' := hs σ) [(.iload_n 3, 1, 3, 0, 0, 0, 0, 0), (.i2b, 1, 0, 0, 0, 0, 0, 0), (.goto 19, 3, 40, 0, 0, 0, 0, 0)] (by decide +kernel) rfl rfl ?_
    refine XA.drop (ls := [none, none, none, none]) (by simp [leL]) ?_
    simpa only [if_neg (not_not_intro c1)] using hJ16
theorem E_X11_keep {scr : ScA}  {x1 : Int32} {x2 : Int32} {x3 : Int32} {σ : Nat → Nat → Int32} {P : (Nat → Nat → Int32) → Prop} (h : K_X11_keep_0 scr x1 x2 x3 σ P) : CvA scr 0 mX11_keep [.ref 136, .int x1, .int x2, .int x3] σ P := CtA.of (by decide) (Nat.le_of_ble_eq_true rfl) (XA.drop (by simp [leL, enL]) h)
end
section
/-! the small functions: what they answer -/
abbrev Sg : Type := Nat → Nat → Int32
def isW (i b : Int32) : Int32 := if i < 0 then 0 else if b ≤ i then 0 else 1
def hbV (x i : Int32) : Int32 := if ((x >>> (i &&& 31)) &&& 1) = 0 then 0 else 1
def inV (v lo hi : Int32) : Int32 := if v < lo then 0 else if hi < v then 0 else 1
def iiV (b k : Int32) : Int32 := if ¬ ((b >>> (k &&& 31)) &&& 1) = 1 then 0 else 1
def blV (p : Int32) : Int32 := if 7 ≤ p then if 9 ≤ p then 7 else p - 3 else p - 4
def tiV (s l : Int32) : Int32 := if s = 1 then (l / 8) + 1 else if s = 2 then (if (l / 8) ≤ 0 then 0 else (l / 8) - 1) else l / 8
def htV (t : Int32) : Int32 := (((if (t &&& 15) = 0 then 0 else 0 + 1) |> fun x => if (t &&& 112) = 0 then x else x + 1) |> fun x => if (t &&& 384) = 0 then x else x + 1) |> fun x => if (t &&& 512) = 0 then x else x + 1
def us (x : Int32) (k : Int32) : Int32 := (x.toUInt32 >>> (k.toUInt32 &&& Int32.toUInt32 31)).toInt32
def bc1 (x : Int32) : Int32 := x - (us x 1 &&& 1431655765)
def bc2 (x : Int32) : Int32 := (x &&& 858993459) + (us x 2 &&& 858993459)
def bc3 (x : Int32) : Int32 := (x + us x 4) &&& 252645135
def bc4 (x : Int32) : Int32 := x + us x 8
def bc5 (x : Int32) : Int32 := x + us x 16
def bcV (x : Int32) : Int32 := bc5 (bc4 (bc3 (bc2 (bc1 x)))) &&& 63
theorem isW01 (i b : Int32) : isW i b = 0 ∨ isW i b = 1 := by unfold isW; split; exact Or.inl rfl; split; exact Or.inl rfl; exact Or.inr rfl
theorem hbV01 (i b : Int32) : hbV i b = 0 ∨ hbV i b = 1 := by unfold hbV; split; exact Or.inl rfl; exact Or.inr rfl
theorem inV01 (i b c : Int32) : inV i b c = 0 ∨ inV i b c = 1 := by unfold inV; split; exact Or.inl rfl; split; exact Or.inl rfl; exact Or.inr rfl
theorem iiV01 (i b : Int32) : iiV i b = 0 ∨ iiV i b = 1 := by unfold iiV; split; exact Or.inl rfl; exact Or.inr rfl
theorem pu_X10_isWithin (scr : ScA) (σ : Sg) (i b : Int32) : CpI scr 0 mX10_isWithin [.int i, .int b] σ (isW i b) := CpI.of (E_X10_isWithin (W_X10_isWithin_0 ⟨isW01 i b, rfl, rfl⟩))
theorem pu_X10_hasBit (scr : ScA) (σ : Sg) (i b : Int32) : CpI scr 0 mX10_hasBit [.int i, .int b] σ (hbV i b) := CpI.of (E_X10_hasBit (W_X10_hasBit_0 ⟨hbV01 i b, rfl, rfl⟩))
theorem pu_X11_in (scr : ScA) (σ : Sg) (i b c : Int32) : CpI scr 0 mX11_in [.int i, .int b, .int c] σ (inV i b c) := CpI.of (E_X11_in (W_X11_in_0 ⟨inV01 i b c, rfl, rfl⟩))
theorem pu_X11_isIn (scr : ScA) (σ : Sg) (i b : Int32) : CpI scr 0 mX11_isIn [.int i, .int b] σ (iiV i b) := CpI.of (E_X11_isIn (W_X11_isIn_0 ⟨iiV01 i b, rfl, rfl⟩))
theorem pu_X11_below (scr : ScA) (σ : Sg) (i : Int32) : CpI scr 0 mX11_below [.int i] σ (blV i) := CpI.of (E_X11_below (W_X11_below_0 ⟨rfl, rfl⟩))
theorem pu_X11_no (scr : ScA) (σ : Sg) (i : Int32) : CpJ scr 0 mX11_no [.int i] σ ((-9223372036854775808) - (Int32.toInt64 i)) := CpJ.of (E_X11_no (W_X11_no_0 ⟨rfl, rfl⟩))
theorem pu_X10_mixed (scr : ScA) (σ : Sg) (h x : Int64) : CpJ scr 0 mX10_mixed [.long h, .long x] σ ((31 * h) + x) := CpJ.of (E_X10_mixed (W_X10_mixed_0 ⟨rfl, rfl⟩))
theorem pu_X5_tiring (scr : ScA) (σ : Sg) (i b : Int32) : CpI scr 0 mX5_tiring [.int i, .int b] σ (tiV i b) := CpI.of (E_X5_tiring (W_X5_tiring_0 ⟨fun h => ⟨by unfold tiV; rw [if_pos h], rfl⟩, fun h => ⟨by subst h; unfold tiV; rw [if_neg (show ¬ (2 : Int32) = 1 by decide), if_pos rfl], rfl⟩, fun h1 h2 => ⟨by unfold tiV; rw [if_neg h1, if_neg h2], rfl⟩⟩))
theorem pu_X1_following (scr : ScA) (σ : Sg) (i : Int32) : CpI scr 0 mX1_following [.int i] σ ((1103515245 * i) + 12345) := CpI.of (E_X1_following (W_X1_following_0 ⟨rfl, rfl⟩))
theorem pu_X1_allBits (scr : ScA) (σ : Sg) {v : Nat} (hv : isEv v) : CpI scr 0 mX1_allBits [.ref v] σ ((1 <<< ((σ v 3) &&& 31)) - 1) := CpI.of (E_X1_allBits (W_X1_allBits_0 hv ⟨rfl, rfl⟩))
theorem pu_J6_bitCount_0f7a4 (scr : ScA) (σ : Sg) (i : Int32) : CpI scr 0 mJ6_bitCount_0f7a4 [.int i] σ (bcV i) := CpI.of (E_J6_bitCount_0f7a4 (W_J6_bitCount_0f7a4_0 ⟨rfl, rfl⟩))
theorem pu_X10_height (scr : ScA) (σ : Sg) (i : Int32) : CpI scr 0 mX10_height [.int i] σ (htV i) := by
  refine CpI.of (E_X10_height (W_X10_height_0 (W_X10_height_12 ⟨fun h => absurd h (by decide), fun _ => ⟨by decide, W_X10_height_12 ⟨fun h => absurd h (by decide), fun _ => ⟨by decide, W_X10_height_12 ⟨fun h => absurd h (by decide), fun _ => ⟨by decide, W_X10_height_12 ⟨fun h => absurd h (by decide), fun _ => ⟨by decide, W_X10_height_12 ⟨fun _ => ⟨?_, rfl⟩, fun h => absurd (by decide) h⟩⟩⟩⟩⟩⟩⟩⟩⟩)))
  rfl
theorem pu_X0_part (scr : ScA) (σ : Sg) {k : Nat} (hk : isBe k) (i : Int32) : CpI scr 0 mX0_part [.ref k, .int i] σ (if i = 0 then σ k 0 else if i = 1 then σ k 1 else σ k 2) := CpI.of (E_X0_part (W_X0_part_0 hk ⟨fun h => ⟨by rw [if_pos h], rfl⟩, fun h => ⟨by rw [if_neg (by rw [h]; decide), if_pos h], rfl⟩, fun h1 h2 => ⟨by rw [if_neg h1, if_neg h2], rfl⟩⟩))
def hrV (σ : Sg) (k : Nat) (i n : Int32) : Int32 := if i < 0 then 0 else if n < 0 then 0 else if (σ k 2) < i then 0 else if ((σ k 2) - i) < n then 0 else 1
theorem hrV01 (σ : Sg) (k : Nat) (i n : Int32) : hrV σ k i n = 0 ∨ hrV σ k i n = 1 := by unfold hrV; repeat (first | exact Or.inl rfl | exact Or.inr rfl | split)
theorem pu_X4_hasRange (scr : ScA) (σ : Sg) {k : Nat} (hk : isSe k) (i n : Int32) : CpI scr 0 mX4_hasRange [.ref k, .int i, .int n] σ (hrV σ k i n) := CpI.of (E_X4_hasRange (W_X4_hasRange_0 hk ⟨hrV01 σ k i n, rfl, rfl⟩))
def byV (σ : Sg) (i : Int32) : Int32 := if (σ 136 0) ≤ i then (-1) else σ 137 (Int32.toNatClampNeg i)
theorem pu_X11_byteAt (scr : ScA) (σ : Sg) (i : Int32) (h : ¬ (σ 136 0) ≤ i → inB i 59 = true) : CpI scr 0 mX11_byteAt [.ref 136, .int i] σ (byV σ i) := CpI.of (E_X11_byteAt (W_X11_byteAt_0 ⟨h, rfl, rfl⟩))
def aoV (σ : Sg) (k w : Int32) : Int32 := if ¬ w = 0 then if ¬ w = 1 then if ¬ w = 2 then if ¬ w = 3 then σ 142 (Int32.toNatClampNeg k) else σ 141 (Int32.toNatClampNeg k) else σ 140 (Int32.toNatClampNeg k) else σ 139 (Int32.toNatClampNeg k) else σ 138 (Int32.toNatClampNeg k)
theorem pu_X11_acrobatOf (scr : ScA) (σ : Sg) (k w : Int32) (h : inB k 11 = true) : CpI scr 0 mX11_acrobatOf [.ref 136, .int k, .int w] σ (aoV σ k w) := CpI.of (E_X11_acrobatOf (W_X11_acrobatOf_0 ⟨fun _ => ⟨fun _ => ⟨fun _ => ⟨fun _ => h, fun _ => h⟩, fun _ => h⟩, fun _ => h⟩, fun _ => h, rfl, rfl⟩))
def liV (σ : Sg) (k m : Int32) : Int32 := if (σ 153 (Int32.toNatClampNeg k)) = (-1) then 0 else if 3 ≤ (m - (σ 153 (Int32.toNatClampNeg k))) then 0 else 1
theorem liV01 (σ : Sg) (k m : Int32) : liV σ k m = 0 ∨ liV σ k m = 1 := by unfold liV; repeat (first | exact Or.inl rfl | exact Or.inr rfl | split)
theorem pu_X11_lies (scr : ScA) (σ : Sg) (k m : Int32) (h : inB k 10 = true) : CpI scr 0 mX11_lies [.ref 136, .int k, .int m] σ (liV σ k m) := CpI.of (E_X11_lies (W_X11_lies_0 ⟨h, liV01 σ k m, rfl, rfl⟩))
def orV (σ : Sg) (n i : Int32) : Int32 := if ¬ i = (-1) then if n ≤ i then (-1) else σ 162 (Int32.toNatClampNeg i) else n
theorem pu_X11_ofRow (scr : ScA) (σ : Sg) (n i : Int32) (h : ¬ i = (-1) → (¬ n ≤ i → inB i 2 = true)) : CpI scr 0 mX11_ofRow [.ref 136, .int n, .int i] σ (orV σ n i) := CpI.of (E_X11_ofRow (W_X11_ofRow_0 ⟨h, rfl, rfl⟩))
end
section
def K_X11_isMoment_0 (scr : ScA)  (x0 : Int32) (σ : Nat → Nat → Int32) (P : Int32 → (Nat → Nat → Int32) → Prop) : Prop := XA scr 1 mX11_isMoment 172 4705 0 [some (.int x0)] [] (hs σ) (pI P)
set_option maxRecDepth 20000 in
theorem W_X11_isMoment_0 {scr : ScA}   {x0 : Int32} {σ : Nat → Nat → Int32} {P : Int32 → (Nat → Nat → Int32) → Prop} (H : ((inV x0 0 23 : Int32) = 0 ∨ (inV x0 0 23 : Int32) = 1) ∧ P (inV x0 0 23) σ) : K_X11_isMoment_0 scr x0 σ P := by
  show XA scr 1 mX11_isMoment 172 4705 0 [some (.int x0)] [] (hs σ) (pI P)
  refine XA.blk (e9 := 4) (ok := true) (ls' := [some (.int x0)]) (st' := [.int 23, .int 0, .int x0]) (h' := hs σ) [(.iload_n 0, 1, 0, 0, 0, 0, 0, 0), (.iconst 0, 1, 0, 0, 0, 0, 0, 0), (.bipush 23, 2, 0, 0, 0, 0, 23, 0)] (by decide +kernel) rfl rfl ?_
  refine XA.callS (as := [.int x0, .int 0, .int 23]) (rest := []) (mc' := 0) (ms' := 0) (idx := 118) (t := 1061) cs_X11_in (by decide +kernel) rfl rfl (Nat.le_of_ble_eq_true rfl) (Nat.le_of_ble_eq_true rfl) (Nat.le_of_ble_eq_true rfl) (Nat.le_of_ble_eq_true rfl) (pu_X11_in scr σ x0 0 23) (fun rv h' hp => ?_)
  obtain ⟨rfl, rfl⟩ := hp
  refine ⟨rfl, rfl, ?_⟩
  show XA scr 1 mX11_isMoment 172 4705 7 [some (.int x0)] [.int (inV x0 0 23)] (hs σ) (pI P)
  exact XA.ret (some (.int (inV x0 0 23))) rfl (show ckRt mX11_isMoment 7 .ireturn = true by decide +kernel) H.1 (Nat.le_of_ble_eq_true rfl) (Nat.le_of_ble_eq_true rfl) ⟨_, _, rfl, rfl, H.2⟩
theorem E_X11_isMoment {scr : ScA}  {x0 : Int32} {σ : Nat → Nat → Int32} {P : Int32 → (Nat → Nat → Int32) → Prop} (h : K_X11_isMoment_0 scr x0 σ P) : CiA scr 1 mX11_isMoment [.int x0] σ P := CtA.of (by decide) (Nat.le_of_ble_eq_true rfl) (XA.drop (by simp [leL, enL]) h)
def K_X11_isTen_0 (scr : ScA)  (x0 : Int32) (σ : Nat → Nat → Int32) (P : Int32 → (Nat → Nat → Int32) → Prop) : Prop := XA scr 1 mX11_isTen 172 4705 0 [some (.int x0)] [] (hs σ) (pI P)
set_option maxRecDepth 20000 in
theorem W_X11_isTen_0 {scr : ScA}   {x0 : Int32} {σ : Nat → Nat → Int32} {P : Int32 → (Nat → Nat → Int32) → Prop} (H : ((inV x0 0 9 : Int32) = 0 ∨ (inV x0 0 9 : Int32) = 1) ∧ P (inV x0 0 9) σ) : K_X11_isTen_0 scr x0 σ P := by
  show XA scr 1 mX11_isTen 172 4705 0 [some (.int x0)] [] (hs σ) (pI P)
  refine XA.blk (e9 := 4) (ok := true) (ls' := [some (.int x0)]) (st' := [.int 9, .int 0, .int x0]) (h' := hs σ) [(.iload_n 0, 1, 0, 0, 0, 0, 0, 0), (.iconst 0, 1, 0, 0, 0, 0, 0, 0), (.bipush 9, 2, 0, 0, 0, 0, 9, 0)] (by decide +kernel) rfl rfl ?_
  refine XA.callS (as := [.int x0, .int 0, .int 9]) (rest := []) (mc' := 0) (ms' := 0) (idx := 118) (t := 1061) cs_X11_in (by decide +kernel) rfl rfl (Nat.le_of_ble_eq_true rfl) (Nat.le_of_ble_eq_true rfl) (Nat.le_of_ble_eq_true rfl) (Nat.le_of_ble_eq_true rfl) (pu_X11_in scr σ x0 0 9) (fun rv h' hp => ?_)
  obtain ⟨rfl, rfl⟩ := hp
  refine ⟨rfl, rfl, ?_⟩
  show XA scr 1 mX11_isTen 172 4705 7 [some (.int x0)] [.int (inV x0 0 9)] (hs σ) (pI P)
  exact XA.ret (some (.int (inV x0 0 9))) rfl (show ckRt mX11_isTen 7 .ireturn = true by decide +kernel) H.1 (Nat.le_of_ble_eq_true rfl) (Nat.le_of_ble_eq_true rfl) ⟨_, _, rfl, rfl, H.2⟩
theorem E_X11_isTen {scr : ScA}  {x0 : Int32} {σ : Nat → Nat → Int32} {P : Int32 → (Nat → Nat → Int32) → Prop} (h : K_X11_isTen_0 scr x0 σ P) : CiA scr 1 mX11_isTen [.int x0] σ P := CtA.of (by decide) (Nat.le_of_ble_eq_true rfl) (XA.drop (by simp [leL, enL]) h)
def K_X11_isTwo_0 (scr : ScA)  (x0 : Int32) (σ : Nat → Nat → Int32) (P : Int32 → (Nat → Nat → Int32) → Prop) : Prop := XA scr 1 mX11_isTwo 172 4705 0 [some (.int x0)] [] (hs σ) (pI P)
set_option maxRecDepth 20000 in
theorem W_X11_isTwo_0 {scr : ScA}   {x0 : Int32} {σ : Nat → Nat → Int32} {P : Int32 → (Nat → Nat → Int32) → Prop} (H : ((inV x0 0 1 : Int32) = 0 ∨ (inV x0 0 1 : Int32) = 1) ∧ P (inV x0 0 1) σ) : K_X11_isTwo_0 scr x0 σ P := by
  show XA scr 1 mX11_isTwo 172 4705 0 [some (.int x0)] [] (hs σ) (pI P)
  refine XA.blk (e9 := 3) (ok := true) (ls' := [some (.int x0)]) (st' := [.int 1, .int 0, .int x0]) (h' := hs σ) [(.iload_n 0, 1, 0, 0, 0, 0, 0, 0), (.iconst 0, 1, 0, 0, 0, 0, 0, 0), (.iconst 1, 1, 0, 0, 0, 0, 1, 0)] (by decide +kernel) rfl rfl ?_
  refine XA.callS (as := [.int x0, .int 0, .int 1]) (rest := []) (mc' := 0) (ms' := 0) (idx := 118) (t := 1061) cs_X11_in (by decide +kernel) rfl rfl (Nat.le_of_ble_eq_true rfl) (Nat.le_of_ble_eq_true rfl) (Nat.le_of_ble_eq_true rfl) (Nat.le_of_ble_eq_true rfl) (pu_X11_in scr σ x0 0 1) (fun rv h' hp => ?_)
  obtain ⟨rfl, rfl⟩ := hp
  refine ⟨rfl, rfl, ?_⟩
  show XA scr 1 mX11_isTwo 172 4705 6 [some (.int x0)] [.int (inV x0 0 1)] (hs σ) (pI P)
  exact XA.ret (some (.int (inV x0 0 1))) rfl (show ckRt mX11_isTwo 6 .ireturn = true by decide +kernel) H.1 (Nat.le_of_ble_eq_true rfl) (Nat.le_of_ble_eq_true rfl) ⟨_, _, rfl, rfl, H.2⟩
theorem E_X11_isTwo {scr : ScA}  {x0 : Int32} {σ : Nat → Nat → Int32} {P : Int32 → (Nat → Nat → Int32) → Prop} (h : K_X11_isTwo_0 scr x0 σ P) : CiA scr 1 mX11_isTwo [.int x0] σ P := CtA.of (by decide) (Nat.le_of_ble_eq_true rfl) (XA.drop (by simp [leL, enL]) h)
def K_X11_isThree_0 (scr : ScA)  (x0 : Int32) (σ : Nat → Nat → Int32) (P : Int32 → (Nat → Nat → Int32) → Prop) : Prop := XA scr 1 mX11_isThree 172 4705 0 [some (.int x0)] [] (hs σ) (pI P)
set_option maxRecDepth 20000 in
theorem W_X11_isThree_0 {scr : ScA}   {x0 : Int32} {σ : Nat → Nat → Int32} {P : Int32 → (Nat → Nat → Int32) → Prop} (H : ((inV x0 0 2 : Int32) = 0 ∨ (inV x0 0 2 : Int32) = 1) ∧ P (inV x0 0 2) σ) : K_X11_isThree_0 scr x0 σ P := by
  show XA scr 1 mX11_isThree 172 4705 0 [some (.int x0)] [] (hs σ) (pI P)
  refine XA.blk (e9 := 3) (ok := true) (ls' := [some (.int x0)]) (st' := [.int 2, .int 0, .int x0]) (h' := hs σ) [(.iload_n 0, 1, 0, 0, 0, 0, 0, 0), (.iconst 0, 1, 0, 0, 0, 0, 0, 0), (.iconst 2, 1, 0, 0, 0, 0, 2, 0)] (by decide +kernel) rfl rfl ?_
  refine XA.callS (as := [.int x0, .int 0, .int 2]) (rest := []) (mc' := 0) (ms' := 0) (idx := 118) (t := 1061) cs_X11_in (by decide +kernel) rfl rfl (Nat.le_of_ble_eq_true rfl) (Nat.le_of_ble_eq_true rfl) (Nat.le_of_ble_eq_true rfl) (Nat.le_of_ble_eq_true rfl) (pu_X11_in scr σ x0 0 2) (fun rv h' hp => ?_)
  obtain ⟨rfl, rfl⟩ := hp
  refine ⟨rfl, rfl, ?_⟩
  show XA scr 1 mX11_isThree 172 4705 6 [some (.int x0)] [.int (inV x0 0 2)] (hs σ) (pI P)
  exact XA.ret (some (.int (inV x0 0 2))) rfl (show ckRt mX11_isThree 6 .ireturn = true by decide +kernel) H.1 (Nat.le_of_ble_eq_true rfl) (Nat.le_of_ble_eq_true rfl) ⟨_, _, rfl, rfl, H.2⟩
theorem E_X11_isThree {scr : ScA}  {x0 : Int32} {σ : Nat → Nat → Int32} {P : Int32 → (Nat → Nat → Int32) → Prop} (h : K_X11_isThree_0 scr x0 σ P) : CiA scr 1 mX11_isThree [.int x0] σ P := CtA.of (by decide) (Nat.le_of_ble_eq_true rfl) (XA.drop (by simp [leL, enL]) h)
def K_X11_isSheet_0 (scr : ScA)  (x0 : Int32) (σ : Nat → Nat → Int32) (P : Int32 → (Nat → Nat → Int32) → Prop) : Prop := XA scr 1 mX11_isSheet 172 4705 0 [some (.int x0)] [] (hs σ) (pI P)
set_option maxRecDepth 20000 in
theorem W_X11_isSheet_0 {scr : ScA}   {x0 : Int32} {σ : Nat → Nat → Int32} {P : Int32 → (Nat → Nat → Int32) → Prop} (H : ((inV x0 0 3 : Int32) = 0 ∨ (inV x0 0 3 : Int32) = 1) ∧ P (inV x0 0 3) σ) : K_X11_isSheet_0 scr x0 σ P := by
  show XA scr 1 mX11_isSheet 172 4705 0 [some (.int x0)] [] (hs σ) (pI P)
  refine XA.blk (e9 := 3) (ok := true) (ls' := [some (.int x0)]) (st' := [.int 3, .int 0, .int x0]) (h' := hs σ) [(.iload_n 0, 1, 0, 0, 0, 0, 0, 0), (.iconst 0, 1, 0, 0, 0, 0, 0, 0), (.iconst 3, 1, 0, 0, 0, 0, 3, 0)] (by decide +kernel) rfl rfl ?_
  refine XA.callS (as := [.int x0, .int 0, .int 3]) (rest := []) (mc' := 0) (ms' := 0) (idx := 118) (t := 1061) cs_X11_in (by decide +kernel) rfl rfl (Nat.le_of_ble_eq_true rfl) (Nat.le_of_ble_eq_true rfl) (Nat.le_of_ble_eq_true rfl) (Nat.le_of_ble_eq_true rfl) (pu_X11_in scr σ x0 0 3) (fun rv h' hp => ?_)
  obtain ⟨rfl, rfl⟩ := hp
  refine ⟨rfl, rfl, ?_⟩
  show XA scr 1 mX11_isSheet 172 4705 6 [some (.int x0)] [.int (inV x0 0 3)] (hs σ) (pI P)
  exact XA.ret (some (.int (inV x0 0 3))) rfl (show ckRt mX11_isSheet 6 .ireturn = true by decide +kernel) H.1 (Nat.le_of_ble_eq_true rfl) (Nat.le_of_ble_eq_true rfl) ⟨_, _, rfl, rfl, H.2⟩
theorem E_X11_isSheet {scr : ScA}  {x0 : Int32} {σ : Nat → Nat → Int32} {P : Int32 → (Nat → Nat → Int32) → Prop} (h : K_X11_isSheet_0 scr x0 σ P) : CiA scr 1 mX11_isSheet [.int x0] σ P := CtA.of (by decide) (Nat.le_of_ble_eq_true rfl) (XA.drop (by simp [leL, enL]) h)
def K_X11_isUp_0 (scr : ScA)  (x1 : Int32) (σ : Nat → Nat → Int32) (P : Int32 → (Nat → Nat → Int32) → Prop) : Prop := XA scr 1 mX11_isUp 172 4705 0 [some (.ref 136), some (.int x1)] [] (hs σ) (pI P)
set_option maxRecDepth 20000 in
theorem W_X11_isUp_0 {scr : ScA}   {x1 : Int32} {σ : Nat → Nat → Int32} {P : Int32 → (Nat → Nat → Int32) → Prop} (H : ((iiV (σ 136 25) x1 : Int32) = 0 ∨ (iiV (σ 136 25) x1 : Int32) = 1) ∧ P (iiV (σ 136 25) x1) σ) : K_X11_isUp_0 scr x1 σ P := by
  show XA scr 1 mX11_isUp 172 4705 0 [some (.ref 136), some (.int x1)] [] (hs σ) (pI P)
  refine XA.blk (e9 := 5) (ok := true) (ls' := [some (.ref 136), some (.int x1)]) (st' := [.int x1, .int (σ 136 25)]) (h' := hs σ) [(.aload_n 0, 1, 0, 0, 0, 0, 0, 0), (.getfield 183, 3, 11, 25, 0, 918, 0, 0), (.iload_n 1, 1, 1, 0, 0, 0, 0, 0)] (by decide +kernel) rfl rfl ?_
  refine XA.callS (as := [.int (σ 136 25), .int x1]) (rest := []) (mc' := 0) (ms' := 0) (idx := 186) (t := 1161) cs_X11_isIn (by decide +kernel) rfl rfl (Nat.le_of_ble_eq_true rfl) (Nat.le_of_ble_eq_true rfl) (Nat.le_of_ble_eq_true rfl) (Nat.le_of_ble_eq_true rfl) (pu_X11_isIn scr σ (σ 136 25) x1) (fun rv h' hp => ?_)
  obtain ⟨rfl, rfl⟩ := hp
  refine ⟨rfl, rfl, ?_⟩
  show XA scr 1 mX11_isUp 172 4705 8 [some (.ref 136), some (.int x1)] [.int (iiV (σ 136 25) x1)] (hs σ) (pI P)
  exact XA.ret (some (.int (iiV (σ 136 25) x1))) rfl (show ckRt mX11_isUp 8 .ireturn = true by decide +kernel) H.1 (Nat.le_of_ble_eq_true rfl) (Nat.le_of_ble_eq_true rfl) ⟨_, _, rfl, rfl, H.2⟩
theorem E_X11_isUp {scr : ScA}  {x1 : Int32} {σ : Nat → Nat → Int32} {P : Int32 → (Nat → Nat → Int32) → Prop} (h : K_X11_isUp_0 scr x1 σ P) : CiA scr 1 mX11_isUp [.ref 136, .int x1] σ P := CtA.of (by decide) (Nat.le_of_ble_eq_true rfl) (XA.drop (by simp [leL, enL]) h)
def K_X11_lacks_0 (scr : ScA)  (x1 : Int32) (x2 : Int32) (x3 : Int32) (σ : Nat → Nat → Int32) (P : Int32 → (Nat → Nat → Int32) → Prop) : Prop := XA scr 1 mX11_lacks 172 4705 0 [some (.ref 136), some (.int x1), some (.int x2), some (.int x3)] [] (hs σ) (pI P)
set_option maxRecDepth 20000 in
theorem W_X11_lacks_0 {scr : ScA}   {x1 : Int32} {x2 : Int32} {x3 : Int32} {σ : Nat → Nat → Int32} {P : Int32 → (Nat → Nat → Int32) → Prop} (H : (inB x1 4 = true) ∧ (P (if ¬ (σ 167 (Int32.toNatClampNeg x1)) = 0 then if (σ 168 (Int32.toNatClampNeg x1)) = x2 then if (inV x3 0 ((σ 169 (Int32.toNatClampNeg x1)) - 1)) = 0 then 2 else 0 else 3 else 1) σ)) : K_X11_lacks_0 scr x1 x2 x3 σ P := by
  show XA scr 1 mX11_lacks 172 4705 0 [some (.ref 136), some (.int x1), some (.int x2), some (.int x3)] [] (hs σ) (pI P)
  obtain ⟨o1, H⟩ := H
  refine XA.blk (e9 := 6) (ok := inB x1 4 && (true)) (ls' := [some (.ref 136), some (.int x1), some (.int x2), some (.int x3)]) (st' := [.int (σ 167 (Int32.toNatClampNeg x1))]) (h' := hs σ) [(.aload_n 0, 1, 0, 0, 0, 0, 0, 0), (.getfield 100, 3, 11, 48, 32, 941, 0, 0), (.iload_n 1, 1, 1, 0, 0, 0, 0, 0), (.baload, 1, 0, 0, 0, 0, 0, 0)] (by decide +kernel) rfl (by simp only [o1, Bool.and_true, Bool.true_and]) ?_
  have hJ6 : XA scr 1 mX11_lacks 172 4705 48 [none, none, none, none] [.int (if ¬ (σ 167 (Int32.toNatClampNeg x1)) = 0 then if (σ 168 (Int32.toNatClampNeg x1)) = x2 then if (inV x3 0 ((σ 169 (Int32.toNatClampNeg x1)) - 1)) = 0 then 2 else 0 else 3 else 1)] (hs σ) (pI P) := by
    exact XA.ret (some (.int (if ¬ (σ 167 (Int32.toNatClampNeg x1)) = 0 then if (σ 168 (Int32.toNatClampNeg x1)) = x2 then if (inV x3 0 ((σ 169 (Int32.toNatClampNeg x1)) - 1)) = 0 then 2 else 0 else 3 else 1))) rfl (show ckRt mX11_lacks 48 .ireturn = true by decide +kernel) trivial (Nat.le_of_ble_eq_true rfl) (Nat.le_of_ble_eq_true rfl) ⟨_, _, rfl, rfl, H⟩
  refine XA.if_ne (7) 13 (by decide +kernel) (fun c1 => ?_) (fun c1 => ?_)
  · refine XA.blk (e9 := 20) (ok := inB x1 4 && (true)) (ls' := [some (.ref 136), some (.int x1), some (.int x2), some (.int x3)]) (st' := [.int x2, .int (σ 168 (Int32.toNatClampNeg x1))]) (h' := hs σ) [(.aload_n 0, 1, 0, 0, 0, 0, 0, 0), (.getfield 104, 3, 11, 49, 33, 942, 0, 0), (.iload_n 1, 1, 1, 0, 0, 0, 0, 0), (.iaload, 1, 0, 0, 0, 0, 0, 0), (.iload_n 2, 1, 2, 0, 0, 0, 0, 0)] (by decide +kernel) rfl (by simp only [o1, Bool.and_true, Bool.true_and]) ?_
    have hJ20 : XA scr 1 mX11_lacks 172 4705 48 [none, none, none, none] [.int (if (σ 168 (Int32.toNatClampNeg x1)) = x2 then if (inV x3 0 ((σ 169 (Int32.toNatClampNeg x1)) - 1)) = 0 then 2 else 0 else 3)] (hs σ) (pI P) := by
      simpa only [if_pos c1] using hJ6
    refine XA.icmp_eq (7) 27 (by decide +kernel) (fun c2 => ?_) (fun c2 => ?_)
    · refine XA.blk (e9 := 37) (ok := inB x1 4 && (true)) (ls' := [some (.ref 136), some (.int x1), some (.int x2), some (.int x3)]) (st' := [.int ((σ 169 (Int32.toNatClampNeg x1)) - 1), .int 0, .int x3]) (h' := hs σ) [(.iload_n 3, 1, 3, 0, 0, 0, 0, 0), (.iconst 0, 1, 0, 0, 0, 0, 0, 0), (.aload_n 0, 1, 0, 0, 0, 0, 0, 0), (.getfield 107, 3, 11, 50, 34, 943, 0, 0), (.iload_n 1, 1, 1, 0, 0, 0, 0, 0), (.iaload, 1, 0, 0, 0, 0, 0, 0), (.iconst 1, 1, 0, 0, 0, 0, 1, 0), (.isub, 1, 0, 0, 0, 0, 0, 0)] (by decide +kernel) rfl (by simp only [o1, Bool.and_true, Bool.true_and]) ?_
      refine XA.callS (as := [.int x3, .int 0, .int ((σ 169 (Int32.toNatClampNeg x1)) - 1)]) (rest := []) (mc' := 0) (ms' := 0) (idx := 118) (t := 1061) cs_X11_in (by decide +kernel) rfl rfl (Nat.le_of_ble_eq_true rfl) (Nat.le_of_ble_eq_true rfl) (Nat.le_of_ble_eq_true rfl) (Nat.le_of_ble_eq_true rfl) (pu_X11_in scr σ x3 0 ((σ 169 (Int32.toNatClampNeg x1)) - 1)) (fun rv h' hp => ?_)
      obtain ⟨rfl, rfl⟩ := hp
      refine ⟨rfl, rfl, ?_⟩
      show XA scr 1 mX11_lacks 172 4705 40 [some (.ref 136), some (.int x1), some (.int x2), some (.int x3)] [.int (inV x3 0 ((σ 169 (Int32.toNatClampNeg x1)) - 1))] (hs σ) (pI P)
      have hJ40 : XA scr 1 mX11_lacks 172 4705 48 [none, none, none, none] [.int (if (inV x3 0 ((σ 169 (Int32.toNatClampNeg x1)) - 1)) = 0 then 2 else 0)] (hs σ) (pI P) := by
        simpa only [if_pos c2] using hJ20
      refine XA.if_eq (7) 47 (by decide +kernel) (fun c3 => ?_) (fun c3 => ?_)
      · refine XA.blk (e9 := 48) (ok := true) (ls' := [some (.ref 136), some (.int x1), some (.int x2), some (.int x3)]) (st' := [.int 2]) (h' := hs σ) [(.iconst 2, 1, 0, 0, 0, 0, 2, 0)] (by decide +kernel) rfl rfl ?_
        refine XA.drop (ls := [none, none, none, none]) (by simp [leL]) ?_
        simpa only [if_pos c3] using hJ40
      · refine XA.blk (e9 := 48) (ok := true) (ls' := [some (.ref 136), some (.int x1), some (.int x2), some (.int x3)]) (st' := [.int 0]) (h' := hs σ) [(.iconst 0, 1, 0, 0, 0, 0, 0, 0), (.goto 4, 3, 48, 0, 0, 0, 0, 0)] (by decide +kernel) rfl rfl ?_
        refine XA.drop (ls := [none, none, none, none]) (by simp [leL]) ?_
        simpa only [if_neg c3] using hJ40
    · refine XA.blk (e9 := 48) (ok := true) (ls' := [some (.ref 136), some (.int x1), some (.int x2), some (.int x3)]) (st' := [.int 3]) (h' := hs σ) [(.iconst 3, 1, 0, 0, 0, 0, 3, 0), (.goto 24, 3, 48, 0, 0, 0, 0, 0)] (by decide +kernel) rfl rfl ?_
      refine XA.drop (ls := [none, none, none, none]) (by simp [leL]) ?_
      simpa only [if_neg c2] using hJ20
  · refine XA.blk (e9 := 48) (ok := true) (ls' := [some (.ref 136), some (.int x1), some (.int x2), some (.int x3)]) (st' := [.int 1]) (h' := hs σ) [(.iconst 1, 1, 0, 0, 0, 0, 1, 0), (.goto 38, 3, 48, 0, 0, 0, 0, 0)] (by decide +kernel) rfl rfl ?_
    refine XA.drop (ls := [none, none, none, none]) (by simp [leL]) ?_
    simpa only [if_neg (not_not_intro c1)] using hJ6
theorem E_X11_lacks {scr : ScA}  {x1 : Int32} {x2 : Int32} {x3 : Int32} {σ : Nat → Nat → Int32} {P : Int32 → (Nat → Nat → Int32) → Prop} (h : K_X11_lacks_0 scr x1 x2 x3 σ P) : CiA scr 1 mX11_lacks [.ref 136, .int x1, .int x2, .int x3] σ P := CtA.of (by decide) (Nat.le_of_ble_eq_true rfl) (XA.drop (by simp [leL, enL]) h)
def K_X4_item_0 (scr : ScA) (k : Nat) (x1 : Int32) (σ : Nat → Nat → Int32) (P : Int32 → (Nat → Nat → Int32) → Prop) : Prop := XA scr 1 mX4_item 172 4705 0 [some (.ref k), some (.int x1)] [] (hs σ) (pI P)
set_option maxRecDepth 20000 in
theorem W_X4_item_0 {scr : ScA} {k : Nat} (hk : isSe k) {x1 : Int32} {σ : Nat → Nat → Int32} {P : Int32 → (Nat → Nat → Int32) → Prop} (H : (¬ (isW x1 60) = 0 → (inB x1 60 = true)) ∧ (P (if (isW x1 60) = 0 then 0 else σ (k + 1) (Int32.toNatClampNeg x1)) σ)) : K_X4_item_0 scr k x1 σ P := by
  show XA scr 1 mX4_item 172 4705 0 [some (.ref k), some (.int x1)] [] (hs σ) (pI P)
  refine XA.blk (e9 := 3) (ok := true) (ls' := [some (.ref k), some (.int x1)]) (st' := [.int 60, .int x1]) (h' := hs σ) [(.iload_n 1, 1, 1, 0, 0, 0, 0, 0), (.bipush 60, 2, 0, 0, 0, 0, 60, 0)] (by decide +kernel) rfl rfl ?_
  refine XA.callS (as := [.int x1, .int 60]) (rest := []) (mc' := 0) (ms' := 0) (idx := 41) (t := 532) cs_X10_isWithin (by decide +kernel) rfl rfl (Nat.le_of_ble_eq_true rfl) (Nat.le_of_ble_eq_true rfl) (Nat.le_of_ble_eq_true rfl) (Nat.le_of_ble_eq_true rfl) (pu_X10_isWithin scr σ x1 60) (fun rv h' hp => ?_)
  obtain ⟨rfl, rfl⟩ := hp
  refine ⟨rfl, rfl, ?_⟩
  show XA scr 1 mX4_item 172 4705 6 [some (.ref k), some (.int x1)] [.int (isW x1 60)] (hs σ) (pI P)
  obtain ⟨hF6, H⟩ := H
  have hJ6 : XA scr 1 mX4_item 172 4705 19 [none, none] [.int (if (isW x1 60) = 0 then 0 else σ (k + 1) (Int32.toNatClampNeg x1))] (hs σ) (pI P) := by
    exact XA.ret (some (.int (if (isW x1 60) = 0 then 0 else σ (k + 1) (Int32.toNatClampNeg x1)))) rfl (show ckRt mX4_item 19 .ireturn = true by decide +kernel) trivial (Nat.le_of_ble_eq_true rfl) (Nat.le_of_ble_eq_true rfl) ⟨_, _, rfl, rfl, H⟩
  refine XA.if_eq (12) 18 (by decide +kernel) (fun c1 => ?_) (fun c1 => ?_)
  · refine XA.blk (e9 := 19) (ok := true) (ls' := [some (.ref k), some (.int x1)]) (st' := [.int 0]) (h' := hs σ) [(.iconst 0, 1, 0, 0, 0, 0, 0, 0)] (by decide +kernel) rfl rfl ?_
    refine XA.drop (ls := [none, none]) (by simp [leL]) ?_
    simpa only [if_pos c1] using hJ6
  · have H := hF6 c1
    have o1 := H
    refine XA.blk (e9 := 19) (ok := (kO 172 S0 k 4 && kR R0 k 0 (k + 1)) && (kA 172 S0 (k + 1) 1 x1 && (true))) (ls' := [some (.ref k), some (.int x1)]) (st' := [.int (σ (k + 1) (Int32.toNatClampNeg x1))]) (h' := hs σ) [(.aload_n 0, 1, 0, 0, 0, 0, 0, 0), (.getfield 9, 3, 4, 0, 2, 381, 0, 0), (.iload_n 1, 1, 1, 0, 0, 0, 0, 0), (.iaload, 1, 0, 0, 0, 0, 0, 0), (.goto 4, 3, 19, 0, 0, 0, 0, 0)] (by decide +kernel) rfl (by simp only [seO hk, seR0 hk, seA1 hk x1, o1, Bool.and_true, Bool.true_and]) ?_
    refine XA.drop (ls := [none, none]) (by simp [leL]) ?_
    simpa only [if_neg c1] using hJ6
theorem E_X4_item {scr : ScA} {k : Nat} {x1 : Int32} {σ : Nat → Nat → Int32} {P : Int32 → (Nat → Nat → Int32) → Prop} (h : K_X4_item_0 scr k x1 σ P) : CiA scr 1 mX4_item [.ref k, .int x1] σ P := CtA.of (by decide) (Nat.le_of_ble_eq_true rfl) (XA.drop (by simp [leL, enL]) h)
def K_X4_whatFails_0 (scr : ScA) (k : Nat) (x1 : Int32) (x2 : Int32) (σ : Nat → Nat → Int32) (P : Int32 → (Nat → Nat → Int32) → Prop) : Prop := XA scr 1 mX4_whatFails 172 4705 0 [some (.ref k), some (.int x1), some (.int x2)] [] (hs σ) (pI P)
set_option maxRecDepth 20000 in
theorem W_X4_whatFails_0 {scr : ScA} {k : Nat} (hk : isSe k) {x1 : Int32} {x2 : Int32} {σ : Nat → Nat → Int32} {P : Int32 → (Nat → Nat → Int32) → Prop} (H : ((σ k 3) = 0 → (x1 = (σ k 1) → P (if (isW x2 (σ k 2)) = 0 then 2 else 0) σ) ∧ (¬ x1 = (σ k 1) → P 3 σ)) ∧ (¬ (σ k 3) = 0 → P 1 σ)) : K_X4_whatFails_0 scr k x1 x2 σ P := by
  show XA scr 1 mX4_whatFails 172 4705 0 [some (.ref k), some (.int x1), some (.int x2)] [] (hs σ) (pI P)
  refine XA.blk (e9 := 4) (ok := kO 172 S0 k 4 && (true)) (ls' := [some (.ref k), some (.int x1), some (.int x2)]) (st' := [.int (σ k 3)]) (h' := hs σ) [(.aload_n 0, 1, 0, 0, 0, 0, 0, 0), (.getfield 15, 3, 4, 3, 0, 387, 0, 0)] (by decide +kernel) rfl (by simp only [seO hk, Bool.and_true, Bool.true_and]) ?_
  refine XA.if_eq (5) 9 (by decide +kernel) (fun c1 => ?_) (fun c1 => ?_)
  · have H := H.1 c1
    refine XA.blk (e9 := 14) (ok := kO 172 S0 k 4 && (true)) (ls' := [some (.ref k), some (.int x1), some (.int x2)]) (st' := [.int (σ k 1), .int x1]) (h' := hs σ) [(.iload_n 1, 1, 1, 0, 0, 0, 0, 0), (.aload_n 0, 1, 0, 0, 0, 0, 0, 0), (.getfield 25, 3, 4, 1, 0, 383, 0, 0)] (by decide +kernel) rfl (by simp only [seO hk, Bool.and_true, Bool.true_and]) ?_
    refine XA.icmp_eq (5) 19 (by decide +kernel) (fun c2 => ?_) (fun c2 => ?_)
    · have H := H.1 c2
      refine XA.blk (e9 := 24) (ok := kO 172 S0 k 4 && (true)) (ls' := [some (.ref k), some (.int x1), some (.int x2)]) (st' := [.int (σ k 2), .int x2]) (h' := hs σ) [(.iload_n 2, 1, 2, 0, 0, 0, 0, 0), (.aload_n 0, 1, 0, 0, 0, 0, 0, 0), (.getfield 38, 3, 4, 2, 0, 385, 0, 0)] (by decide +kernel) rfl (by simp only [seO hk, Bool.and_true, Bool.true_and]) ?_
      refine XA.callS (as := [.int x2, .int (σ k 2)]) (rest := []) (mc' := 0) (ms' := 0) (idx := 41) (t := 532) cs_X10_isWithin (by decide +kernel) rfl rfl (Nat.le_of_ble_eq_true rfl) (Nat.le_of_ble_eq_true rfl) (Nat.le_of_ble_eq_true rfl) (Nat.le_of_ble_eq_true rfl) (pu_X10_isWithin scr σ x2 (σ k 2)) (fun rv h' hp => ?_)
      obtain ⟨rfl, rfl⟩ := hp
      refine ⟨rfl, rfl, ?_⟩
      show XA scr 1 mX4_whatFails 172 4705 27 [some (.ref k), some (.int x1), some (.int x2)] [.int (isW x2 (σ k 2))] (hs σ) (pI P)
      have hJ27 : XA scr 1 mX4_whatFails 172 4705 35 [none, none, none] [.int (if (isW x2 (σ k 2)) = 0 then 2 else 0)] (hs σ) (pI P) := by
        exact XA.ret (some (.int (if (isW x2 (σ k 2)) = 0 then 2 else 0))) rfl (show ckRt mX4_whatFails 35 .ireturn = true by decide +kernel) trivial (Nat.le_of_ble_eq_true rfl) (Nat.le_of_ble_eq_true rfl) ⟨_, _, rfl, rfl, H⟩
      refine XA.if_eq (7) 34 (by decide +kernel) (fun c3 => ?_) (fun c3 => ?_)
      · refine XA.blk (e9 := 35) (ok := true) (ls' := [some (.ref k), some (.int x1), some (.int x2)]) (st' := [.int 2]) (h' := hs σ) [(.iconst 2, 1, 0, 0, 0, 0, 2, 0)] (by decide +kernel) rfl rfl ?_
        refine XA.drop (ls := [none, none, none]) (by simp [leL]) ?_
        simpa only [if_pos c3] using hJ27
      · refine XA.blk (e9 := 35) (ok := true) (ls' := [some (.ref k), some (.int x1), some (.int x2)]) (st' := [.int 0]) (h' := hs σ) [(.iconst 0, 1, 0, 0, 0, 0, 0, 0), (.goto 4, 3, 35, 0, 0, 0, 0, 0)] (by decide +kernel) rfl rfl ?_
        refine XA.drop (ls := [none, none, none]) (by simp [leL]) ?_
        simpa only [if_neg c3] using hJ27
    · have H := H.2 c2
      refine XA.blk (e9 := 18) (ok := true) (ls' := [some (.ref k), some (.int x1), some (.int x2)]) (st' := [.int 3]) (h' := hs σ) [(.iconst 3, 1, 0, 0, 0, 0, 3, 0)] (by decide +kernel) rfl rfl ?_
      exact XA.ret (some (.int 3)) rfl (show ckRt mX4_whatFails 18 .ireturn = true by decide +kernel) trivial (Nat.le_of_ble_eq_true rfl) (Nat.le_of_ble_eq_true rfl) ⟨_, _, rfl, rfl, H⟩
  · have H := H.2 c1
    refine XA.blk (e9 := 8) (ok := true) (ls' := [some (.ref k), some (.int x1), some (.int x2)]) (st' := [.int 1]) (h' := hs σ) [(.iconst 1, 1, 0, 0, 0, 0, 1, 0)] (by decide +kernel) rfl rfl ?_
    exact XA.ret (some (.int 1)) rfl (show ckRt mX4_whatFails 8 .ireturn = true by decide +kernel) trivial (Nat.le_of_ble_eq_true rfl) (Nat.le_of_ble_eq_true rfl) ⟨_, _, rfl, rfl, H⟩
theorem E_X4_whatFails {scr : ScA} {k : Nat} {x1 : Int32} {x2 : Int32} {σ : Nat → Nat → Int32} {P : Int32 → (Nat → Nat → Int32) → Prop} (h : K_X4_whatFails_0 scr k x1 x2 σ P) : CiA scr 1 mX4_whatFails [.ref k, .int x1, .int x2] σ P := CtA.of (by decide) (Nat.le_of_ble_eq_true rfl) (XA.drop (by simp [leL, enL]) h)
def K_X5_whoIsAt_0 (scr : ScA) (k q : Nat) (x2 : Int32) (x3 : Int32) (σ : Nat → Nat → Int32) (P : Int32 → (Nat → Nat → Int32) → Prop) : Prop := XA scr 1 mX5_whoIsAt 172 4705 0 [some (.ref k), some (.ref q), some (.int x2), some (.int x3)] [] (hs σ) (pI P)
set_option maxRecDepth 20000 in
theorem W_X5_whoIsAt_0 {scr : ScA} {k q : Nat} (hk : isSw k) (hq : isTr q) {x2 : Int32} {x3 : Int32} {σ : Nat → Nat → Int32} {P : Int32 → (Nat → Nat → Int32) → Prop} (H : ((isW x2 24) = 0 → P (-1) σ) ∧ (¬ (isW x2 24) = 0 → ((isW x3 10) = 0 → P (-1) σ) ∧ (¬ (isW x3 10) = 0 → (inB x2 24 = true) ∧ ((¬ (hbV (σ (k + 1) (Int32.toNatClampNeg x2)) x3) = 0 → (inB x3 10 = true) ∧ (P (σ (q + 6) (Int32.toNatClampNeg x3)) σ)) ∧ ((hbV (σ (k + 1) (Int32.toNatClampNeg x2)) x3) = 0 → P (-1) σ))))) : K_X5_whoIsAt_0 scr k q x2 x3 σ P := by
  show XA scr 1 mX5_whoIsAt 172 4705 0 [some (.ref k), some (.ref q), some (.int x2), some (.int x3)] [] (hs σ) (pI P)
  refine XA.blk (e9 := 3) (ok := true) (ls' := [some (.ref k), some (.ref q), some (.int x2), some (.int x3)]) (st' := [.int 24, .int x2]) (h' := hs σ) [(.iload_n 2, 1, 2, 0, 0, 0, 0, 0), (.bipush 24, 2, 0, 0, 0, 0, 24, 0)] (by decide +kernel) rfl rfl ?_
  refine XA.callS (as := [.int x2, .int 24]) (rest := []) (mc' := 0) (ms' := 0) (idx := 129) (t := 590) cs_X10_isWithin (by decide +kernel) rfl rfl (Nat.le_of_ble_eq_true rfl) (Nat.le_of_ble_eq_true rfl) (Nat.le_of_ble_eq_true rfl) (Nat.le_of_ble_eq_true rfl) (pu_X10_isWithin scr σ x2 24) (fun rv h' hp => ?_)
  obtain ⟨rfl, rfl⟩ := hp
  refine ⟨rfl, rfl, ?_⟩
  show XA scr 1 mX5_whoIsAt 172 4705 6 [some (.ref k), some (.ref q), some (.int x2), some (.int x3)] [.int (isW x2 24)] (hs σ) (pI P)
  refine XA.if_eq (25) 31 (by decide +kernel) (fun c1 => ?_) (fun c1 => ?_)
  · have H := H.1 c1
    refine XA.blk (e9 := 32) (ok := true) (ls' := [some (.ref k), some (.ref q), some (.int x2), some (.int x3)]) (st' := [.int (-1)]) (h' := hs σ) [(.iconst (-1), 1, 0, 0, 0, 0, (-1), 0)] (by decide +kernel) rfl rfl ?_
    exact XA.ret (some (.int (-1))) rfl (show ckRt mX5_whoIsAt 32 .ireturn = true by decide +kernel) trivial (Nat.le_of_ble_eq_true rfl) (Nat.le_of_ble_eq_true rfl) ⟨_, _, rfl, rfl, H⟩
  · have H := H.2 c1
    refine XA.blk (e9 := 12) (ok := true) (ls' := [some (.ref k), some (.ref q), some (.int x2), some (.int x3)]) (st' := [.int 10, .int x3]) (h' := hs σ) [(.iload_n 3, 1, 3, 0, 0, 0, 0, 0), (.bipush 10, 2, 0, 0, 0, 0, 10, 0)] (by decide +kernel) rfl rfl ?_
    refine XA.callS (as := [.int x3, .int 10]) (rest := []) (mc' := 0) (ms' := 0) (idx := 129) (t := 590) cs_X10_isWithin (by decide +kernel) rfl rfl (Nat.le_of_ble_eq_true rfl) (Nat.le_of_ble_eq_true rfl) (Nat.le_of_ble_eq_true rfl) (Nat.le_of_ble_eq_true rfl) (pu_X10_isWithin scr σ x3 10) (fun rv h' hp => ?_)
    obtain ⟨rfl, rfl⟩ := hp
    refine ⟨rfl, rfl, ?_⟩
    show XA scr 1 mX5_whoIsAt 172 4705 15 [some (.ref k), some (.ref q), some (.int x2), some (.int x3)] [.int (isW x3 10)] (hs σ) (pI P)
    refine XA.if_eq (16) 31 (by decide +kernel) (fun c2 => ?_) (fun c2 => ?_)
    · have H := H.1 c2
      refine XA.blk (e9 := 32) (ok := true) (ls' := [some (.ref k), some (.ref q), some (.int x2), some (.int x3)]) (st' := [.int (-1)]) (h' := hs σ) [(.iconst (-1), 1, 0, 0, 0, 0, (-1), 0)] (by decide +kernel) rfl rfl ?_
      exact XA.ret (some (.int (-1))) rfl (show ckRt mX5_whoIsAt 32 .ireturn = true by decide +kernel) trivial (Nat.le_of_ble_eq_true rfl) (Nat.le_of_ble_eq_true rfl) ⟨_, _, rfl, rfl, H⟩
    · have H := H.2 c2
      obtain ⟨o1, H⟩ := H
      refine XA.blk (e9 := 25) (ok := (kO 172 S0 k 5 && kR R0 k 0 (k + 1)) && (kA 172 S0 (k + 1) 1 x2 && (true))) (ls' := [some (.ref k), some (.ref q), some (.int x2), some (.int x3)]) (st' := [.int x3, .int (σ (k + 1) (Int32.toNatClampNeg x2))]) (h' := hs σ) [(.aload_n 0, 1, 0, 0, 0, 0, 0, 0), (.getfield 9, 3, 5, 0, 2, 213, 0, 0), (.iload_n 2, 1, 2, 0, 0, 0, 0, 0), (.iaload, 1, 0, 0, 0, 0, 0, 0), (.iload_n 3, 1, 3, 0, 0, 0, 0, 0)] (by decide +kernel) rfl (by simp only [swO hk, swR0 hk, swA1 hk x2, o1, Bool.and_true, Bool.true_and]) ?_
      refine XA.callS (as := [.int (σ (k + 1) (Int32.toNatClampNeg x2)), .int x3]) (rest := []) (mc' := 0) (ms' := 0) (idx := 106) (t := 559) cs_X10_hasBit (by decide +kernel) rfl rfl (Nat.le_of_ble_eq_true rfl) (Nat.le_of_ble_eq_true rfl) (Nat.le_of_ble_eq_true rfl) (Nat.le_of_ble_eq_true rfl) (pu_X10_hasBit scr σ (σ (k + 1) (Int32.toNatClampNeg x2)) x3) (fun rv h' hp => ?_)
      obtain ⟨rfl, rfl⟩ := hp
      refine ⟨rfl, rfl, ?_⟩
      show XA scr 1 mX5_whoIsAt 172 4705 28 [some (.ref k), some (.ref q), some (.int x2), some (.int x3)] [.int (hbV (σ (k + 1) (Int32.toNatClampNeg x2)) x3)] (hs σ) (pI P)
      refine XA.if_ne (5) 33 (by decide +kernel) (fun c3 => ?_) (fun c3 => ?_)
      · have H := H.1 c3
        obtain ⟨o2, H⟩ := H
        refine XA.blk (e9 := 39) (ok := (kO 172 S0 q 8 && kR R0 q 5 (q + 6)) && (kA 172 S0 (q + 6) 1 x3 && (true))) (ls' := [some (.ref k), some (.ref q), some (.int x2), some (.int x3)]) (st' := [.int (σ (q + 6) (Int32.toNatClampNeg x3))]) (h' := hs σ) [(.aload_n 1, 1, 1, 0, 0, 0, 0, 0), (.getfield 135, 3, 8, 5, 7, 138, 0, 0), (.iload_n 3, 1, 3, 0, 0, 0, 0, 0), (.iaload, 1, 0, 0, 0, 0, 0, 0)] (by decide +kernel) rfl (by simp only [trO hq, trR5 hq, trA6 hq x3, o2, Bool.and_true, Bool.true_and]) ?_
        exact XA.ret (some (.int (σ (q + 6) (Int32.toNatClampNeg x3)))) rfl (show ckRt mX5_whoIsAt 39 .ireturn = true by decide +kernel) trivial (Nat.le_of_ble_eq_true rfl) (Nat.le_of_ble_eq_true rfl) ⟨_, _, rfl, rfl, H⟩
      · have H := H.2 c3
        refine XA.blk (e9 := 32) (ok := true) (ls' := [some (.ref k), some (.ref q), some (.int x2), some (.int x3)]) (st' := [.int (-1)]) (h' := hs σ) [(.iconst (-1), 1, 0, 0, 0, 0, (-1), 0)] (by decide +kernel) rfl rfl ?_
        exact XA.ret (some (.int (-1))) rfl (show ckRt mX5_whoIsAt 32 .ireturn = true by decide +kernel) trivial (Nat.le_of_ble_eq_true rfl) (Nat.le_of_ble_eq_true rfl) ⟨_, _, rfl, rfl, H⟩
theorem E_X5_whoIsAt {scr : ScA} {k q : Nat} {x2 : Int32} {x3 : Int32} {σ : Nat → Nat → Int32} {P : Int32 → (Nat → Nat → Int32) → Prop} (h : K_X5_whoIsAt_0 scr k q x2 x3 σ P) : CiA scr 1 mX5_whoIsAt [.ref k, .ref q, .int x2, .int x3] σ P := CtA.of (by decide) (Nat.le_of_ble_eq_true rfl) (XA.drop (by simp [leL, enL]) h)
def K_X5_stateOf_0 (scr : ScA) (k q : Nat) (x2 : Int32) (x3 : Int32) (σ : Nat → Nat → Int32) (P : Int32 → (Nat → Nat → Int32) → Prop) : Prop := XA scr 1 mX5_stateOf 172 4705 0 [some (.ref k), some (.ref q), some (.int x2), some (.int x3)] [] (hs σ) (pI P)
set_option maxRecDepth 20000 in
theorem W_X5_stateOf_0 {scr : ScA} {k q : Nat} (hk : isSw k) (hq : isTr q) {x2 : Int32} {x3 : Int32} {σ : Nat → Nat → Int32} {P : Int32 → (Nat → Nat → Int32) → Prop} (H : (inB x2 10 = true) ∧ (((σ (q + 4) (Int32.toNatClampNeg x2)) ≤ x3 → ((hbV (σ k 6) (σ (q + 5) (Int32.toNatClampNeg x2))) = 0 → P (if (σ (k + 4) (Int32.toNatClampNeg x2)) < x3 then 1 else 3) σ) ∧ (¬ (hbV (σ k 6) (σ (q + 5) (Int32.toNatClampNeg x2))) = 0 → P 2 σ)) ∧ (¬ (σ (q + 4) (Int32.toNatClampNeg x2)) ≤ x3 → P 0 σ))) : K_X5_stateOf_0 scr k q x2 x3 σ P := by
  show XA scr 1 mX5_stateOf 172 4705 0 [some (.ref k), some (.ref q), some (.int x2), some (.int x3)] [] (hs σ) (pI P)
  obtain ⟨o1, H⟩ := H
  refine XA.blk (e9 := 7) (ok := (kO 172 S0 q 8 && kR R0 q 3 (q + 4)) && (kA 172 S0 (q + 4) 1 x2 && (true))) (ls' := [some (.ref k), some (.ref q), some (.int x2), some (.int x3)]) (st' := [.int (σ (q + 4) (Int32.toNatClampNeg x2)), .int x3]) (h' := hs σ) [(.iload_n 3, 1, 3, 0, 0, 0, 0, 0), (.aload_n 1, 1, 1, 0, 0, 0, 0, 0), (.getfield 128, 3, 8, 3, 5, 132, 0, 0), (.iload_n 2, 1, 2, 0, 0, 0, 0, 0), (.iaload, 1, 0, 0, 0, 0, 0, 0)] (by decide +kernel) rfl (by simp only [trO hq, trR3 hq, trA4 hq x2, o1, Bool.and_true, Bool.true_and]) ?_
  refine XA.icmp_ge (5) 12 (by decide +kernel) (fun c1 => ?_) (fun c1 => ?_)
  · have H := H.1 c1
    refine XA.blk (e9 := 22) (ok := kO 172 S0 k 5 && ((kO 172 S0 q 8 && kR R0 q 4 (q + 5)) && (kA 172 S0 (q + 5) 1 x2 && (true)))) (ls' := [some (.ref k), some (.ref q), some (.int x2), some (.int x3)]) (st' := [.int (σ (q + 5) (Int32.toNatClampNeg x2)), .int (σ k 6)]) (h' := hs σ) [(.aload_n 0, 1, 0, 0, 0, 0, 0, 0), (.getfield 65, 3, 5, 6, 0, 223, 0, 0), (.aload_n 1, 1, 1, 0, 0, 0, 0, 0), (.getfield 119, 3, 8, 4, 6, 134, 0, 0), (.iload_n 2, 1, 2, 0, 0, 0, 0, 0), (.iaload, 1, 0, 0, 0, 0, 0, 0)] (by decide +kernel) rfl (by simp only [swO hk, trO hq, trR4 hq, trA5 hq x2, o1, Bool.and_true, Bool.true_and]) ?_
    refine XA.callS (as := [.int (σ k 6), .int (σ (q + 5) (Int32.toNatClampNeg x2))]) (rest := []) (mc' := 0) (ms' := 0) (idx := 106) (t := 559) cs_X10_hasBit (by decide +kernel) rfl rfl (Nat.le_of_ble_eq_true rfl) (Nat.le_of_ble_eq_true rfl) (Nat.le_of_ble_eq_true rfl) (Nat.le_of_ble_eq_true rfl) (pu_X10_hasBit scr σ (σ k 6) (σ (q + 5) (Int32.toNatClampNeg x2))) (fun rv h' hp => ?_)
    obtain ⟨rfl, rfl⟩ := hp
    refine ⟨rfl, rfl, ?_⟩
    show XA scr 1 mX5_stateOf 172 4705 25 [some (.ref k), some (.ref q), some (.int x2), some (.int x3)] [.int (hbV (σ k 6) (σ (q + 5) (Int32.toNatClampNeg x2)))] (hs σ) (pI P)
    refine XA.if_eq (5) 30 (by decide +kernel) (fun c2 => ?_) (fun c2 => ?_)
    · have H := H.1 c2
      refine XA.blk (e9 := 37) (ok := (kO 172 S0 k 5 && kR R0 k 4 (k + 4)) && (kA 172 S0 (k + 4) 1 x2 && (true))) (ls' := [some (.ref k), some (.ref q), some (.int x2), some (.int x3)]) (st' := [.int (σ (k + 4) (Int32.toNatClampNeg x2)), .int x3]) (h' := hs σ) [(.iload_n 3, 1, 3, 0, 0, 0, 0, 0), (.aload_n 0, 1, 0, 0, 0, 0, 0, 0), (.getfield 21, 3, 5, 4, 5, 221, 0, 0), (.iload_n 2, 1, 2, 0, 0, 0, 0, 0), (.iaload, 1, 0, 0, 0, 0, 0, 0)] (by decide +kernel) rfl (by simp only [swO hk, swR4 hk, swA4 hk x2, o1, Bool.and_true, Bool.true_and]) ?_
      have hJ37 : XA scr 1 mX5_stateOf 172 4705 45 [none, none, none, none] [.int (if (σ (k + 4) (Int32.toNatClampNeg x2)) < x3 then 1 else 3)] (hs σ) (pI P) := by
        exact XA.ret (some (.int (if (σ (k + 4) (Int32.toNatClampNeg x2)) < x3 then 1 else 3))) rfl (show ckRt mX5_stateOf 45 .ireturn = true by decide +kernel) trivial (Nat.le_of_ble_eq_true rfl) (Nat.le_of_ble_eq_true rfl) ⟨_, _, rfl, rfl, H⟩
      refine XA.icmp_gt (7) 44 (by decide +kernel) (fun c3 => ?_) (fun c3 => ?_)
      · refine XA.blk (e9 := 45) (ok := true) (ls' := [some (.ref k), some (.ref q), some (.int x2), some (.int x3)]) (st' := [.int 1]) (h' := hs σ) [(.iconst 1, 1, 0, 0, 0, 0, 1, 0)] (by decide +kernel) rfl rfl ?_
        refine XA.drop (ls := [none, none, none, none]) (by simp [leL]) ?_
        simpa only [if_pos c3] using hJ37
      · refine XA.blk (e9 := 45) (ok := true) (ls' := [some (.ref k), some (.ref q), some (.int x2), some (.int x3)]) (st' := [.int 3]) (h' := hs σ) [(.iconst 3, 1, 0, 0, 0, 0, 3, 0), (.goto 4, 3, 45, 0, 0, 0, 0, 0)] (by decide +kernel) rfl rfl ?_
        refine XA.drop (ls := [none, none, none, none]) (by simp [leL]) ?_
        simpa only [if_neg c3] using hJ37
    · have H := H.2 c2
      refine XA.blk (e9 := 29) (ok := true) (ls' := [some (.ref k), some (.ref q), some (.int x2), some (.int x3)]) (st' := [.int 2]) (h' := hs σ) [(.iconst 2, 1, 0, 0, 0, 0, 2, 0)] (by decide +kernel) rfl rfl ?_
      exact XA.ret (some (.int 2)) rfl (show ckRt mX5_stateOf 29 .ireturn = true by decide +kernel) trivial (Nat.le_of_ble_eq_true rfl) (Nat.le_of_ble_eq_true rfl) ⟨_, _, rfl, rfl, H⟩
  · have H := H.2 c1
    refine XA.blk (e9 := 11) (ok := true) (ls' := [some (.ref k), some (.ref q), some (.int x2), some (.int x3)]) (st' := [.int 0]) (h' := hs σ) [(.iconst 0, 1, 0, 0, 0, 0, 0, 0)] (by decide +kernel) rfl rfl ?_
    exact XA.ret (some (.int 0)) rfl (show ckRt mX5_stateOf 11 .ireturn = true by decide +kernel) trivial (Nat.le_of_ble_eq_true rfl) (Nat.le_of_ble_eq_true rfl) ⟨_, _, rfl, rfl, H⟩
theorem E_X5_stateOf {scr : ScA} {k q : Nat} {x2 : Int32} {x3 : Int32} {σ : Nat → Nat → Int32} {P : Int32 → (Nat → Nat → Int32) → Prop} (h : K_X5_stateOf_0 scr k q x2 x3 σ P) : CiA scr 1 mX5_stateOf [.ref k, .ref q, .int x2, .int x3] σ P := CtA.of (by decide) (Nat.le_of_ble_eq_true rfl) (XA.drop (by simp [leL, enL]) h)
def K_X9_shareOf_0 (scr : ScA)  (x0 : Int32) (x1 : Int32) (x2 : Int32) (σ : Nat → Nat → Int32) (P : Int64 → (Nat → Nat → Int32) → Prop) : Prop := XA scr 1 mX9_shareOf 172 4705 0 [some (.int x0), some (.int x1), some (.int x2), none, none, none] [] (hs σ) (pJ P)
def K_X9_shareOf_5 (scr : ScA)  (x0 : Int32) (x1 : Int32) (x2 : Int32) (x3 : Int64) (x5 : Int32) (σ : Nat → Nat → Int32) (P : Int64 → (Nat → Nat → Int32) → Prop) : Prop := XA scr 1 mX9_shareOf 172 4705 5 [some (.int x0), some (.int x1), some (.int x2), some (.long x3), none, some (.int x5)] [] (hs σ) (pJ P)
set_option maxRecDepth 20000 in
theorem W_X9_shareOf_0 {scr : ScA}   {x0 : Int32} {x1 : Int32} {x2 : Int32} {σ : Nat → Nat → Int32} {P : Int64 → (Nat → Nat → Int32) → Prop} (H : K_X9_shareOf_5 scr x0 x1 x2 1 0 σ P) : K_X9_shareOf_0 scr x0 x1 x2 σ P := by
  show XA scr 1 mX9_shareOf 172 4705 0 [some (.int x0), some (.int x1), some (.int x2), none, none, none] [] (hs σ) (pJ P)
  refine XA.blk (e9 := 5) (ok := true) (ls' := [some (.int x0), some (.int x1), some (.int x2), some (.long 1), none, some (.int 0)]) (st' := []) (h' := hs σ) [(.lconst 1, 1, 0, 0, 0, 0, 0, 1), (.lstore_n 3, 1, 3, 0, 0, 0, 0, 0), (.iconst 0, 1, 0, 0, 0, 0, 0, 0), (.istore 5, 2, 5, 0, 0, 0, 0, 0)] (by decide +kernel) rfl rfl ?_
  exact H
set_option maxRecDepth 20000 in
theorem W_X9_shareOf_5 {scr : ScA}   {x0 : Int32} {x1 : Int32} {x2 : Int32} {x3 : Int64} {x5 : Int32} {σ : Nat → Nat → Int32} {P : Int64 → (Nat → Nat → Int32) → Prop} (H : (x1 ≤ x5 → P x3 σ) ∧ (¬ x1 ≤ x5 → K_X9_shareOf_5 scr x0 x1 x2 (x3 * (if (hbV x0 x5) = 0 then Int32.toInt64 (16 - x2) else Int32.toInt64 x2)) (x5 + 1) σ P)) : K_X9_shareOf_5 scr x0 x1 x2 x3 x5 σ P := by
  show XA scr 1 mX9_shareOf 172 4705 5 [some (.int x0), some (.int x1), some (.int x2), some (.long x3), none, some (.int x5)] [] (hs σ) (pJ P)
  refine XA.blk (e9 := 8) (ok := true) (ls' := [some (.int x0), some (.int x1), some (.int x2), some (.long x3), none, some (.int x5)]) (st' := [.int x1, .int x5]) (h' := hs σ) [(.iload 5, 2, 5, 0, 0, 0, 0, 0), (.iload_n 1, 1, 1, 0, 0, 0, 0, 0)] (by decide +kernel) rfl rfl ?_
  refine XA.icmp_ge (31) 39 (by decide +kernel) (fun c1 => ?_) (fun c1 => ?_)
  · have H := H.1 c1
    refine XA.blk (e9 := 40) (ok := true) (ls' := [some (.int x0), some (.int x1), some (.int x2), some (.long x3), none, some (.int x5)]) (st' := [.long x3]) (h' := hs σ) [(.lload_n 3, 1, 3, 0, 0, 0, 0, 0)] (by decide +kernel) rfl rfl ?_
    exact XA.ret (some (.long x3)) rfl (show ckRt mX9_shareOf 40 .lreturn = true by decide +kernel) trivial (Nat.le_of_ble_eq_true rfl) (Nat.le_of_ble_eq_true rfl) ⟨_, _, rfl, rfl, H⟩
  · have H := H.2 c1
    refine XA.blk (e9 := 15) (ok := true) (ls' := [some (.int x0), some (.int x1), some (.int x2), some (.long x3), none, some (.int x5)]) (st' := [.int x5, .int x0, .long x3]) (h' := hs σ) [(.lload_n 3, 1, 3, 0, 0, 0, 0, 0), (.iload_n 0, 1, 0, 0, 0, 0, 0, 0), (.iload 5, 2, 5, 0, 0, 0, 0, 0)] (by decide +kernel) rfl rfl ?_
    refine XA.callS (as := [.int x0, .int x5]) (rest := [.long x3]) (mc' := 0) (ms' := 0) (idx := 76) (t := 787) cs_X10_hasBit (by decide +kernel) rfl rfl (Nat.le_of_ble_eq_true rfl) (Nat.le_of_ble_eq_true rfl) (Nat.le_of_ble_eq_true rfl) (Nat.le_of_ble_eq_true rfl) (pu_X10_hasBit scr σ x0 x5) (fun rv h' hp => ?_)
    obtain ⟨rfl, rfl⟩ := hp
    refine ⟨rfl, rfl, ?_⟩
    show XA scr 1 mX9_shareOf 172 4705 18 [some (.int x0), some (.int x1), some (.int x2), some (.long x3), none, some (.int x5)] [.int (hbV x0 x5), .long x3] (hs σ) (pJ P)
    have hJ18 : XA scr 1 mX9_shareOf 172 4705 31 [some (.int x0), some (.int x1), some (.int x2), none, none, some (.int x5)] [.long (if (hbV x0 x5) = 0 then Int32.toInt64 (16 - x2) else Int32.toInt64 x2), .long x3] (hs σ) (pJ P) := by
      refine XA.blk (e9 := 5) (ok := true) (ls' := [some (.int x0), some (.int x1), some (.int x2), some (.long (x3 * (if (hbV x0 x5) = 0 then Int32.toInt64 (16 - x2) else Int32.toInt64 x2))), none, some (.int (x5 + 1))]) (st' := []) (h' := hs σ) [(.lmul, 1, 0, 0, 0, 0, 0, 0), (.lstore_n 3, 1, 3, 0, 0, 0, 0, 0), (.iinc 5 1, 3, 5, 0, 0, 0, 1, 0), (.goto (-31), 3, 5, 0, 0, 0, 0, 0)] (by decide +kernel) rfl rfl ?_
      exact H
    refine XA.if_eq (8) 26 (by decide +kernel) (fun c2 => ?_) (fun c2 => ?_)
    · refine XA.blk (e9 := 31) (ok := true) (ls' := [some (.int x0), some (.int x1), some (.int x2), some (.long x3), none, some (.int x5)]) (st' := [.long (Int32.toInt64 (16 - x2)), .long x3]) (h' := hs σ) [(.bipush 16, 2, 0, 0, 0, 0, 16, 0), (.iload_n 2, 1, 2, 0, 0, 0, 0, 0), (.isub, 1, 0, 0, 0, 0, 0, 0), (.i2l, 1, 0, 0, 0, 0, 0, 0)] (by decide +kernel) rfl rfl ?_
      refine XA.drop (ls := [some (.int x0), some (.int x1), some (.int x2), none, none, some (.int x5)]) (by simp [leL]) ?_
      simpa only [if_pos c2] using hJ18
    · refine XA.blk (e9 := 31) (ok := true) (ls' := [some (.int x0), some (.int x1), some (.int x2), some (.long x3), none, some (.int x5)]) (st' := [.long (Int32.toInt64 x2), .long x3]) (h' := hs σ) [(.iload_n 2, 1, 2, 0, 0, 0, 0, 0), (.i2l, 1, 0, 0, 0, 0, 0, 0), (.goto 8, 3, 31, 0, 0, 0, 0, 0)] (by decide +kernel) rfl rfl ?_
      refine XA.drop (ls := [some (.int x0), some (.int x1), some (.int x2), none, none, some (.int x5)]) (by simp [leL]) ?_
      simpa only [if_neg c2] using hJ18
theorem E_X9_shareOf {scr : ScA}  {x0 : Int32} {x1 : Int32} {x2 : Int32} {σ : Nat → Nat → Int32} {P : Int64 → (Nat → Nat → Int32) → Prop} (h : K_X9_shareOf_0 scr x0 x1 x2 σ P) : ClA scr 1 mX9_shareOf [.int x0, .int x1, .int x2] σ P := CtA.of (by decide) (Nat.le_of_ble_eq_true rfl) (XA.drop (by simp [leL, enL]) h)
end
