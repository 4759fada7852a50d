section
-- ===== PART A: goes FIRST, ahead of the names: the tables' words, and 'selects' of the private methods out of them =====
/-- a private method of a class that the tables say can be made, by its rows of tables_1 -/
def lw_okq (q : MethodName × Nat) : Prop := (q.1.cls ≠ "java/lang/invoke/MethodHandle" ∧ q.1.cls ≠ "java/lang/invoke/VarHandle") ∧ Cond.instantiable q.1.cls q.2 ∈ tables_1 ∧ Cond.privateMethod q.1 ∈ tables_1 ∧ Cond.instanceMethod q.1 ∈ tables_1
theorem lw_p0 : lw_okq (⟨"LeftStates", "forgetFound", "()V"⟩, 11) := ⟨⟨by decide +kernel, by decide +kernel⟩, List.mem_of_getElem? (i := 18) (by decide +kernel), List.mem_of_getElem? (i := 329) (by decide +kernel), List.mem_of_getElem? (i := 330) (by decide +kernel)⟩
theorem lw_p1 : lw_okq (⟨"LeftStates", "addAct", "(IIIII)I"⟩, 11) := ⟨⟨by decide +kernel, by decide +kernel⟩, List.mem_of_getElem? (i := 18) (by decide +kernel), List.mem_of_getElem? (i := 345) (by decide +kernel), List.mem_of_getElem? (i := 346) (by decide +kernel)⟩
theorem lw_p2 : lw_okq (⟨"LeftStates$Reader", "begin", "(Z)V"⟩, 9) := ⟨⟨by decide +kernel, by decide +kernel⟩, List.mem_of_getElem? (i := 190) (by decide +kernel), List.mem_of_getElem? (i := 453) (by decide +kernel), List.mem_of_getElem? (i := 454) (by decide +kernel)⟩
theorem lw_p3 : lw_okq (⟨"LeftStates$Reader", "takes", "(C)Z"⟩, 9) := ⟨⟨by decide +kernel, by decide +kernel⟩, List.mem_of_getElem? (i := 190) (by decide +kernel), List.mem_of_getElem? (i := 461) (by decide +kernel), List.mem_of_getElem? (i := 462) (by decide +kernel)⟩
theorem lw_p4 : lw_okq (⟨"LeftStates$Reader", "endsComparison", "(C)Z"⟩, 9) := ⟨⟨by decide +kernel, by decide +kernel⟩, List.mem_of_getElem? (i := 190) (by decide +kernel), List.mem_of_getElem? (i := 465) (by decide +kernel), List.mem_of_getElem? (i := 466) (by decide +kernel)⟩
theorem lw_p5 : lw_okq (⟨"LeftStates$Reader", "closeComparison", "()V"⟩, 9) := ⟨⟨by decide +kernel, by decide +kernel⟩, List.mem_of_getElem? (i := 190) (by decide +kernel), List.mem_of_getElem? (i := 472) (by decide +kernel), List.mem_of_getElem? (i := 473) (by decide +kernel)⟩
theorem lw_p6 : lw_okq (⟨"LeftStates$Reader", "closeFactor", "()V"⟩, 9) := ⟨⟨by decide +kernel, by decide +kernel⟩, List.mem_of_getElem? (i := 190) (by decide +kernel), List.mem_of_getElem? (i := 480) (by decide +kernel), List.mem_of_getElem? (i := 481) (by decide +kernel)⟩
theorem lw_p7 : lw_okq (⟨"LeftStates$Reader", "takesFactor", "(C)Z"⟩, 9) := ⟨⟨by decide +kernel, by decide +kernel⟩, List.mem_of_getElem? (i := 190) (by decide +kernel), List.mem_of_getElem? (i := 484) (by decide +kernel), List.mem_of_getElem? (i := 485) (by decide +kernel)⟩
theorem lw_p8 : lw_okq (⟨"LeftStates$Reader", "keep", "(C)V"⟩, 9) := ⟨⟨by decide +kernel, by decide +kernel⟩, List.mem_of_getElem? (i := 190) (by decide +kernel), List.mem_of_getElem? (i := 488) (by decide +kernel), List.mem_of_getElem? (i := 489) (by decide +kernel)⟩
theorem lw_p9 : lw_okq (⟨"LeftStates$Reader", "takesUnit", "(C)Z"⟩, 9) := ⟨⟨by decide +kernel, by decide +kernel⟩, List.mem_of_getElem? (i := 190) (by decide +kernel), List.mem_of_getElem? (i := 492) (by decide +kernel), List.mem_of_getElem? (i := 493) (by decide +kernel)⟩
theorem lw_p10 : lw_okq (⟨"LeftStates$Reader", "takesSecondDigit", "(C)Z"⟩, 9) := ⟨⟨by decide +kernel, by decide +kernel⟩, List.mem_of_getElem? (i := 190) (by decide +kernel), List.mem_of_getElem? (i := 499) (by decide +kernel), List.mem_of_getElem? (i := 500) (by decide +kernel)⟩
theorem lw_p11 : lw_okq (⟨"LeftStates$Reader", "takesBehindUnit", "(C)Z"⟩, 9) := ⟨⟨by decide +kernel, by decide +kernel⟩, List.mem_of_getElem? (i := 190) (by decide +kernel), List.mem_of_getElem? (i := 507) (by decide +kernel), List.mem_of_getElem? (i := 508) (by decide +kernel)⟩
theorem lw_p12 : lw_okq (⟨"LeftStates$Reader", "takesBehindFactor", "(C)Z"⟩, 9) := ⟨⟨by decide +kernel, by decide +kernel⟩, List.mem_of_getElem? (i := 190) (by decide +kernel), List.mem_of_getElem? (i := 511) (by decide +kernel), List.mem_of_getElem? (i := 512) (by decide +kernel)⟩
theorem lw_p13 : lw_okq (⟨"LeftStates$Reader", "release", "(CI)V"⟩, 9) := ⟨⟨by decide +kernel, by decide +kernel⟩, List.mem_of_getElem? (i := 190) (by decide +kernel), List.mem_of_getElem? (i := 515) (by decide +kernel), List.mem_of_getElem? (i := 516) (by decide +kernel)⟩
theorem lw_p14 : lw_okq (⟨"LeftStates$Reader", "closeTerms", "()V"⟩, 9) := ⟨⟨by decide +kernel, by decide +kernel⟩, List.mem_of_getElem? (i := 190) (by decide +kernel), List.mem_of_getElem? (i := 519) (by decide +kernel), List.mem_of_getElem? (i := 520) (by decide +kernel)⟩
theorem lw_p15 : lw_okq (⟨"LeftStates$Reader", "takesTarget", "(C)Z"⟩, 9) := ⟨⟨by decide +kernel, by decide +kernel⟩, List.mem_of_getElem? (i := 190) (by decide +kernel), List.mem_of_getElem? (i := 530) (by decide +kernel), List.mem_of_getElem? (i := 531) (by decide +kernel)⟩
def lw_privs_1 : List (MethodName × Nat) := [(⟨"LeftStates", "forgetFound", "()V"⟩, 11), (⟨"LeftStates", "addAct", "(IIIII)I"⟩, 11), (⟨"LeftStates$Reader", "begin", "(Z)V"⟩, 9), (⟨"LeftStates$Reader", "takes", "(C)Z"⟩, 9), (⟨"LeftStates$Reader", "endsComparison", "(C)Z"⟩, 9), (⟨"LeftStates$Reader", "closeComparison", "()V"⟩, 9), (⟨"LeftStates$Reader", "closeFactor", "()V"⟩, 9), (⟨"LeftStates$Reader", "takesFactor", "(C)Z"⟩, 9), (⟨"LeftStates$Reader", "keep", "(C)V"⟩, 9), (⟨"LeftStates$Reader", "takesUnit", "(C)Z"⟩, 9), (⟨"LeftStates$Reader", "takesSecondDigit", "(C)Z"⟩, 9), (⟨"LeftStates$Reader", "takesBehindUnit", "(C)Z"⟩, 9), (⟨"LeftStates$Reader", "takesBehindFactor", "(C)Z"⟩, 9), (⟨"LeftStates$Reader", "release", "(CI)V"⟩, 9), (⟨"LeftStates$Reader", "closeTerms", "()V"⟩, 9), (⟨"LeftStates$Reader", "takesTarget", "(C)Z"⟩, 9)]
theorem lw_r1 : ∀ q ∈ lw_privs_1, lw_okq q := List.forall_mem_cons.mpr ⟨lw_p0, List.forall_mem_cons.mpr ⟨lw_p1, List.forall_mem_cons.mpr ⟨lw_p2, List.forall_mem_cons.mpr ⟨lw_p3, List.forall_mem_cons.mpr ⟨lw_p4, List.forall_mem_cons.mpr ⟨lw_p5, List.forall_mem_cons.mpr ⟨lw_p6, List.forall_mem_cons.mpr ⟨lw_p7, List.forall_mem_cons.mpr ⟨lw_p8, List.forall_mem_cons.mpr ⟨lw_p9, List.forall_mem_cons.mpr ⟨lw_p10, List.forall_mem_cons.mpr ⟨lw_p11, List.forall_mem_cons.mpr ⟨lw_p12, List.forall_mem_cons.mpr ⟨lw_p13, List.forall_mem_cons.mpr ⟨lw_p14, List.forall_mem_cons.mpr ⟨lw_p15, fun _ h => absurd h List.not_mem_nil⟩⟩⟩⟩⟩⟩⟩⟩⟩⟩⟩⟩⟩⟩⟩⟩
theorem lw_p16 : lw_okq (⟨"LeftStates$Reader", "takesEquals", "(C)Z"⟩, 9) := ⟨⟨by decide +kernel, by decide +kernel⟩, List.mem_of_getElem? (i := 190) (by decide +kernel), List.mem_of_getElem? (i := 534) (by decide +kernel), List.mem_of_getElem? (i := 535) (by decide +kernel)⟩
theorem lw_p17 : lw_okq (⟨"LeftStates$Found", "gather", "(LLeftStates$Program;I)V"⟩, 4) := ⟨⟨by decide +kernel, by decide +kernel⟩, List.mem_of_getElem? (i := 227) (by decide +kernel), List.mem_of_getElem? (i := 600) (by decide +kernel), List.mem_of_getElem? (i := 601) (by decide +kernel)⟩
theorem lw_p18 : lw_okq (⟨"LeftStates$Found", "addReaching", "(LLeftStates$Act;II)V"⟩, 4) := ⟨⟨by decide +kernel, by decide +kernel⟩, List.mem_of_getElem? (i := 227) (by decide +kernel), List.mem_of_getElem? (i := 611) (by decide +kernel), List.mem_of_getElem? (i := 612) (by decide +kernel)⟩
theorem lw_p19 : lw_okq (⟨"LeftStates$Found", "sort", "()V"⟩, 4) := ⟨⟨by decide +kernel, by decide +kernel⟩, List.mem_of_getElem? (i := 227) (by decide +kernel), List.mem_of_getElem? (i := 616) (by decide +kernel), List.mem_of_getElem? (i := 617) (by decide +kernel)⟩
theorem lw_p20 : lw_okq (⟨"LeftStates$Found", "sink", "(II)V"⟩, 4) := ⟨⟨by decide +kernel, by decide +kernel⟩, List.mem_of_getElem? (i := 227) (by decide +kernel), List.mem_of_getElem? (i := 620) (by decide +kernel), List.mem_of_getElem? (i := 621) (by decide +kernel)⟩
theorem lw_p21 : lw_okq (⟨"LeftStates$Found", "dropLike", "()V"⟩, 4) := ⟨⟨by decide +kernel, by decide +kernel⟩, List.mem_of_getElem? (i := 227) (by decide +kernel), List.mem_of_getElem? (i := 624) (by decide +kernel), List.mem_of_getElem? (i := 625) (by decide +kernel)⟩
theorem lw_p22 : lw_okq (⟨"LeftStates", "leastBroken", "(I)I"⟩, 11) := ⟨⟨by decide +kernel, by decide +kernel⟩, List.mem_of_getElem? (i := 18) (by decide +kernel), List.mem_of_getElem? (i := 734) (by decide +kernel), List.mem_of_getElem? (i := 735) (by decide +kernel)⟩
theorem lw_p23 : lw_okq (⟨"LeftStates$Placing", "putOf", "(I)I"⟩, 6) := ⟨⟨by decide +kernel, by decide +kernel⟩, List.mem_of_getElem? (i := 250) (by decide +kernel), List.mem_of_getElem? (i := 763) (by decide +kernel), List.mem_of_getElem? (i := 764) (by decide +kernel)⟩
theorem lw_p24 : lw_okq (⟨"LeftStates$Placing", "isBetter", "(II)Z"⟩, 6) := ⟨⟨by decide +kernel, by decide +kernel⟩, List.mem_of_getElem? (i := 250) (by decide +kernel), List.mem_of_getElem? (i := 767) (by decide +kernel), List.mem_of_getElem? (i := 768) (by decide +kernel)⟩
theorem lw_p25 : lw_okq (⟨"LeftStates$Placing", "isSafe", "(LLeftStates$Program;I)Z"⟩, 6) := ⟨⟨by decide +kernel, by decide +kernel⟩, List.mem_of_getElem? (i := 250) (by decide +kernel), List.mem_of_getElem? (i := 771) (by decide +kernel), List.mem_of_getElem? (i := 772) (by decide +kernel)⟩
theorem lw_p26 : lw_okq (⟨"LeftStates$Placing", "goOn", "()V"⟩, 6) := ⟨⟨by decide +kernel, by decide +kernel⟩, List.mem_of_getElem? (i := 250) (by decide +kernel), List.mem_of_getElem? (i := 777) (by decide +kernel), List.mem_of_getElem? (i := 778) (by decide +kernel)⟩
theorem lw_p27 : lw_okq (⟨"LeftStates", "digestProgram", "(J)J"⟩, 11) := ⟨⟨by decide +kernel, by decide +kernel⟩, List.mem_of_getElem? (i := 18) (by decide +kernel), List.mem_of_getElem? (i := 828) (by decide +kernel), List.mem_of_getElem? (i := 829) (by decide +kernel)⟩
theorem lw_p28 : lw_okq (⟨"LeftStatesModel", "come", "(IIIII)I"⟩, 44) := ⟨⟨by decide +kernel, by decide +kernel⟩, List.mem_of_getElem? (i := 833) (by decide +kernel), List.mem_of_getElem? (i := 991) (by decide +kernel), List.mem_of_getElem? (i := 992) (by decide +kernel)⟩
theorem lw_p29 : lw_okq (⟨"LeftStatesModel", "writesAhead", "(I)I"⟩, 44) := ⟨⟨by decide +kernel, by decide +kernel⟩, List.mem_of_getElem? (i := 833) (by decide +kernel), List.mem_of_getElem? (i := 1027) (by decide +kernel), List.mem_of_getElem? (i := 1028) (by decide +kernel)⟩
theorem lw_p30 : lw_okq (⟨"LeftStatesModel", "isWrite", "(I)Z"⟩, 44) := ⟨⟨by decide +kernel, by decide +kernel⟩, List.mem_of_getElem? (i := 833) (by decide +kernel), List.mem_of_getElem? (i := 1031) (by decide +kernel), List.mem_of_getElem? (i := 1032) (by decide +kernel)⟩
theorem lw_p31 : lw_okq (⟨"LeftStatesModel", "plateOf", "(I)J"⟩, 44) := ⟨⟨by decide +kernel, by decide +kernel⟩, List.mem_of_getElem? (i := 833) (by decide +kernel), List.mem_of_getElem? (i := 1035) (by decide +kernel), List.mem_of_getElem? (i := 1036) (by decide +kernel)⟩
def lw_privs_2 : List (MethodName × Nat) := [(⟨"LeftStates$Reader", "takesEquals", "(C)Z"⟩, 9), (⟨"LeftStates$Found", "gather", "(LLeftStates$Program;I)V"⟩, 4), (⟨"LeftStates$Found", "addReaching", "(LLeftStates$Act;II)V"⟩, 4), (⟨"LeftStates$Found", "sort", "()V"⟩, 4), (⟨"LeftStates$Found", "sink", "(II)V"⟩, 4), (⟨"LeftStates$Found", "dropLike", "()V"⟩, 4), (⟨"LeftStates", "leastBroken", "(I)I"⟩, 11), (⟨"LeftStates$Placing", "putOf", "(I)I"⟩, 6), (⟨"LeftStates$Placing", "isBetter", "(II)Z"⟩, 6), (⟨"LeftStates$Placing", "isSafe", "(LLeftStates$Program;I)Z"⟩, 6), (⟨"LeftStates$Placing", "goOn", "()V"⟩, 6), (⟨"LeftStates", "digestProgram", "(J)J"⟩, 11), (⟨"LeftStatesModel", "come", "(IIIII)I"⟩, 44), (⟨"LeftStatesModel", "writesAhead", "(I)I"⟩, 44), (⟨"LeftStatesModel", "isWrite", "(I)Z"⟩, 44), (⟨"LeftStatesModel", "plateOf", "(I)J"⟩, 44)]
theorem lw_r2 : ∀ q ∈ lw_privs_2, lw_okq q := List.forall_mem_cons.mpr ⟨lw_p16, List.forall_mem_cons.mpr ⟨lw_p17, List.forall_mem_cons.mpr ⟨lw_p18, List.forall_mem_cons.mpr ⟨lw_p19, List.forall_mem_cons.mpr ⟨lw_p20, List.forall_mem_cons.mpr ⟨lw_p21, List.forall_mem_cons.mpr ⟨lw_p22, List.forall_mem_cons.mpr ⟨lw_p23, List.forall_mem_cons.mpr ⟨lw_p24, List.forall_mem_cons.mpr ⟨lw_p25, List.forall_mem_cons.mpr ⟨lw_p26, List.forall_mem_cons.mpr ⟨lw_p27, List.forall_mem_cons.mpr ⟨lw_p28, List.forall_mem_cons.mpr ⟨lw_p29, List.forall_mem_cons.mpr ⟨lw_p30, List.forall_mem_cons.mpr ⟨lw_p31, fun _ h => absurd h List.not_mem_nil⟩⟩⟩⟩⟩⟩⟩⟩⟩⟩⟩⟩⟩⟩⟩⟩
theorem lw_p32 : lw_okq (⟨"LeftStatesModel", "told", "()J"⟩, 44) := ⟨⟨by decide +kernel, by decide +kernel⟩, List.mem_of_getElem? (i := 833) (by decide +kernel), List.mem_of_getElem? (i := 1039) (by decide +kernel), List.mem_of_getElem? (i := 1040) (by decide +kernel)⟩
theorem lw_p33 : lw_okq (⟨"LeftStatesModel", "readText", "(I)V"⟩, 44) := ⟨⟨by decide +kernel, by decide +kernel⟩, List.mem_of_getElem? (i := 833) (by decide +kernel), List.mem_of_getElem? (i := 1057) (by decide +kernel), List.mem_of_getElem? (i := 1058) (by decide +kernel)⟩
theorem lw_p34 : lw_okq (⟨"LeftStatesModel", "next", "(IIII)I"⟩, 44) := ⟨⟨by decide +kernel, by decide +kernel⟩, List.mem_of_getElem? (i := 833) (by decide +kernel), List.mem_of_getElem? (i := 1061) (by decide +kernel), List.mem_of_getElem? (i := 1062) (by decide +kernel)⟩
theorem lw_p35 : lw_okq (⟨"LeftStatesModel", "lay", "(J)V"⟩, 44) := ⟨⟨by decide +kernel, by decide +kernel⟩, List.mem_of_getElem? (i := 833) (by decide +kernel), List.mem_of_getElem? (i := 1098) (by decide +kernel), List.mem_of_getElem? (i := 1099) (by decide +kernel)⟩
theorem lw_p36 : lw_okq (⟨"LeftStatesModel", "holdsNow", "(I)Z"⟩, 44) := ⟨⟨by decide +kernel, by decide +kernel⟩, List.mem_of_getElem? (i := 833) (by decide +kernel), List.mem_of_getElem? (i := 1102) (by decide +kernel), List.mem_of_getElem? (i := 1103) (by decide +kernel)⟩
theorem lw_p37 : lw_okq (⟨"LeftStatesModel", "holdsHere", "()Z"⟩, 44) := ⟨⟨by decide +kernel, by decide +kernel⟩, List.mem_of_getElem? (i := 833) (by decide +kernel), List.mem_of_getElem? (i := 1106) (by decide +kernel), List.mem_of_getElem? (i := 1107) (by decide +kernel)⟩
theorem lw_p38 : lw_okq (⟨"LeftStatesModel", "openGroup", "()V"⟩, 44) := ⟨⟨by decide +kernel, by decide +kernel⟩, List.mem_of_getElem? (i := 833) (by decide +kernel), List.mem_of_getElem? (i := 1110) (by decide +kernel), List.mem_of_getElem? (i := 1111) (by decide +kernel)⟩
theorem lw_p39 : lw_okq (⟨"LeftStatesModel", "sign", "()I"⟩, 44) := ⟨⟨by decide +kernel, by decide +kernel⟩, List.mem_of_getElem? (i := 833) (by decide +kernel), List.mem_of_getElem? (i := 1114) (by decide +kernel), List.mem_of_getElem? (i := 1115) (by decide +kernel)⟩
theorem lw_p40 : lw_okq (⟨"LeftStatesModel", "factor", "(Z)V"⟩, 44) := ⟨⟨by decide +kernel, by decide +kernel⟩, List.mem_of_getElem? (i := 833) (by decide +kernel), List.mem_of_getElem? (i := 1118) (by decide +kernel), List.mem_of_getElem? (i := 1119) (by decide +kernel)⟩
theorem lw_p41 : lw_okq (⟨"LeftStatesModel", "sumHere", "()I"⟩, 44) := ⟨⟨by decide +kernel, by decide +kernel⟩, List.mem_of_getElem? (i := 833) (by decide +kernel), List.mem_of_getElem? (i := 1122) (by decide +kernel), List.mem_of_getElem? (i := 1123) (by decide +kernel)⟩
theorem lw_p42 : lw_okq (⟨"LeftStatesModel", "healed", "(J)J"⟩, 44) := ⟨⟨by decide +kernel, by decide +kernel⟩, List.mem_of_getElem? (i := 833) (by decide +kernel), List.mem_of_getElem? (i := 1130) (by decide +kernel), List.mem_of_getElem? (i := 1131) (by decide +kernel)⟩
theorem lw_p43 : lw_okq (⟨"LeftStatesModel", "stepNow", "(I)V"⟩, 44) := ⟨⟨by decide +kernel, by decide +kernel⟩, List.mem_of_getElem? (i := 833) (by decide +kernel), List.mem_of_getElem? (i := 1134) (by decide +kernel), List.mem_of_getElem? (i := 1135) (by decide +kernel)⟩
theorem lw_p44 : lw_okq (⟨"LeftStatesModel", "cutAt", "(JI)J"⟩, 44) := ⟨⟨by decide +kernel, by decide +kernel⟩, List.mem_of_getElem? (i := 833) (by decide +kernel), List.mem_of_getElem? (i := 1143) (by decide +kernel), List.mem_of_getElem? (i := 1144) (by decide +kernel)⟩
theorem lw_p45 : lw_okq (⟨"LeftStatesModel", "isSteady", "(J)Z"⟩, 44) := ⟨⟨by decide +kernel, by decide +kernel⟩, List.mem_of_getElem? (i := 833) (by decide +kernel), List.mem_of_getElem? (i := 1152) (by decide +kernel), List.mem_of_getElem? (i := 1153) (by decide +kernel)⟩
theorem lw_p46 : lw_okq (⟨"LeftStatesModel", "findPlates", "(I)V"⟩, 44) := ⟨⟨by decide +kernel, by decide +kernel⟩, List.mem_of_getElem? (i := 833) (by decide +kernel), List.mem_of_getElem? (i := 1160) (by decide +kernel), List.mem_of_getElem? (i := 1161) (by decide +kernel)⟩
theorem lw_p47 : lw_okq (⟨"LeftStatesModel", "layAll", "()V"⟩, 44) := ⟨⟨by decide +kernel, by decide +kernel⟩, List.mem_of_getElem? (i := 833) (by decide +kernel), List.mem_of_getElem? (i := 1164) (by decide +kernel), List.mem_of_getElem? (i := 1165) (by decide +kernel)⟩
def lw_privs_3 : List (MethodName × Nat) := [(⟨"LeftStatesModel", "told", "()J"⟩, 44), (⟨"LeftStatesModel", "readText", "(I)V"⟩, 44), (⟨"LeftStatesModel", "next", "(IIII)I"⟩, 44), (⟨"LeftStatesModel", "lay", "(J)V"⟩, 44), (⟨"LeftStatesModel", "holdsNow", "(I)Z"⟩, 44), (⟨"LeftStatesModel", "holdsHere", "()Z"⟩, 44), (⟨"LeftStatesModel", "openGroup", "()V"⟩, 44), (⟨"LeftStatesModel", "sign", "()I"⟩, 44), (⟨"LeftStatesModel", "factor", "(Z)V"⟩, 44), (⟨"LeftStatesModel", "sumHere", "()I"⟩, 44), (⟨"LeftStatesModel", "healed", "(J)J"⟩, 44), (⟨"LeftStatesModel", "stepNow", "(I)V"⟩, 44), (⟨"LeftStatesModel", "cutAt", "(JI)J"⟩, 44), (⟨"LeftStatesModel", "isSteady", "(J)Z"⟩, 44), (⟨"LeftStatesModel", "findPlates", "(I)V"⟩, 44), (⟨"LeftStatesModel", "layAll", "()V"⟩, 44)]
theorem lw_r3 : ∀ q ∈ lw_privs_3, lw_okq q := List.forall_mem_cons.mpr ⟨lw_p32, List.forall_mem_cons.mpr ⟨lw_p33, List.forall_mem_cons.mpr ⟨lw_p34, List.forall_mem_cons.mpr ⟨lw_p35, List.forall_mem_cons.mpr ⟨lw_p36, List.forall_mem_cons.mpr ⟨lw_p37, List.forall_mem_cons.mpr ⟨lw_p38, List.forall_mem_cons.mpr ⟨lw_p39, List.forall_mem_cons.mpr ⟨lw_p40, List.forall_mem_cons.mpr ⟨lw_p41, List.forall_mem_cons.mpr ⟨lw_p42, List.forall_mem_cons.mpr ⟨lw_p43, List.forall_mem_cons.mpr ⟨lw_p44, List.forall_mem_cons.mpr ⟨lw_p45, List.forall_mem_cons.mpr ⟨lw_p46, List.forall_mem_cons.mpr ⟨lw_p47, fun _ h => absurd h List.not_mem_nil⟩⟩⟩⟩⟩⟩⟩⟩⟩⟩⟩⟩⟩⟩⟩⟩
theorem lw_p48 : lw_okq (⟨"LeftStatesModel", "asActs", "(I)I"⟩, 44) := ⟨⟨by decide +kernel, by decide +kernel⟩, List.mem_of_getElem? (i := 833) (by decide +kernel), List.mem_of_getElem? (i := 1168) (by decide +kernel), List.mem_of_getElem? (i := 1169) (by decide +kernel)⟩
theorem lw_p49 : lw_okq (⟨"LeftStatesModel", "rulesNow", "()I"⟩, 44) := ⟨⟨by decide +kernel, by decide +kernel⟩, List.mem_of_getElem? (i := 833) (by decide +kernel), List.mem_of_getElem? (i := 1172) (by decide +kernel), List.mem_of_getElem? (i := 1173) (by decide +kernel)⟩
theorem lw_p50 : lw_okq (⟨"LeftStatesModel", "putNothing", "()V"⟩, 44) := ⟨⟨by decide +kernel, by decide +kernel⟩, List.mem_of_getElem? (i := 833) (by decide +kernel), List.mem_of_getElem? (i := 1176) (by decide +kernel), List.mem_of_getElem? (i := 1177) (by decide +kernel)⟩
theorem lw_p51 : lw_okq (⟨"LeftStatesModel", "findSets", "(II)V"⟩, 44) := ⟨⟨by decide +kernel, by decide +kernel⟩, List.mem_of_getElem? (i := 833) (by decide +kernel), List.mem_of_getElem? (i := 1180) (by decide +kernel), List.mem_of_getElem? (i := 1181) (by decide +kernel)⟩
theorem lw_p52 : lw_okq (⟨"LeftStatesModel", "cutEpochs", "(II)V"⟩, 44) := ⟨⟨by decide +kernel, by decide +kernel⟩, List.mem_of_getElem? (i := 833) (by decide +kernel), List.mem_of_getElem? (i := 1184) (by decide +kernel), List.mem_of_getElem? (i := 1185) (by decide +kernel)⟩
theorem lw_p53 : lw_okq (⟨"LeftStatesModel", "endEpoch", "(I)V"⟩, 44) := ⟨⟨by decide +kernel, by decide +kernel⟩, List.mem_of_getElem? (i := 833) (by decide +kernel), List.mem_of_getElem? (i := 1188) (by decide +kernel), List.mem_of_getElem? (i := 1189) (by decide +kernel)⟩
theorem lw_p54 : lw_okq (⟨"LeftStatesModel", "asCode", "(I)I"⟩, 44) := ⟨⟨by decide +kernel, by decide +kernel⟩, List.mem_of_getElem? (i := 833) (by decide +kernel), List.mem_of_getElem? (i := 1192) (by decide +kernel), List.mem_of_getElem? (i := 1193) (by decide +kernel)⟩
theorem lw_p55 : lw_okq (⟨"LeftStatesModel", "dueAt", "(I)I"⟩, 44) := ⟨⟨by decide +kernel, by decide +kernel⟩, List.mem_of_getElem? (i := 833) (by decide +kernel), List.mem_of_getElem? (i := 1208) (by decide +kernel), List.mem_of_getElem? (i := 1209) (by decide +kernel)⟩
theorem lw_p56 : lw_okq (⟨"LeftStatesModel", "isBroken", "(II)Z"⟩, 44) := ⟨⟨by decide +kernel, by decide +kernel⟩, List.mem_of_getElem? (i := 833) (by decide +kernel), List.mem_of_getElem? (i := 1212) (by decide +kernel), List.mem_of_getElem? (i := 1213) (by decide +kernel)⟩
theorem lw_p57 : lw_okq (⟨"LeftStatesModel", "isSafe", "(I)Z"⟩, 44) := ⟨⟨by decide +kernel, by decide +kernel⟩, List.mem_of_getElem? (i := 833) (by decide +kernel), List.mem_of_getElem? (i := 1224) (by decide +kernel), List.mem_of_getElem? (i := 1225) (by decide +kernel)⟩
theorem lw_p58 : lw_okq (⟨"LeftStatesModel", "leastSet", "(J)J"⟩, 44) := ⟨⟨by decide +kernel, by decide +kernel⟩, List.mem_of_getElem? (i := 833) (by decide +kernel), List.mem_of_getElem? (i := 1232) (by decide +kernel), List.mem_of_getElem? (i := 1233) (by decide +kernel)⟩
theorem lw_p59 : lw_okq (⟨"LeftStatesModel", "putBy", "(I)V"⟩, 44) := ⟨⟨by decide +kernel, by decide +kernel⟩, List.mem_of_getElem? (i := 833) (by decide +kernel), List.mem_of_getElem? (i := 1244) (by decide +kernel), List.mem_of_getElem? (i := 1245) (by decide +kernel)⟩
theorem lw_p60 : lw_okq (⟨"LeftStatesModel", "isWriteAt", "(I)Z"⟩, 44) := ⟨⟨by decide +kernel, by decide +kernel⟩, List.mem_of_getElem? (i := 833) (by decide +kernel), List.mem_of_getElem? (i := 1257) (by decide +kernel), List.mem_of_getElem? (i := 1258) (by decide +kernel)⟩
theorem lw_p61 : lw_okq (⟨"LeftStatesModel", "countOrder", "(IIIII)I"⟩, 44) := ⟨⟨by decide +kernel, by decide +kernel⟩, List.mem_of_getElem? (i := 833) (by decide +kernel), List.mem_of_getElem? (i := 1261) (by decide +kernel), List.mem_of_getElem? (i := 1262) (by decide +kernel)⟩
theorem lw_p62 : lw_okq (⟨"LeftStatesModel", "countOf", "(I)I"⟩, 44) := ⟨⟨by decide +kernel, by decide +kernel⟩, List.mem_of_getElem? (i := 833) (by decide +kernel), List.mem_of_getElem? (i := 1269) (by decide +kernel), List.mem_of_getElem? (i := 1270) (by decide +kernel)⟩
theorem lw_p63 : lw_okq (⟨"LeftStatesModel", "epochsWithWrites", "()I"⟩, 44) := ⟨⟨by decide +kernel, by decide +kernel⟩, List.mem_of_getElem? (i := 833) (by decide +kernel), List.mem_of_getElem? (i := 1273) (by decide +kernel), List.mem_of_getElem? (i := 1274) (by decide +kernel)⟩
def lw_privs_4 : List (MethodName × Nat) := [(⟨"LeftStatesModel", "asActs", "(I)I"⟩, 44), (⟨"LeftStatesModel", "rulesNow", "()I"⟩, 44), (⟨"LeftStatesModel", "putNothing", "()V"⟩, 44), (⟨"LeftStatesModel", "findSets", "(II)V"⟩, 44), (⟨"LeftStatesModel", "cutEpochs", "(II)V"⟩, 44), (⟨"LeftStatesModel", "endEpoch", "(I)V"⟩, 44), (⟨"LeftStatesModel", "asCode", "(I)I"⟩, 44), (⟨"LeftStatesModel", "dueAt", "(I)I"⟩, 44), (⟨"LeftStatesModel", "isBroken", "(II)Z"⟩, 44), (⟨"LeftStatesModel", "isSafe", "(I)Z"⟩, 44), (⟨"LeftStatesModel", "leastSet", "(J)J"⟩, 44), (⟨"LeftStatesModel", "putBy", "(I)V"⟩, 44), (⟨"LeftStatesModel", "isWriteAt", "(I)Z"⟩, 44), (⟨"LeftStatesModel", "countOrder", "(IIIII)I"⟩, 44), (⟨"LeftStatesModel", "countOf", "(I)I"⟩, 44), (⟨"LeftStatesModel", "epochsWithWrites", "()I"⟩, 44)]
theorem lw_r4 : ∀ q ∈ lw_privs_4, lw_okq q := List.forall_mem_cons.mpr ⟨lw_p48, List.forall_mem_cons.mpr ⟨lw_p49, List.forall_mem_cons.mpr ⟨lw_p50, List.forall_mem_cons.mpr ⟨lw_p51, List.forall_mem_cons.mpr ⟨lw_p52, List.forall_mem_cons.mpr ⟨lw_p53, List.forall_mem_cons.mpr ⟨lw_p54, List.forall_mem_cons.mpr ⟨lw_p55, List.forall_mem_cons.mpr ⟨lw_p56, List.forall_mem_cons.mpr ⟨lw_p57, List.forall_mem_cons.mpr ⟨lw_p58, List.forall_mem_cons.mpr ⟨lw_p59, List.forall_mem_cons.mpr ⟨lw_p60, List.forall_mem_cons.mpr ⟨lw_p61, List.forall_mem_cons.mpr ⟨lw_p62, List.forall_mem_cons.mpr ⟨lw_p63, fun _ h => absurd h List.not_mem_nil⟩⟩⟩⟩⟩⟩⟩⟩⟩⟩⟩⟩⟩⟩⟩⟩
theorem lw_p64 : lw_okq (⟨"LeftStatesModel", "writeMany", "()I"⟩, 44) := ⟨⟨by decide +kernel, by decide +kernel⟩, List.mem_of_getElem? (i := 833) (by decide +kernel), List.mem_of_getElem? (i := 1277) (by decide +kernel), List.mem_of_getElem? (i := 1278) (by decide +kernel)⟩
theorem lw_p65 : lw_okq (⟨"LeftStatesModel", "mix", "(J)V"⟩, 44) := ⟨⟨by decide +kernel, by decide +kernel⟩, List.mem_of_getElem? (i := 833) (by decide +kernel), List.mem_of_getElem? (i := 1286) (by decide +kernel), List.mem_of_getElem? (i := 1287) (by decide +kernel)⟩
def lw_privs_5 : List (MethodName × Nat) := [(⟨"LeftStatesModel", "writeMany", "()I"⟩, 44), (⟨"LeftStatesModel", "mix", "(J)V"⟩, 44)]
theorem lw_r5 : ∀ q ∈ lw_privs_5, lw_okq q := List.forall_mem_cons.mpr ⟨lw_p64, List.forall_mem_cons.mpr ⟨lw_p65, fun _ h => absurd h List.not_mem_nil⟩⟩
def lw_privs : List (MethodName × Nat) := lw_privs_1 ++ (lw_privs_2 ++ (lw_privs_3 ++ (lw_privs_4 ++ (lw_privs_5))))
def lw_tbl : List Cond := k2_sels lw_privs ++ tables_1
theorem lw_privs_ok : ∀ q ∈ lw_privs, lw_okq q := by
  show ∀ q ∈ lw_privs_1 ++ (lw_privs_2 ++ (lw_privs_3 ++ (lw_privs_4 ++ (lw_privs_5)))), lw_okq q
  exact List.forall_mem_append.mpr ⟨lw_r1, List.forall_mem_append.mpr ⟨lw_r2, List.forall_mem_append.mpr ⟨lw_r3, List.forall_mem_append.mpr ⟨lw_r4, lw_r5⟩⟩⟩⟩
end
section
def RX0 : String := "LeftStates$Act"
def TX0 : u_T := fun k => match k with
  | 0 => ("LeftStates$Act", "sort", "I", false)
  | 1 => ("LeftStates$Act", "sector", "I", false)
  | 2 => ("LeftStates$Act", "number", "I", false)
  | 3 => ("LeftStates$Act", "otherSector", "I", false)
  | _ => ("LeftStates$Act", "otherNumber", "I", false)
def tyX0 : Nat → FieldType := fun k => match k with
  | 0 => .int
  | 1 => .int
  | 2 => .int
  | 3 => .int
  | _ => .int
abbrev wsX00 : List Cond := u_ws RX0 TX0 5
theorem nmX0 : ∀ a, a < 5 → ∀ b, b < 5 → a ≠ b → (TX0 a).2.1 ≠ (TX0 b).2.1 := by decide +kernel
theorem tyX0_ok : ∀ k, k < 5 → parseFieldDescriptor (TX0 k).2.2.1 = some (tyX0 k) := by decide +kernel
abbrev cX0_init : ByteArray := prog_2_method_1_code
def yX0_init : MethodName := ⟨RX0, "<init>", "()V"⟩
abbrev cX0_become : ByteArray := prog_2_method_2_code
def yX0_become : MethodName := ⟨RX0, "become", "(IIIII)V"⟩
abbrev cX0_writes : ByteArray := prog_2_method_3_code
def yX0_writes : MethodName := ⟨RX0, "writes", "()Z"⟩
abbrev cX0_endsEpoch : ByteArray := prog_2_method_4_code
def yX0_endsEpoch : MethodName := ⟨RX0, "endsEpoch", "()Z"⟩
abbrev cX0_part : ByteArray := prog_2_method_5_code
def yX0_part : MethodName := ⟨RX0, "part", "(I)I"⟩
abbrev cX0_sectorBits : ByteArray := prog_2_method_6_code
def yX0_sectorBits : MethodName := ⟨RX0, "sectorBits", "()I"⟩
abbrev cX0_laidOn : ByteArray := prog_2_method_7_code
def yX0_laidOn : MethodName := ⟨RX0, "laidOn", "(J)J"⟩
def RX1 : String := "LeftStates$Found"
def TX1 : u_T := fun k => match k with
  | 0 => ("LeftStates$Found", "plates", "[J", true)
  | 1 => ("LeftStates$Found", "reached", "[I", true)
  | 2 => ("LeftStates$Found", "size", "I", false)
  | _ => ("LeftStates$Found", "filledFor", "I", false)
def tyX1 : Nat → FieldType := fun k => match k with
  | 0 => .array .long
  | 1 => .array .int
  | 2 => .int
  | _ => .int
abbrev wsX10 : List Cond := u_ws RX1 TX1 4
theorem nmX1 : ∀ a, a < 4 → ∀ b, b < 4 → a ≠ b → (TX1 a).2.1 ≠ (TX1 b).2.1 := by decide +kernel
theorem tyX1_ok : ∀ k, k < 4 → parseFieldDescriptor (TX1 k).2.2.1 = some (tyX1 k) := by decide +kernel
abbrev cX1_init : ByteArray := prog_3_method_1_code
def yX1_init : MethodName := ⟨RX1, "<init>", "()V"⟩
abbrev cX1_forget : ByteArray := prog_3_method_2_code
def yX1_forget : MethodName := ⟨RX1, "forget", "()V"⟩
abbrev cX1_fill : ByteArray := prog_3_method_3_code
def yX1_fill : MethodName := ⟨RX1, "fill", "(LLeftStates$Program;I)V"⟩
abbrev cX1_gather : ByteArray := prog_3_method_4_code
def yX1_gather : MethodName := ⟨RX1, "gather", "(LLeftStates$Program;I)V"⟩
abbrev cX1_addReaching : ByteArray := prog_3_method_5_code
def yX1_addReaching : MethodName := ⟨RX1, "addReaching", "(LLeftStates$Act;II)V"⟩
abbrev cX1_sort : ByteArray := prog_3_method_6_code
def yX1_sort : MethodName := ⟨RX1, "sort", "()V"⟩
abbrev cX1_sink : ByteArray := prog_3_method_7_code
def yX1_sink : MethodName := ⟨RX1, "sink", "(II)V"⟩
abbrev cX1_dropLike : ByteArray := prog_3_method_8_code
def yX1_dropLike : MethodName := ⟨RX1, "dropLike", "()V"⟩
def RX2 : String := "LeftStates$Healing"
def TX2 : u_T := fun k => match k with
  | 0 => ("LeftStates$Healing", "steps", "[LLeftStates$Text;", true)
  | 1 => ("LeftStates$Healing", "size", "I", false)
  | _ => ("LeftStates$Healing", "figures", "[I", true)
def tyX2 : Nat → FieldType := fun k => match k with
  | 0 => .array (.object "LeftStates$Text")
  | 1 => .int
  | _ => .array .int
abbrev wsX20 : List Cond := u_ws RX2 TX2 3
theorem nmX2 : ∀ a, a < 3 → ∀ b, b < 3 → a ≠ b → (TX2 a).2.1 ≠ (TX2 b).2.1 := by decide +kernel
theorem tyX2_ok : ∀ k, k < 3 → parseFieldDescriptor (TX2 k).2.2.1 = some (tyX2 k) := by decide +kernel
abbrev cX2_init : ByteArray := prog_4_method_1_code
def yX2_init : MethodName := ⟨RX2, "<init>", "()V"⟩
abbrev cX2_after : ByteArray := prog_4_method_2_code
def yX2_after : MethodName := ⟨RX2, "after", "(JII)J"⟩
abbrev cX2_healed : ByteArray := prog_4_method_3_code
def yX2_healed : MethodName := ⟨RX2, "healed", "(J)J"⟩
abbrev cX2_isSteady : ByteArray := prog_4_method_4_code
def yX2_isSteady : MethodName := ⟨RX2, "isSteady", "(JJ)Z"⟩
def RX3 : String := "LeftStates$Page"
def TX3 : u_T := fun k => match k with
  | 0 => ("LeftStates$Page", "signs", "[C", true)
  | _ => ("LeftStates$Page", "size", "I", false)
def tyX3 : Nat → FieldType := fun k => match k with
  | 0 => .array .char
  | _ => .int
abbrev wsX30 : List Cond := u_ws RX3 TX3 2
theorem nmX3 : ∀ a, a < 2 → ∀ b, b < 2 → a ≠ b → (TX3 a).2.1 ≠ (TX3 b).2.1 := by decide +kernel
theorem tyX3_ok : ∀ k, k < 2 → parseFieldDescriptor (TX3 k).2.2.1 = some (tyX3 k) := by decide +kernel
abbrev cX3_init : ByteArray := prog_5_method_1_code
def yX3_init : MethodName := ⟨RX3, "<init>", "()V"⟩
abbrev cX3_lettersIn : ByteArray := prog_5_method_2_code
def yX3_lettersIn : MethodName := ⟨RX3, "lettersIn", "(J)I"⟩
abbrev cX3_append : ByteArray := prog_5_method_3_code
def yX3_append : MethodName := ⟨RX3, "append", "(JI)V"⟩
abbrev cX3_codeIn : ByteArray := prog_5_method_4_code
def yX3_codeIn : MethodName := ⟨RX3, "codeIn", "(JI)I"⟩
def RX4 : String := "LeftStates$Placing"
def TX4 : u_T := fun k => match k with
  | 0 => ("LeftStates$Placing", "wrong", "[I", true)
  | 1 => ("LeftStates$Placing", "put", "[I", true)
  | 2 => ("LeftStates$Placing", "best", "[I", true)
  | 3 => ("LeftStates$Placing", "places", "I", false)
  | 4 => ("LeftStates$Placing", "bestCost", "I", false)
  | _ => ("LeftStates$Placing", "bestPut", "I", false)
def tyX4 : Nat → FieldType := fun k => match k with
  | 0 => .array .int
  | 1 => .array .int
  | 2 => .array .int
  | 3 => .int
  | 4 => .int
  | _ => .int
abbrev wsX40 : List Cond := u_ws RX4 TX4 6
theorem nmX4 : ∀ a, a < 6 → ∀ b, b < 6 → a ≠ b → (TX4 a).2.1 ≠ (TX4 b).2.1 := by decide +kernel
theorem tyX4_ok : ∀ k, k < 6 → parseFieldDescriptor (TX4 k).2.2.1 = some (tyX4 k) := by decide +kernel
abbrev cX4_init : ByteArray := prog_6_method_1_code
def yX4_init : MethodName := ⟨RX4, "<init>", "()V"⟩
abbrev cX4_behind : ByteArray := prog_6_method_2_code
def yX4_behind : MethodName := ⟨RX4, "behind", "(I)I"⟩
abbrev cX4_weigh : ByteArray := prog_6_method_3_code
def yX4_weigh : MethodName := ⟨RX4, "weigh", "(LLeftStates$Program;LLeftStates$Verdicts;)V"⟩
abbrev cX4_search : ByteArray := prog_6_method_4_code
def yX4_search : MethodName := ⟨RX4, "search", "(LLeftStates$Program;III)V"⟩
abbrev cX4_putOf : ByteArray := prog_6_method_5_code
def yX4_putOf : MethodName := ⟨RX4, "putOf", "(I)I"⟩
abbrev cX4_isBetter : ByteArray := prog_6_method_6_code
def yX4_isBetter : MethodName := ⟨RX4, "isBetter", "(II)Z"⟩
abbrev cX4_goOn : ByteArray := prog_6_method_7_code
def yX4_goOn : MethodName := ⟨RX4, "goOn", "()V"⟩
abbrev cX4_isSafe : ByteArray := prog_6_method_8_code
def yX4_isSafe : MethodName := ⟨RX4, "isSafe", "(LLeftStates$Program;I)Z"⟩
def RX5 : String := "LeftStates$Program"
def TX5 : u_T := fun k => match k with
  | 0 => ("LeftStates$Program", "acts", "[LLeftStates$Act;", true)
  | 1 => ("LeftStates$Program", "size", "I", false)
  | _ => ("LeftStates$Program", "first", "J", false)
def tyX5 : Nat → FieldType := fun k => match k with
  | 0 => .array (.object "LeftStates$Act")
  | 1 => .int
  | _ => .long
abbrev wsX50 : List Cond := u_ws RX5 TX5 3
theorem nmX5 : ∀ a, a < 3 → ∀ b, b < 3 → a ≠ b → (TX5 a).2.1 ≠ (TX5 b).2.1 := by decide +kernel
theorem tyX5_ok : ∀ k, k < 3 → parseFieldDescriptor (TX5 k).2.2.1 = some (tyX5 k) := by decide +kernel
abbrev cX5_init : ByteArray := prog_7_method_1_code
def yX5_init : MethodName := ⟨RX5, "<init>", "()V"⟩
abbrev cX5_has : ByteArray := prog_7_method_2_code
def yX5_has : MethodName := ⟨RX5, "has", "(I)Z"⟩
abbrev cX5_hasBehind : ByteArray := prog_7_method_3_code
def yX5_hasBehind : MethodName := ⟨RX5, "hasBehind", "(I)Z"⟩
abbrev cX5_isWrite : ByteArray := prog_7_method_4_code
def yX5_isWrite : MethodName := ⟨RX5, "isWrite", "(I)Z"⟩
abbrev cX5_exchange : ByteArray := prog_7_method_5_code
def yX5_exchange : MethodName := ⟨RX5, "exchange", "(II)V"⟩
abbrev cX5_writes : ByteArray := prog_7_method_6_code
def yX5_writes : MethodName := ⟨RX5, "writes", "()I"⟩
abbrev cX5_writesWithin : ByteArray := prog_7_method_7_code
def yX5_writesWithin : MethodName := ⟨RX5, "writesWithin", "(II)I"⟩
abbrev cX5_epochStart : ByteArray := prog_7_method_8_code
def yX5_epochStart : MethodName := ⟨RX5, "epochStart", "(I)I"⟩
abbrev cX5_epochEnd : ByteArray := prog_7_method_9_code
def yX5_epochEnd : MethodName := ⟨RX5, "epochEnd", "(I)I"⟩
abbrev cX5_behindLastFlush : ByteArray := prog_7_method_10_code
def yX5_behindLastFlush : MethodName := ⟨RX5, "behindLastFlush", "(I)I"⟩
abbrev cX5_epochsWithWrites : ByteArray := prog_7_method_11_code
def yX5_epochsWithWrites : MethodName := ⟨RX5, "epochsWithWrites", "()I"⟩
abbrev cX5_plateOf : ByteArray := prog_7_method_12_code
def yX5_plateOf : MethodName := ⟨RX5, "plateOf", "(I)J"⟩
abbrev cX5_shownOf : ByteArray := prog_7_method_13_code
def yX5_shownOf : MethodName := ⟨RX5, "shownOf", "(I)I"⟩
abbrev cX5_dueAt : ByteArray := prog_7_method_14_code
def yX5_dueAt : MethodName := ⟨RX5, "dueAt", "(II)I"⟩
def RX6 : String := "LeftStates$Reader"
def TX6 : u_T := fun k => match k with
  | 0 => ("LeftStates$Reader", "text", "LLeftStates$Text;", true)
  | 1 => ("LeftStates$Reader", "waiting", "[C", true)
  | 2 => ("LeftStates$Reader", "waits", "I", false)
  | 3 => ("LeftStates$Reader", "open", "I", false)
  | 4 => ("LeftStates$Reader", "next", "I", false)
  | 5 => ("LeftStates$Reader", "side", "I", false)
  | 6 => ("LeftStates$Reader", "relation", "C", false)
  | 7 => ("LeftStates$Reader", "minus", "Z", false)
  | _ => ("LeftStates$Reader", "asStep", "Z", false)
def tyX6 : Nat → FieldType := fun k => match k with
  | 0 => .object "LeftStates$Text"
  | 1 => .array .char
  | 2 => .int
  | 3 => .int
  | 4 => .int
  | 5 => .int
  | 6 => .char
  | 7 => .boolean
  | _ => .boolean
abbrev wsX60 : List Cond := u_ws RX6 TX6 9
theorem nmX6 : ∀ a, a < 9 → ∀ b, b < 9 → a ≠ b → (TX6 a).2.1 ≠ (TX6 b).2.1 := by decide +kernel
theorem tyX6_ok : ∀ k, k < 9 → parseFieldDescriptor (TX6 k).2.2.1 = some (tyX6 k) := by decide +kernel
abbrev cX6_init : ByteArray := prog_8_method_1_code
def yX6_init : MethodName := ⟨RX6, "<init>", "()V"⟩
abbrev cX6_goodOf : ByteArray := prog_8_method_2_code
def yX6_goodOf : MethodName := ⟨RX6, "goodOf", "(LLeftStates$Page;Z)I"⟩
abbrev cX6_begin : ByteArray := prog_8_method_3_code
def yX6_begin : MethodName := ⟨RX6, "begin", "(Z)V"⟩
abbrev cX6_isWhole : ByteArray := prog_8_method_4_code
def yX6_isWhole : MethodName := ⟨RX6, "isWhole", "()Z"⟩
abbrev cX6_takes : ByteArray := prog_8_method_5_code
def yX6_takes : MethodName := ⟨RX6, "takes", "(C)Z"⟩
abbrev cX6_endsComparison : ByteArray := prog_8_method_6_code
def yX6_endsComparison : MethodName := ⟨RX6, "endsComparison", "(C)Z"⟩
abbrev cX6_takesFactor : ByteArray := prog_8_method_7_code
def yX6_takesFactor : MethodName := ⟨RX6, "takesFactor", "(C)Z"⟩
abbrev cX6_takesUnit : ByteArray := prog_8_method_8_code
def yX6_takesUnit : MethodName := ⟨RX6, "takesUnit", "(C)Z"⟩
abbrev cX6_takesSecondDigit : ByteArray := prog_8_method_9_code
def yX6_takesSecondDigit : MethodName := ⟨RX6, "takesSecondDigit", "(C)Z"⟩
abbrev cX6_takesBehindUnit : ByteArray := prog_8_method_10_code
def yX6_takesBehindUnit : MethodName := ⟨RX6, "takesBehindUnit", "(C)Z"⟩
abbrev cX6_takesBehindFactor : ByteArray := prog_8_method_11_code
def yX6_takesBehindFactor : MethodName := ⟨RX6, "takesBehindFactor", "(C)Z"⟩
abbrev cX6_takesTarget : ByteArray := prog_8_method_12_code
def yX6_takesTarget : MethodName := ⟨RX6, "takesTarget", "(C)Z"⟩
abbrev cX6_takesEquals : ByteArray := prog_8_method_13_code
def yX6_takesEquals : MethodName := ⟨RX6, "takesEquals", "(C)Z"⟩
abbrev cX6_closeComparison : ByteArray := prog_8_method_14_code
def yX6_closeComparison : MethodName := ⟨RX6, "closeComparison", "()V"⟩
abbrev cX6_closeFactor : ByteArray := prog_8_method_15_code
def yX6_closeFactor : MethodName := ⟨RX6, "closeFactor", "()V"⟩
abbrev cX6_closeTerms : ByteArray := prog_8_method_16_code
def yX6_closeTerms : MethodName := ⟨RX6, "closeTerms", "()V"⟩
abbrev cX6_release : ByteArray := prog_8_method_17_code
def yX6_release : MethodName := ⟨RX6, "release", "(CI)V"⟩
abbrev cX6_keep : ByteArray := prog_8_method_18_code
def yX6_keep : MethodName := ⟨RX6, "keep", "(C)V"⟩
abbrev cX6_isLetter : ByteArray := prog_8_method_19_code
def yX6_isLetter : MethodName := ⟨RX6, "isLetter", "(C)Z"⟩
abbrev cX6_isDigit : ByteArray := prog_8_method_20_code
def yX6_isDigit : MethodName := ⟨RX6, "isDigit", "(C)Z"⟩
def RX7 : String := "LeftStates$Rules"
def TX7 : u_T := fun k => match k with
  | 0 => ("LeftStates$Rules", "texts", "[LLeftStates$Text;", true)
  | 1 => ("LeftStates$Rules", "size", "I", false)
  | 2 => ("LeftStates$Rules", "always", "I", false)
  | _ => ("LeftStates$Rules", "figures", "[I", true)
def tyX7 : Nat → FieldType := fun k => match k with
  | 0 => .array (.object "LeftStates$Text")
  | 1 => .int
  | 2 => .int
  | _ => .array .int
abbrev wsX70 : List Cond := u_ws RX7 TX7 4
theorem nmX7 : ∀ a, a < 4 → ∀ b, b < 4 → a ≠ b → (TX7 a).2.1 ≠ (TX7 b).2.1 := by decide +kernel
theorem tyX7_ok : ∀ k, k < 4 → parseFieldDescriptor (TX7 k).2.2.1 = some (tyX7 k) := by decide +kernel
abbrev cX7_init : ByteArray := prog_9_method_1_code
def yX7_init : MethodName := ⟨RX7, "<init>", "()V"⟩
abbrev cX7_has : ByteArray := prog_9_method_2_code
def yX7_has : MethodName := ⟨RX7, "has", "(I)Z"⟩
abbrev cX7_failingIn : ByteArray := prog_9_method_3_code
def yX7_failingIn : MethodName := ⟨RX7, "failingIn", "(J)I"⟩
def RX8 : String := "LeftStates$Text"
def TX8 : u_T := fun k => match k with
  | 0 => ("LeftStates$Text", "code", "[I", true)
  | 1 => ("LeftStates$Text", "size", "I", false)
  | 2 => ("LeftStates$Text", "ruleSize", "I", false)
  | _ => ("LeftStates$Text", "target", "I", false)
def tyX8 : Nat → FieldType := fun k => match k with
  | 0 => .array .int
  | 1 => .int
  | 2 => .int
  | _ => .int
abbrev wsX80 : List Cond := u_ws RX8 TX8 4
theorem nmX8 : ∀ a, a < 4 → ∀ b, b < 4 → a ≠ b → (TX8 a).2.1 ≠ (TX8 b).2.1 := by decide +kernel
theorem tyX8_ok : ∀ k, k < 4 → parseFieldDescriptor (TX8 k).2.2.1 = some (tyX8 k) := by decide +kernel
abbrev cX8_init : ByteArray := prog_10_method_1_code
def yX8_init : MethodName := ⟨RX8, "<init>", "()V"⟩
abbrev cX8_clear : ByteArray := prog_10_method_2_code
def yX8_clear : MethodName := ⟨RX8, "clear", "()V"⟩
abbrev cX8_emit : ByteArray := prog_10_method_3_code
def yX8_emit : MethodName := ⟨RX8, "emit", "(II)V"⟩
abbrev cX8_widen : ByteArray := prog_10_method_4_code
def yX8_widen : MethodName := ⟨RX8, "widen", "(I)V"⟩
abbrev cX8_endRule : ByteArray := prog_10_method_5_code
def yX8_endRule : MethodName := ⟨RX8, "endRule", "()V"⟩
abbrev cX8_copy : ByteArray := prog_10_method_6_code
def yX8_copy : MethodName := ⟨RX8, "copy", "(LLeftStates$Text;)V"⟩
abbrev cX8_isTrue : ByteArray := prog_10_method_7_code
def yX8_isTrue : MethodName := ⟨RX8, "isTrue", "([I)Z"⟩
abbrev cX8_sum : ByteArray := prog_10_method_8_code
def yX8_sum : MethodName := ⟨RX8, "sum", "([I)I"⟩
def RX9 : String := "LeftStates$Verdicts"
def TX9 : u_T := fun k => match k with
  | 0 => ("LeftStates$Verdicts", "program", "LLeftStates$Program;", true)
  | 1 => ("LeftStates$Verdicts", "rules", "LLeftStates$Rules;", true)
  | 2 => ("LeftStates$Verdicts", "healing", "LLeftStates$Healing;", true)
  | 3 => ("LeftStates$Verdicts", "known", "[I", true)
  | _ => ("LeftStates$Verdicts", "stamp", "I", false)
def tyX9 : Nat → FieldType := fun k => match k with
  | 0 => .object "LeftStates$Program"
  | 1 => .object "LeftStates$Rules"
  | 2 => .object "LeftStates$Healing"
  | 3 => .array .int
  | _ => .int
abbrev wsX90 : List Cond := u_ws RX9 TX9 5
theorem nmX9 : ∀ a, a < 5 → ∀ b, b < 5 → a ≠ b → (TX9 a).2.1 ≠ (TX9 b).2.1 := by decide +kernel
theorem tyX9_ok : ∀ k, k < 5 → parseFieldDescriptor (TX9 k).2.2.1 = some (tyX9 k) := by decide +kernel
abbrev cX9_init : ByteArray := prog_11_method_1_code
def yX9_init : MethodName := ⟨RX9, "<init>", "()V"⟩
abbrev cX9_forget : ByteArray := prog_11_method_2_code
def yX9_forget : MethodName := ⟨RX9, "forget", "()V"⟩
abbrev cX9_of : ByteArray := prog_11_method_3_code
def yX9_of : MethodName := ⟨RX9, "of", "(I)I"⟩
abbrev cX9_ofEach : ByteArray := prog_11_method_4_code
def yX9_ofEach : MethodName := ⟨RX9, "ofEach", "(II)I"⟩
abbrev cX9_firstBroken : ByteArray := prog_11_method_5_code
def yX9_firstBroken : MethodName := ⟨RX9, "firstBroken", "(I)I"⟩
def RX10 : String := "LeftStates"
def TX10 : u_T := fun k => match k with
  | 0 => ("LeftStates", "verdicts", "LLeftStates$Verdicts;", true)
  | 1 => ("LeftStates", "program", "LLeftStates$Program;", true)
  | 2 => ("LeftStates", "rules", "LLeftStates$Rules;", true)
  | 3 => ("LeftStates", "healing", "LLeftStates$Healing;", true)
  | 4 => ("LeftStates", "page", "LLeftStates$Page;", true)
  | 5 => ("LeftStates", "reader", "LLeftStates$Reader;", true)
  | 6 => ("LeftStates", "list", "LLeftStates$Found;", true)
  | 7 => ("LeftStates", "placing", "LLeftStates$Placing;", true)
  | 8 => ("LeftStates", "barrierCost", "I", false)
  | 9 => ("LeftStates", "flushCost", "I", false)
  | _ => ("LeftStates", "fewestDone", "I", false)
def tyX10 : Nat → FieldType := fun k => match k with
  | 0 => .object "LeftStates$Verdicts"
  | 1 => .object "LeftStates$Program"
  | 2 => .object "LeftStates$Rules"
  | 3 => .object "LeftStates$Healing"
  | 4 => .object "LeftStates$Page"
  | 5 => .object "LeftStates$Reader"
  | 6 => .object "LeftStates$Found"
  | 7 => .object "LeftStates$Placing"
  | 8 => .int
  | 9 => .int
  | _ => .int
abbrev wsX100 : List Cond := u_ws RX10 TX10 11
theorem nmX10 : ∀ a, a < 11 → ∀ b, b < 11 → a ≠ b → (TX10 a).2.1 ≠ (TX10 b).2.1 := by decide +kernel
theorem tyX10_ok : ∀ k, k < 11 → parseFieldDescriptor (TX10 k).2.2.1 = some (tyX10 k) := by decide +kernel
abbrev cX10_init : ByteArray := prog_1_method_1_code
def yX10_init : MethodName := ⟨RX10, "<init>", "()V"⟩
abbrev cX10_sector : ByteArray := prog_1_method_2_code
def yX10_sector : MethodName := ⟨RX10, "sector", "(II)I"⟩
abbrev cX10_write : ByteArray := prog_1_method_3_code
def yX10_write : MethodName := ⟨RX10, "write", "(II)I"⟩
abbrev cX10_whole : ByteArray := prog_1_method_4_code
def yX10_whole : MethodName := ⟨RX10, "whole", "(IIII)I"⟩
abbrev cX10_barrier : ByteArray := prog_1_method_5_code
def yX10_barrier : MethodName := ⟨RX10, "barrier", "()I"⟩
abbrev cX10_flush : ByteArray := prog_1_method_6_code
def yX10_flush : MethodName := ⟨RX10, "flush", "()I"⟩
abbrev cX10_tell : ByteArray := prog_1_method_7_code
def yX10_tell : MethodName := ⟨RX10, "tell", "(I)I"⟩
abbrev cX10_undo : ByteArray := prog_1_method_8_code
def yX10_undo : MethodName := ⟨RX10, "undo", "()I"⟩
abbrev cX10_swap : ByteArray := prog_1_method_9_code
def yX10_swap : MethodName := ⟨RX10, "swap", "(II)I"⟩
abbrev cX10_act : ByteArray := prog_1_method_10_code
def yX10_act : MethodName := ⟨RX10, "act", "(II)I"⟩
abbrev cX10_end : ByteArray := prog_1_method_11_code
def yX10_end : MethodName := ⟨RX10, "end", "()J"⟩
abbrev cX10_addAct : ByteArray := prog_1_method_12_code
def yX10_addAct : MethodName := ⟨RX10, "addAct", "(IIIII)I"⟩
abbrev cX10_letters : ByteArray := prog_1_method_13_code
def yX10_letters : MethodName := ⟨RX10, "letters", "(J)I"⟩
abbrev cX10_blank : ByteArray := prog_1_method_14_code
def yX10_blank : MethodName := ⟨RX10, "blank", "()I"⟩
abbrev cX10_good : ByteArray := prog_1_method_15_code
def yX10_good : MethodName := ⟨RX10, "good", "(I)I"⟩
abbrev cX10_rule : ByteArray := prog_1_method_16_code
def yX10_rule : MethodName := ⟨RX10, "rule", "()I"⟩
abbrev cX10_step : ByteArray := prog_1_method_17_code
def yX10_step : MethodName := ⟨RX10, "step", "()I"⟩
abbrev cX10_bare : ByteArray := prog_1_method_18_code
def yX10_bare : MethodName := ⟨RX10, "bare", "()I"⟩
abbrev cX10_always : ByteArray := prog_1_method_19_code
def yX10_always : MethodName := ⟨RX10, "always", "(IZ)I"⟩
abbrev cX10_holds : ByteArray := prog_1_method_20_code
def yX10_holds : MethodName := ⟨RX10, "holds", "(IJ)I"⟩
abbrev cX10_found : ByteArray := prog_1_method_21_code
def yX10_found : MethodName := ⟨RX10, "found", "(I)I"⟩
abbrev cX10_plate : ByteArray := prog_1_method_22_code
def yX10_plate : MethodName := ⟨RX10, "plate", "(II)J"⟩
abbrev cX10_heal : ByteArray := prog_1_method_23_code
def yX10_heal : MethodName := ⟨RX10, "heal", "(J)J"⟩
abbrev cX10_cut : ByteArray := prog_1_method_24_code
def yX10_cut : MethodName := ⟨RX10, "cut", "(JI)J"⟩
abbrev cX10_steady : ByteArray := prog_1_method_25_code
def yX10_steady : MethodName := ⟨RX10, "steady", "(J)I"⟩
abbrev cX10_kept : ByteArray := prog_1_method_26_code
def yX10_kept : MethodName := ⟨RX10, "kept", "(III)I"⟩
abbrev cX10_broken : ByteArray := prog_1_method_27_code
def yX10_broken : MethodName := ⟨RX10, "broken", "(I)I"⟩
abbrev cX10_bounds : ByteArray := prog_1_method_28_code
def yX10_bounds : MethodName := ⟨RX10, "bounds", "(III)I"⟩
abbrev cX10_safe : ByteArray := prog_1_method_29_code
def yX10_safe : MethodName := ⟨RX10, "safe", "()I"⟩
abbrev cX10_shortest : ByteArray := prog_1_method_30_code
def yX10_shortest : MethodName := ⟨RX10, "shortest", "(I)J"⟩
abbrev cX10_leastBroken : ByteArray := prog_1_method_31_code
def yX10_leastBroken : MethodName := ⟨RX10, "leastBroken", "(I)I"⟩
abbrev cX10_cost : ByteArray := prog_1_method_32_code
def yX10_cost : MethodName := ⟨RX10, "cost", "(II)I"⟩
abbrev cX10_fewest : ByteArray := prog_1_method_33_code
def yX10_fewest : MethodName := ⟨RX10, "fewest", "(I)I"⟩
abbrev cX10_needless : ByteArray := prog_1_method_34_code
def yX10_needless : MethodName := ⟨RX10, "needless", "()I"⟩
abbrev cX10_order : ByteArray := prog_1_method_35_code
def yX10_order : MethodName := ⟨RX10, "order", "(III)I"⟩
abbrev cX10_count : ByteArray := prog_1_method_36_code
def yX10_count : MethodName := ⟨RX10, "count", "(I)I"⟩
abbrev cX10_digest : ByteArray := prog_1_method_37_code
def yX10_digest : MethodName := ⟨RX10, "digest", "()J"⟩
abbrev cX10_digestProgram : ByteArray := prog_1_method_38_code
def yX10_digestProgram : MethodName := ⟨RX10, "digestProgram", "(J)J"⟩
abbrev cX10_mix : ByteArray := prog_1_method_39_code
def yX10_mix : MethodName := ⟨RX10, "mix", "(JJ)J"⟩
abbrev cX10_forgetFound : ByteArray := prog_1_method_40_code
def yX10_forgetFound : MethodName := ⟨RX10, "forgetFound", "()V"⟩
abbrev cX10_isSector : ByteArray := prog_1_method_41_code
def yX10_isSector : MethodName := ⟨RX10, "isSector", "(I)Z"⟩
abbrev cX10_isFigure : ByteArray := prog_1_method_42_code
def yX10_isFigure : MethodName := ⟨RX10, "isFigure", "(I)Z"⟩
abbrev cX10_isNumberOfPlate : ByteArray := prog_1_method_43_code
def yX10_isNumberOfPlate : MethodName := ⟨RX10, "isNumberOfPlate", "(J)Z"⟩
abbrev cX10_plateOfNumber : ByteArray := prog_1_method_44_code
def yX10_plateOfNumber : MethodName := ⟨RX10, "plateOfNumber", "(J)J"⟩
abbrev cX10_numberOf : ByteArray := prog_1_method_45_code
def yX10_numberOf : MethodName := ⟨RX10, "numberOf", "(J)J"⟩
abbrev cX10_figureOf : ByteArray := prog_1_method_46_code
def yX10_figureOf : MethodName := ⟨RX10, "figureOf", "(JI)I"⟩
abbrev cX10_withFigure : ByteArray := prog_1_method_47_code
def yX10_withFigure : MethodName := ⟨RX10, "withFigure", "(JII)J"⟩
abbrev cX10_unpack : ByteArray := prog_1_method_48_code
def yX10_unpack : MethodName := ⟨RX10, "unpack", "(J[I)V"⟩
abbrev cX10_pack : ByteArray := prog_1_method_49_code
def yX10_pack : MethodName := ⟨RX10, "pack", "([I)J"⟩
abbrev cX10_nextSet : ByteArray := prog_1_method_50_code
def yX10_nextSet : MethodName := ⟨RX10, "nextSet", "(II)I"⟩
def RX11 : String := "LeftStatesModel"
def TX11 : u_T := fun k => match k with
  | 0 => ("LeftStatesModel", "firstPlate", "[I", true)
  | 1 => ("LeftStatesModel", "acts", "I", false)
  | 2 => ("LeftStatesModel", "sortOf", "[I", true)
  | 3 => ("LeftStatesModel", "toldOf", "[I", true)
  | 4 => ("LeftStatesModel", "pageLength", "I", false)
  | 5 => ("LeftStatesModel", "page", "[B", true)
  | 6 => ("LeftStatesModel", "rules", "I", false)
  | 7 => ("LeftStatesModel", "ruleText", "[B", true)
  | 8 => ("LeftStatesModel", "ruleSize", "[I", true)
  | 9 => ("LeftStatesModel", "isAlways", "[Z", true)
  | 10 => ("LeftStatesModel", "steps", "I", false)
  | 11 => ("LeftStatesModel", "stepText", "[B", true)
  | 12 => ("LeftStatesModel", "stepSize", "[I", true)
  | 13 => ("LeftStatesModel", "barrierCost", "I", false)
  | 14 => ("LeftStatesModel", "flushCost", "I", false)
  | 15 => ("LeftStatesModel", "fewestDone", "I", false)
  | 16 => ("LeftStatesModel", "now", "[I", true)
  | 17 => ("LeftStatesModel", "goodMany", "I", false)
  | 18 => ("LeftStatesModel", "isWhole", "Z", false)
  | 19 => ("LeftStatesModel", "isStep", "Z", false)
  | 20 => ("LeftStatesModel", "base", "I", false)
  | 21 => ("LeftStatesModel", "at", "I", false)
  | 22 => ("LeftStatesModel", "end", "I", false)
  | 23 => ("LeftStatesModel", "anyTerm", "[Z", true)
  | 24 => ("LeftStatesModel", "allFactors", "[Z", true)
  | 25 => ("LeftStatesModel", "isDenied", "[Z", true)
  | 26 => ("LeftStatesModel", "deep", "I", false)
  | 27 => ("LeftStatesModel", "isLaid", "Z", false)
  | 28 => ("LeftStatesModel", "plates", "[J", true)
  | 29 => ("LeftStatesModel", "healedOf", "[J", true)
  | 30 => ("LeftStatesModel", "rawRules", "[I", true)
  | 31 => ("LeftStatesModel", "fineRules", "[I", true)
  | 32 => ("LeftStatesModel", "isFirm", "[Z", true)
  | 33 => ("LeftStatesModel", "writeAt", "[I", true)
  | 34 => ("LeftStatesModel", "writes", "I", false)
  | 35 => ("LeftStatesModel", "putBehind", "[I", true)
  | 36 => ("LeftStatesModel", "epochs", "[I", true)
  | 37 => ("LeftStatesModel", "epochMany", "I", false)
  | 38 => ("LeftStatesModel", "reached", "I", false)
  | 39 => ("LeftStatesModel", "sets", "[I", true)
  | 40 => ("LeftStatesModel", "setMany", "I", false)
  | 41 => ("LeftStatesModel", "ranked", "[I", true)
  | 42 => ("LeftStatesModel", "orderMany", "I", false)
  | _ => ("LeftStatesModel", "h", "J", false)
def tyX11 : Nat → FieldType := fun k => match k with
  | 0 => .array .int
  | 1 => .int
  | 2 => .array .int
  | 3 => .array .int
  | 4 => .int
  | 5 => .array .byte
  | 6 => .int
  | 7 => .array .byte
  | 8 => .array .int
  | 9 => .array .boolean
  | 10 => .int
  | 11 => .array .byte
  | 12 => .array .int
  | 13 => .int
  | 14 => .int
  | 15 => .int
  | 16 => .array .int
  | 17 => .int
  | 18 => .boolean
  | 19 => .boolean
  | 20 => .int
  | 21 => .int
  | 22 => .int
  | 23 => .array .boolean
  | 24 => .array .boolean
  | 25 => .array .boolean
  | 26 => .int
  | 27 => .boolean
  | 28 => .array .long
  | 29 => .array .long
  | 30 => .array .int
  | 31 => .array .int
  | 32 => .array .boolean
  | 33 => .array .int
  | 34 => .int
  | 35 => .array .int
  | 36 => .array .int
  | 37 => .int
  | 38 => .int
  | 39 => .array .int
  | 40 => .int
  | 41 => .array .int
  | 42 => .int
  | _ => .long
abbrev wsX110 : List Cond := u_ws RX11 TX11 44
theorem nmX11 : ∀ a, a < 44 → ∀ b, b < 44 → a ≠ b → (TX11 a).2.1 ≠ (TX11 b).2.1 := by decide +kernel
theorem tyX11_ok : ∀ k, k < 44 → parseFieldDescriptor (TX11 k).2.2.1 = some (tyX11 k) := by decide +kernel
abbrev cX11_init : ByteArray := prog_13_method_1_code
def yX11_init : MethodName := ⟨RX11, "<init>", "()V"⟩
abbrev cX11_in : ByteArray := prog_13_method_3_code
def yX11_in : MethodName := ⟨RX11, "in", "(III)Z"⟩
abbrev cX11_isSector : ByteArray := prog_13_method_4_code
def yX11_isSector : MethodName := ⟨RX11, "isSector", "(I)Z"⟩
abbrev cX11_isNumber : ByteArray := prog_13_method_5_code
def yX11_isNumber : MethodName := ⟨RX11, "isNumber", "(I)Z"⟩
abbrev cX11_sector : ByteArray := prog_13_method_6_code
def yX11_sector : MethodName := ⟨RX11, "sector", "(II)I"⟩
abbrev cX11_come : ByteArray := prog_13_method_7_code
def yX11_come : MethodName := ⟨RX11, "come", "(IIIII)I"⟩
abbrev cX11_write : ByteArray := prog_13_method_8_code
def yX11_write : MethodName := ⟨RX11, "write", "(II)I"⟩
abbrev cX11_whole : ByteArray := prog_13_method_9_code
def yX11_whole : MethodName := ⟨RX11, "whole", "(IIII)I"⟩
abbrev cX11_barrier : ByteArray := prog_13_method_10_code
def yX11_barrier : MethodName := ⟨RX11, "barrier", "()I"⟩
abbrev cX11_flush : ByteArray := prog_13_method_11_code
def yX11_flush : MethodName := ⟨RX11, "flush", "()I"⟩
abbrev cX11_tell : ByteArray := prog_13_method_12_code
def yX11_tell : MethodName := ⟨RX11, "tell", "(I)I"⟩
abbrev cX11_undo : ByteArray := prog_13_method_13_code
def yX11_undo : MethodName := ⟨RX11, "undo", "()I"⟩
abbrev cX11_swap : ByteArray := prog_13_method_14_code
def yX11_swap : MethodName := ⟨RX11, "swap", "(II)I"⟩
abbrev cX11_act : ByteArray := prog_13_method_15_code
def yX11_act : MethodName := ⟨RX11, "act", "(II)I"⟩
abbrev cX11_isWrite : ByteArray := prog_13_method_16_code
def yX11_isWrite : MethodName := ⟨RX11, "isWrite", "(I)Z"⟩
abbrev cX11_lay : ByteArray := prog_13_method_17_code
def yX11_lay : MethodName := ⟨RX11, "lay", "(J)V"⟩
abbrev cX11_told : ByteArray := prog_13_method_18_code
def yX11_told : MethodName := ⟨RX11, "told", "()J"⟩
abbrev cX11_plateOf : ByteArray := prog_13_method_19_code
def yX11_plateOf : MethodName := ⟨RX11, "plateOf", "(I)J"⟩
abbrev cX11_writesAhead : ByteArray := prog_13_method_20_code
def yX11_writesAhead : MethodName := ⟨RX11, "writesAhead", "(I)I"⟩
abbrev cX11_end : ByteArray := prog_13_method_21_code
def yX11_end : MethodName := ⟨RX11, "end", "()J"⟩
abbrev cX11_letters : ByteArray := prog_13_method_22_code
def yX11_letters : MethodName := ⟨RX11, "letters", "(J)I"⟩
abbrev cX11_blank : ByteArray := prog_13_method_23_code
def yX11_blank : MethodName := ⟨RX11, "blank", "()I"⟩
abbrev cX11_isLetter : ByteArray := prog_13_method_24_code
def yX11_isLetter : MethodName := ⟨RX11, "isLetter", "(I)Z"⟩
abbrev cX11_isDigit : ByteArray := prog_13_method_25_code
def yX11_isDigit : MethodName := ⟨RX11, "isDigit", "(I)Z"⟩
abbrev cX11_isMark : ByteArray := prog_13_method_26_code
def yX11_isMark : MethodName := ⟨RX11, "isMark", "(I)Z"⟩
abbrev cX11_next : ByteArray := prog_13_method_27_code
def yX11_next : MethodName := ⟨RX11, "next", "(IIII)I"⟩
abbrev cX11_readText : ByteArray := prog_13_method_28_code
def yX11_readText : MethodName := ⟨RX11, "readText", "(I)V"⟩
abbrev cX11_good : ByteArray := prog_13_method_29_code
def yX11_good : MethodName := ⟨RX11, "good", "(I)I"⟩
abbrev cX11_rule : ByteArray := prog_13_method_30_code
def yX11_rule : MethodName := ⟨RX11, "rule", "()I"⟩
abbrev cX11_step : ByteArray := prog_13_method_31_code
def yX11_step : MethodName := ⟨RX11, "step", "()I"⟩
abbrev cX11_bare : ByteArray := prog_13_method_32_code
def yX11_bare : MethodName := ⟨RX11, "bare", "()I"⟩
abbrev cX11_always : ByteArray := prog_13_method_33_code
def yX11_always : MethodName := ⟨RX11, "always", "(IZ)I"⟩
abbrev cX11_sign : ByteArray := prog_13_method_34_code
def yX11_sign : MethodName := ⟨RX11, "sign", "()I"⟩
abbrev cX11_sumHere : ByteArray := prog_13_method_35_code
def yX11_sumHere : MethodName := ⟨RX11, "sumHere", "()I"⟩
abbrev cX11_openGroup : ByteArray := prog_13_method_36_code
def yX11_openGroup : MethodName := ⟨RX11, "openGroup", "()V"⟩
abbrev cX11_factor : ByteArray := prog_13_method_37_code
def yX11_factor : MethodName := ⟨RX11, "factor", "(Z)V"⟩
abbrev cX11_holdsHere : ByteArray := prog_13_method_38_code
def yX11_holdsHere : MethodName := ⟨RX11, "holdsHere", "()Z"⟩
abbrev cX11_holdsNow : ByteArray := prog_13_method_39_code
def yX11_holdsNow : MethodName := ⟨RX11, "holdsNow", "(I)Z"⟩
abbrev cX11_stepNow : ByteArray := prog_13_method_40_code
def yX11_stepNow : MethodName := ⟨RX11, "stepNow", "(I)V"⟩
abbrev cX11_healed : ByteArray := prog_13_method_41_code
def yX11_healed : MethodName := ⟨RX11, "healed", "(J)J"⟩
abbrev cX11_cutAt : ByteArray := prog_13_method_42_code
def yX11_cutAt : MethodName := ⟨RX11, "cutAt", "(JI)J"⟩
abbrev cX11_isSteady : ByteArray := prog_13_method_43_code
def yX11_isSteady : MethodName := ⟨RX11, "isSteady", "(J)Z"⟩
abbrev cX11_isPlate : ByteArray := prog_13_method_44_code
def yX11_isPlate : MethodName := ⟨RX11, "isPlate", "(J)Z"⟩
abbrev cX11_holds : ByteArray := prog_13_method_45_code
def yX11_holds : MethodName := ⟨RX11, "holds", "(IJ)I"⟩
abbrev cX11_heal : ByteArray := prog_13_method_46_code
def yX11_heal : MethodName := ⟨RX11, "heal", "(J)J"⟩
abbrev cX11_cut : ByteArray := prog_13_method_47_code
def yX11_cut : MethodName := ⟨RX11, "cut", "(JI)J"⟩
abbrev cX11_steady : ByteArray := prog_13_method_48_code
def yX11_steady : MethodName := ⟨RX11, "steady", "(J)I"⟩
abbrev cX11_rulesNow : ByteArray := prog_13_method_49_code
def yX11_rulesNow : MethodName := ⟨RX11, "rulesNow", "()I"⟩
abbrev cX11_asActs : ByteArray := prog_13_method_50_code
def yX11_asActs : MethodName := ⟨RX11, "asActs", "(I)I"⟩
abbrev cX11_asCode : ByteArray := prog_13_method_51_code
def yX11_asCode : MethodName := ⟨RX11, "asCode", "(I)I"⟩
abbrev cX11_layAll : ByteArray := prog_13_method_52_code
def yX11_layAll : MethodName := ⟨RX11, "layAll", "()V"⟩
abbrev cX11_cutEpochs : ByteArray := prog_13_method_53_code
def yX11_cutEpochs : MethodName := ⟨RX11, "cutEpochs", "(II)V"⟩
abbrev cX11_endEpoch : ByteArray := prog_13_method_54_code
def yX11_endEpoch : MethodName := ⟨RX11, "endEpoch", "(I)V"⟩
abbrev cX11_dueAt : ByteArray := prog_13_method_55_code
def yX11_dueAt : MethodName := ⟨RX11, "dueAt", "(I)I"⟩
abbrev cX11_isBroken : ByteArray := prog_13_method_56_code
def yX11_isBroken : MethodName := ⟨RX11, "isBroken", "(II)Z"⟩
abbrev cX11_findSets : ByteArray := prog_13_method_57_code
def yX11_findSets : MethodName := ⟨RX11, "findSets", "(II)V"⟩
abbrev cX11_isSafe : ByteArray := prog_13_method_58_code
def yX11_isSafe : MethodName := ⟨RX11, "isSafe", "(I)Z"⟩
abbrev cX11_putNothing : ByteArray := prog_13_method_59_code
def yX11_putNothing : MethodName := ⟨RX11, "putNothing", "()V"⟩
abbrev cX11_findPlates : ByteArray := prog_13_method_60_code
def yX11_findPlates : MethodName := ⟨RX11, "findPlates", "(I)V"⟩
abbrev cX11_found : ByteArray := prog_13_method_61_code
def yX11_found : MethodName := ⟨RX11, "found", "(I)I"⟩
abbrev cX11_plate : ByteArray := prog_13_method_62_code
def yX11_plate : MethodName := ⟨RX11, "plate", "(II)J"⟩
abbrev cX11_kept : ByteArray := prog_13_method_63_code
def yX11_kept : MethodName := ⟨RX11, "kept", "(III)I"⟩
abbrev cX11_broken : ByteArray := prog_13_method_64_code
def yX11_broken : MethodName := ⟨RX11, "broken", "(I)I"⟩
abbrev cX11_bounds : ByteArray := prog_13_method_65_code
def yX11_bounds : MethodName := ⟨RX11, "bounds", "(III)I"⟩
abbrev cX11_safe : ByteArray := prog_13_method_66_code
def yX11_safe : MethodName := ⟨RX11, "safe", "()I"⟩
abbrev cX11_shortest : ByteArray := prog_13_method_67_code
def yX11_shortest : MethodName := ⟨RX11, "shortest", "(I)J"⟩
abbrev cX11_leastSet : ByteArray := prog_13_method_68_code
def yX11_leastSet : MethodName := ⟨RX11, "leastSet", "(J)J"⟩
abbrev cX11_cost : ByteArray := prog_13_method_69_code
def yX11_cost : MethodName := ⟨RX11, "cost", "(II)I"⟩
abbrev cX11_putBy : ByteArray := prog_13_method_70_code
def yX11_putBy : MethodName := ⟨RX11, "putBy", "(I)V"⟩
abbrev cX11_fewest : ByteArray := prog_13_method_71_code
def yX11_fewest : MethodName := ⟨RX11, "fewest", "(I)I"⟩
abbrev cX11_needless : ByteArray := prog_13_method_72_code
def yX11_needless : MethodName := ⟨RX11, "needless", "()I"⟩
abbrev cX11_isWriteAt : ByteArray := prog_13_method_73_code
def yX11_isWriteAt : MethodName := ⟨RX11, "isWriteAt", "(I)Z"⟩
abbrev cX11_order : ByteArray := prog_13_method_74_code
def yX11_order : MethodName := ⟨RX11, "order", "(III)I"⟩
abbrev cX11_countOrder : ByteArray := prog_13_method_75_code
def yX11_countOrder : MethodName := ⟨RX11, "countOrder", "(IIIII)I"⟩
abbrev cX11_epochsWithWrites : ByteArray := prog_13_method_76_code
def yX11_epochsWithWrites : MethodName := ⟨RX11, "epochsWithWrites", "()I"⟩
abbrev cX11_writeMany : ByteArray := prog_13_method_77_code
def yX11_writeMany : MethodName := ⟨RX11, "writeMany", "()I"⟩
abbrev cX11_countOf : ByteArray := prog_13_method_78_code
def yX11_countOf : MethodName := ⟨RX11, "countOf", "(I)I"⟩
abbrev cX11_count : ByteArray := prog_13_method_79_code
def yX11_count : MethodName := ⟨RX11, "count", "(I)I"⟩
abbrev cX11_mix : ByteArray := prog_13_method_80_code
def yX11_mix : MethodName := ⟨RX11, "mix", "(J)V"⟩
abbrev cX11_digest : ByteArray := prog_13_method_81_code
def yX11_digest : MethodName := ⟨RX11, "digest", "()J"⟩
def RJ6 : String := "java/lang/Integer"
def TJ6 : u_T := fun k => match k with
  | _ => ("", "", "", false)
def tyJ6 : Nat → FieldType := fun k => match k with
  | _ => .int
abbrev wsJ60 : List Cond := u_ws RJ6 TJ6 0
theorem nmJ6 : ∀ a, a < 0 → ∀ b, b < 0 → a ≠ b → (TJ6 a).2.1 ≠ (TJ6 b).2.1 := by decide +kernel
theorem tyJ6_ok : ∀ k, k < 0 → parseFieldDescriptor (TJ6 k).2.2.1 = some (tyJ6 k) := by decide +kernel
abbrev cJ6_bitCount_0f7a4 : ByteArray := prog_14_method_49_code
def yJ6_bitCount_0f7a4 : MethodName := ⟨RJ6, "bitCount", "(I)I"⟩
def RJ9 : String := "java/lang/Math"
def TJ9 : u_T := fun k => match k with
  | _ => ("", "", "", false)
def tyJ9 : Nat → FieldType := fun k => match k with
  | _ => .int
abbrev wsJ90 : List Cond := u_ws RJ9 TJ9 0
theorem nmJ9 : ∀ a, a < 0 → ∀ b, b < 0 → a ≠ b → (TJ9 a).2.1 ≠ (TJ9 b).2.1 := by decide +kernel
theorem tyJ9_ok : ∀ k, k < 0 → parseFieldDescriptor (TJ9 k).2.2.1 = some (tyJ9 k) := by decide +kernel
abbrev cJ9_max_7cf53 : ByteArray := prog_15_method_65_code
def yJ9_max_7cf53 : MethodName := ⟨RJ9, "max", "(II)I"⟩
abbrev cJ9_min_7cf53 : ByteArray := prog_15_method_69_code
def yJ9_min_7cf53 : MethodName := ⟨RJ9, "min", "(II)I"⟩
def RJ10 : String := "java/lang/System"
def TJ10 : u_T := fun k => match k with
  | _ => ("", "", "", false)
def tyJ10 : Nat → FieldType := fun k => match k with
  | _ => .int
abbrev wsJ100 : List Cond := u_ws RJ10 TJ10 0
theorem nmJ10 : ∀ a, a < 0 → ∀ b, b < 0 → a ≠ b → (TJ10 a).2.1 ≠ (TJ10 b).2.1 := by decide +kernel
theorem tyJ10_ok : ∀ k, k < 0 → parseFieldDescriptor (TJ10 k).2.2.1 = some (tyJ10 k) := by decide +kernel
def RJ7 : String := "java/util/Arrays"
def TJ7 : u_T := fun k => match k with
  | _ => ("", "", "", false)
def tyJ7 : Nat → FieldType := fun k => match k with
  | _ => .int
abbrev wsJ70 : List Cond := u_ws RJ7 TJ7 0
theorem nmJ7 : ∀ a, a < 0 → ∀ b, b < 0 → a ≠ b → (TJ7 a).2.1 ≠ (TJ7 b).2.1 := by decide +kernel
theorem tyJ7_ok : ∀ k, k < 0 → parseFieldDescriptor (TJ7 k).2.2.1 = some (tyJ7 k) := by decide +kernel
abbrev cJ7_fill_53178 : ByteArray := prog_17_method_103_code
def yJ7_fill_53178 : MethodName := ⟨RJ7, "fill", "([II)V"⟩
def RL : String := "LeftStatesLaw"
abbrev cL_law : ByteArray := code
def yL_law : MethodName := ⟨RL, "law", "([I)Z"⟩
abbrev vwCl : List vw_C := [(RX0, TX0, 5), (RX1, TX1, 4), (RX2, TX2, 3), (RX3, TX3, 2), (RX4, TX4, 6), (RX5, TX5, 3), (RX6, TX6, 9), (RX7, TX7, 4), (RX8, TX8, 4), (RX9, TX9, 5), (RX10, TX10, 11), (RX11, TX11, 44)]
end
section
theorem dJ6_bitCount_0f7a4_0 : decode cJ6_bitCount_0f7a4 0 = .ok (.iload_n 0, 1) := by decide +kernel
theorem dJ6_bitCount_0f7a4_1 : decode cJ6_bitCount_0f7a4 1 = .ok (.iload_n 0, 1) := by decide +kernel
theorem dJ6_bitCount_0f7a4_2 : decode cJ6_bitCount_0f7a4 2 = .ok (.iconst 1, 1) := by decide +kernel
theorem dJ6_bitCount_0f7a4_3 : decode cJ6_bitCount_0f7a4 3 = .ok (.iushr, 1) := by decide +kernel
theorem dJ6_bitCount_0f7a4_4 : decode cJ6_bitCount_0f7a4 4 = .ok (.ldc_w 265, 3) := by decide +kernel
theorem dJ6_bitCount_0f7a4_7 : decode cJ6_bitCount_0f7a4 7 = .ok (.iand, 1) := by decide +kernel
theorem dJ6_bitCount_0f7a4_8 : decode cJ6_bitCount_0f7a4 8 = .ok (.isub, 1) := by decide +kernel
theorem dJ6_bitCount_0f7a4_9 : decode cJ6_bitCount_0f7a4 9 = .ok (.istore_n 0, 1) := by decide +kernel
theorem dJ6_bitCount_0f7a4_10 : decode cJ6_bitCount_0f7a4 10 = .ok (.iload_n 0, 1) := by decide +kernel
theorem dJ6_bitCount_0f7a4_11 : decode cJ6_bitCount_0f7a4 11 = .ok (.ldc_w 266, 3) := by decide +kernel
theorem dJ6_bitCount_0f7a4_14 : decode cJ6_bitCount_0f7a4 14 = .ok (.iand, 1) := by decide +kernel
theorem dJ6_bitCount_0f7a4_15 : decode cJ6_bitCount_0f7a4 15 = .ok (.iload_n 0, 1) := by decide +kernel
theorem dJ6_bitCount_0f7a4_16 : decode cJ6_bitCount_0f7a4 16 = .ok (.iconst 2, 1) := by decide +kernel
theorem dJ6_bitCount_0f7a4_17 : decode cJ6_bitCount_0f7a4 17 = .ok (.iushr, 1) := by decide +kernel
theorem dJ6_bitCount_0f7a4_18 : decode cJ6_bitCount_0f7a4 18 = .ok (.ldc_w 266, 3) := by decide +kernel
theorem dJ6_bitCount_0f7a4_21 : decode cJ6_bitCount_0f7a4 21 = .ok (.iand, 1) := by decide +kernel
theorem dJ6_bitCount_0f7a4_22 : decode cJ6_bitCount_0f7a4 22 = .ok (.iadd, 1) := by decide +kernel
theorem dJ6_bitCount_0f7a4_23 : decode cJ6_bitCount_0f7a4 23 = .ok (.istore_n 0, 1) := by decide +kernel
theorem dJ6_bitCount_0f7a4_24 : decode cJ6_bitCount_0f7a4 24 = .ok (.iload_n 0, 1) := by decide +kernel
theorem dJ6_bitCount_0f7a4_25 : decode cJ6_bitCount_0f7a4 25 = .ok (.iload_n 0, 1) := by decide +kernel
theorem dJ6_bitCount_0f7a4_26 : decode cJ6_bitCount_0f7a4 26 = .ok (.iconst 4, 1) := by decide +kernel
theorem dJ6_bitCount_0f7a4_27 : decode cJ6_bitCount_0f7a4 27 = .ok (.iushr, 1) := by decide +kernel
theorem dJ6_bitCount_0f7a4_28 : decode cJ6_bitCount_0f7a4 28 = .ok (.iadd, 1) := by decide +kernel
theorem dJ6_bitCount_0f7a4_29 : decode cJ6_bitCount_0f7a4 29 = .ok (.ldc_w 267, 3) := by decide +kernel
theorem dJ6_bitCount_0f7a4_32 : decode cJ6_bitCount_0f7a4 32 = .ok (.iand, 1) := by decide +kernel
theorem dJ6_bitCount_0f7a4_33 : decode cJ6_bitCount_0f7a4 33 = .ok (.istore_n 0, 1) := by decide +kernel
theorem dJ6_bitCount_0f7a4_34 : decode cJ6_bitCount_0f7a4 34 = .ok (.iload_n 0, 1) := by decide +kernel
theorem dJ6_bitCount_0f7a4_35 : decode cJ6_bitCount_0f7a4 35 = .ok (.iload_n 0, 1) := by decide +kernel
theorem dJ6_bitCount_0f7a4_36 : decode cJ6_bitCount_0f7a4 36 = .ok (.bipush 8, 2) := by decide +kernel
theorem dJ6_bitCount_0f7a4_38 : decode cJ6_bitCount_0f7a4 38 = .ok (.iushr, 1) := by decide +kernel
theorem dJ6_bitCount_0f7a4_39 : decode cJ6_bitCount_0f7a4 39 = .ok (.iadd, 1) := by decide +kernel
theorem dJ6_bitCount_0f7a4_40 : decode cJ6_bitCount_0f7a4 40 = .ok (.istore_n 0, 1) := by decide +kernel
theorem dJ6_bitCount_0f7a4_41 : decode cJ6_bitCount_0f7a4 41 = .ok (.iload_n 0, 1) := by decide +kernel
theorem dJ6_bitCount_0f7a4_42 : decode cJ6_bitCount_0f7a4 42 = .ok (.iload_n 0, 1) := by decide +kernel
theorem dJ6_bitCount_0f7a4_43 : decode cJ6_bitCount_0f7a4 43 = .ok (.bipush 16, 2) := by decide +kernel
theorem dJ6_bitCount_0f7a4_45 : decode cJ6_bitCount_0f7a4 45 = .ok (.iushr, 1) := by decide +kernel
theorem dJ6_bitCount_0f7a4_46 : decode cJ6_bitCount_0f7a4 46 = .ok (.iadd, 1) := by decide +kernel
theorem dJ6_bitCount_0f7a4_47 : decode cJ6_bitCount_0f7a4 47 = .ok (.istore_n 0, 1) := by decide +kernel
theorem dJ6_bitCount_0f7a4_48 : decode cJ6_bitCount_0f7a4 48 = .ok (.iload_n 0, 1) := by decide +kernel
theorem dJ6_bitCount_0f7a4_49 : decode cJ6_bitCount_0f7a4 49 = .ok (.bipush 63, 2) := by decide +kernel
theorem dJ6_bitCount_0f7a4_51 : decode cJ6_bitCount_0f7a4 51 = .ok (.iand, 1) := by decide +kernel
theorem dJ6_bitCount_0f7a4_52 : decode cJ6_bitCount_0f7a4 52 = .ok (.ireturn, 1) := by decide +kernel
theorem dJ7_fill_53178_0 : decode cJ7_fill_53178 0 = .ok (.iconst 0, 1) := by decide +kernel
theorem dJ7_fill_53178_1 : decode cJ7_fill_53178 1 = .ok (.istore_n 2, 1) := by decide +kernel
theorem dJ7_fill_53178_2 : decode cJ7_fill_53178 2 = .ok (.aload_n 0, 1) := by decide +kernel
theorem dJ7_fill_53178_3 : decode cJ7_fill_53178 3 = .ok (.arraylength, 1) := by decide +kernel
theorem dJ7_fill_53178_4 : decode cJ7_fill_53178 4 = .ok (.istore_n 3, 1) := by decide +kernel
theorem dJ7_fill_53178_5 : decode cJ7_fill_53178 5 = .ok (.iload_n 2, 1) := by decide +kernel
theorem dJ7_fill_53178_6 : decode cJ7_fill_53178 6 = .ok (.iload_n 3, 1) := by decide +kernel
theorem dJ7_fill_53178_7 : decode cJ7_fill_53178 7 = .ok (.if_icmp .ge 13, 3) := by decide +kernel
theorem dJ7_fill_53178_10 : decode cJ7_fill_53178 10 = .ok (.aload_n 0, 1) := by decide +kernel
theorem dJ7_fill_53178_11 : decode cJ7_fill_53178 11 = .ok (.iload_n 2, 1) := by decide +kernel
theorem dJ7_fill_53178_12 : decode cJ7_fill_53178 12 = .ok (.iload_n 1, 1) := by decide +kernel
theorem dJ7_fill_53178_13 : decode cJ7_fill_53178 13 = .ok (.iastore, 1) := by decide +kernel
theorem dJ7_fill_53178_14 : decode cJ7_fill_53178 14 = .ok (.iinc 2 1, 3) := by decide +kernel
theorem dJ7_fill_53178_17 : decode cJ7_fill_53178 17 = .ok (.goto (-12), 3) := by decide +kernel
theorem dJ7_fill_53178_20 : decode cJ7_fill_53178 20 = .ok (.return_, 1) := by decide +kernel
theorem dJ9_max_7cf53_0 : decode cJ9_max_7cf53 0 = .ok (.iload_n 0, 1) := by decide +kernel
theorem dJ9_max_7cf53_1 : decode cJ9_max_7cf53 1 = .ok (.iload_n 1, 1) := by decide +kernel
theorem dJ9_max_7cf53_2 : decode cJ9_max_7cf53 2 = .ok (.if_icmp .lt 7, 3) := by decide +kernel
theorem dJ9_max_7cf53_5 : decode cJ9_max_7cf53 5 = .ok (.iload_n 0, 1) := by decide +kernel
theorem dJ9_max_7cf53_6 : decode cJ9_max_7cf53 6 = .ok (.goto 4, 3) := by decide +kernel
theorem dJ9_max_7cf53_9 : decode cJ9_max_7cf53 9 = .ok (.iload_n 1, 1) := by decide +kernel
theorem dJ9_max_7cf53_10 : decode cJ9_max_7cf53 10 = .ok (.ireturn, 1) := by decide +kernel
theorem dJ9_min_7cf53_0 : decode cJ9_min_7cf53 0 = .ok (.iload_n 0, 1) := by decide +kernel
theorem dJ9_min_7cf53_1 : decode cJ9_min_7cf53 1 = .ok (.iload_n 1, 1) := by decide +kernel
theorem dJ9_min_7cf53_2 : decode cJ9_min_7cf53 2 = .ok (.if_icmp .gt 7, 3) := by decide +kernel
theorem dJ9_min_7cf53_5 : decode cJ9_min_7cf53 5 = .ok (.iload_n 0, 1) := by decide +kernel
theorem dJ9_min_7cf53_6 : decode cJ9_min_7cf53 6 = .ok (.goto 4, 3) := by decide +kernel
theorem dJ9_min_7cf53_9 : decode cJ9_min_7cf53 9 = .ok (.iload_n 1, 1) := by decide +kernel
theorem dJ9_min_7cf53_10 : decode cJ9_min_7cf53 10 = .ok (.ireturn, 1) := by decide +kernel
theorem dX0_init_0 : decode cX0_init 0 = .ok (.aload_n 0, 1) := by decide +kernel
theorem dX0_init_1 : decode cX0_init 1 = .ok (.invokespecial 3, 3) := by decide +kernel
theorem dX0_init_4 : decode cX0_init 4 = .ok (.return_, 1) := by decide +kernel
theorem dX0_become_0 : decode cX0_become 0 = .ok (.aload_n 0, 1) := by decide +kernel
theorem dX0_become_1 : decode cX0_become 1 = .ok (.iload_n 1, 1) := by decide +kernel
theorem dX0_become_2 : decode cX0_become 2 = .ok (.putfield 9, 3) := by decide +kernel
theorem dX0_become_5 : decode cX0_become 5 = .ok (.aload_n 0, 1) := by decide +kernel
theorem dX0_become_6 : decode cX0_become 6 = .ok (.iload_n 2, 1) := by decide +kernel
theorem dX0_become_7 : decode cX0_become 7 = .ok (.putfield 15, 3) := by decide +kernel
theorem dX0_become_10 : decode cX0_become 10 = .ok (.aload_n 0, 1) := by decide +kernel
theorem dX0_become_11 : decode cX0_become 11 = .ok (.iload_n 3, 1) := by decide +kernel
theorem dX0_become_12 : decode cX0_become 12 = .ok (.putfield 18, 3) := by decide +kernel
theorem dX0_become_15 : decode cX0_become 15 = .ok (.aload_n 0, 1) := by decide +kernel
theorem dX0_become_16 : decode cX0_become 16 = .ok (.iload 4, 2) := by decide +kernel
theorem dX0_become_18 : decode cX0_become 18 = .ok (.putfield 21, 3) := by decide +kernel
theorem dX0_become_21 : decode cX0_become 21 = .ok (.aload_n 0, 1) := by decide +kernel
theorem dX0_become_22 : decode cX0_become 22 = .ok (.iload 5, 2) := by decide +kernel
theorem dX0_become_24 : decode cX0_become 24 = .ok (.putfield 24, 3) := by decide +kernel
theorem dX0_become_27 : decode cX0_become 27 = .ok (.return_, 1) := by decide +kernel
theorem dX0_writes_0 : decode cX0_writes 0 = .ok (.aload_n 0, 1) := by decide +kernel
theorem dX0_writes_1 : decode cX0_writes 1 = .ok (.getfield 9, 3) := by decide +kernel
theorem dX0_writes_4 : decode cX0_writes 4 = .ok (.ifCond .eq 11, 3) := by decide +kernel
theorem dX0_writes_7 : decode cX0_writes 7 = .ok (.aload_n 0, 1) := by decide +kernel
theorem dX0_writes_8 : decode cX0_writes 8 = .ok (.getfield 9, 3) := by decide +kernel
theorem dX0_writes_11 : decode cX0_writes 11 = .ok (.iconst 1, 1) := by decide +kernel
theorem dX0_writes_12 : decode cX0_writes 12 = .ok (.if_icmp .ne 7, 3) := by decide +kernel
theorem dX0_writes_15 : decode cX0_writes 15 = .ok (.iconst 1, 1) := by decide +kernel
theorem dX0_writes_16 : decode cX0_writes 16 = .ok (.goto 4, 3) := by decide +kernel
theorem dX0_writes_19 : decode cX0_writes 19 = .ok (.iconst 0, 1) := by decide +kernel
theorem dX0_writes_20 : decode cX0_writes 20 = .ok (.ireturn, 1) := by decide +kernel
theorem dX0_endsEpoch_0 : decode cX0_endsEpoch 0 = .ok (.aload_n 0, 1) := by decide +kernel
theorem dX0_endsEpoch_1 : decode cX0_endsEpoch 1 = .ok (.getfield 9, 3) := by decide +kernel
theorem dX0_endsEpoch_4 : decode cX0_endsEpoch 4 = .ok (.iconst 2, 1) := by decide +kernel
theorem dX0_endsEpoch_5 : decode cX0_endsEpoch 5 = .ok (.if_icmp .eq 11, 3) := by decide +kernel
theorem dX0_endsEpoch_8 : decode cX0_endsEpoch 8 = .ok (.aload_n 0, 1) := by decide +kernel
theorem dX0_endsEpoch_9 : decode cX0_endsEpoch 9 = .ok (.getfield 9, 3) := by decide +kernel
theorem dX0_endsEpoch_12 : decode cX0_endsEpoch 12 = .ok (.iconst 3, 1) := by decide +kernel
theorem dX0_endsEpoch_13 : decode cX0_endsEpoch 13 = .ok (.if_icmp .ne 7, 3) := by decide +kernel
theorem dX0_endsEpoch_16 : decode cX0_endsEpoch 16 = .ok (.iconst 1, 1) := by decide +kernel
theorem dX0_endsEpoch_17 : decode cX0_endsEpoch 17 = .ok (.goto 4, 3) := by decide +kernel
theorem dX0_endsEpoch_20 : decode cX0_endsEpoch 20 = .ok (.iconst 0, 1) := by decide +kernel
theorem dX0_endsEpoch_21 : decode cX0_endsEpoch 21 = .ok (.ireturn, 1) := by decide +kernel
theorem dX0_part_0 : decode cX0_part 0 = .ok (.iload_n 1, 1) := by decide +kernel
theorem dX0_part_1 : decode cX0_part 1 = .ok (.tableswitch 51 0 3 #[31, 36, 41, 46], 31) := by decide +kernel
theorem dX0_part_32 : decode cX0_part 32 = .ok (.aload_n 0, 1) := by decide +kernel
theorem dX0_part_33 : decode cX0_part 33 = .ok (.getfield 9, 3) := by decide +kernel
theorem dX0_part_36 : decode cX0_part 36 = .ok (.ireturn, 1) := by decide +kernel
theorem dX0_part_37 : decode cX0_part 37 = .ok (.aload_n 0, 1) := by decide +kernel
theorem dX0_part_38 : decode cX0_part 38 = .ok (.getfield 15, 3) := by decide +kernel
theorem dX0_part_41 : decode cX0_part 41 = .ok (.ireturn, 1) := by decide +kernel
theorem dX0_part_42 : decode cX0_part 42 = .ok (.aload_n 0, 1) := by decide +kernel
theorem dX0_part_43 : decode cX0_part 43 = .ok (.getfield 18, 3) := by decide +kernel
theorem dX0_part_46 : decode cX0_part 46 = .ok (.ireturn, 1) := by decide +kernel
theorem dX0_part_47 : decode cX0_part 47 = .ok (.aload_n 0, 1) := by decide +kernel
theorem dX0_part_48 : decode cX0_part 48 = .ok (.getfield 21, 3) := by decide +kernel
theorem dX0_part_51 : decode cX0_part 51 = .ok (.ireturn, 1) := by decide +kernel
theorem dX0_part_52 : decode cX0_part 52 = .ok (.aload_n 0, 1) := by decide +kernel
theorem dX0_part_53 : decode cX0_part 53 = .ok (.getfield 24, 3) := by decide +kernel
theorem dX0_part_56 : decode cX0_part 56 = .ok (.ireturn, 1) := by decide +kernel
theorem dX0_sectorBits_0 : decode cX0_sectorBits 0 = .ok (.aload_n 0, 1) := by decide +kernel
theorem dX0_sectorBits_1 : decode cX0_sectorBits 1 = .ok (.getfield 9, 3) := by decide +kernel
theorem dX0_sectorBits_4 : decode cX0_sectorBits 4 = .ok (.iconst 1, 1) := by decide +kernel
theorem dX0_sectorBits_5 : decode cX0_sectorBits 5 = .ok (.if_icmp .ne 19, 3) := by decide +kernel
theorem dX0_sectorBits_8 : decode cX0_sectorBits 8 = .ok (.iconst 1, 1) := by decide +kernel
theorem dX0_sectorBits_9 : decode cX0_sectorBits 9 = .ok (.aload_n 0, 1) := by decide +kernel
theorem dX0_sectorBits_10 : decode cX0_sectorBits 10 = .ok (.getfield 15, 3) := by decide +kernel
theorem dX0_sectorBits_13 : decode cX0_sectorBits 13 = .ok (.ishl, 1) := by decide +kernel
theorem dX0_sectorBits_14 : decode cX0_sectorBits 14 = .ok (.iconst 1, 1) := by decide +kernel
theorem dX0_sectorBits_15 : decode cX0_sectorBits 15 = .ok (.aload_n 0, 1) := by decide +kernel
theorem dX0_sectorBits_16 : decode cX0_sectorBits 16 = .ok (.getfield 21, 3) := by decide +kernel
theorem dX0_sectorBits_19 : decode cX0_sectorBits 19 = .ok (.ishl, 1) := by decide +kernel
theorem dX0_sectorBits_20 : decode cX0_sectorBits 20 = .ok (.ior, 1) := by decide +kernel
theorem dX0_sectorBits_21 : decode cX0_sectorBits 21 = .ok (.goto 9, 3) := by decide +kernel
theorem dX0_sectorBits_24 : decode cX0_sectorBits 24 = .ok (.iconst 1, 1) := by decide +kernel
theorem dX0_sectorBits_25 : decode cX0_sectorBits 25 = .ok (.aload_n 0, 1) := by decide +kernel
theorem dX0_sectorBits_26 : decode cX0_sectorBits 26 = .ok (.getfield 15, 3) := by decide +kernel
theorem dX0_sectorBits_29 : decode cX0_sectorBits 29 = .ok (.ishl, 1) := by decide +kernel
theorem dX0_sectorBits_30 : decode cX0_sectorBits 30 = .ok (.ireturn, 1) := by decide +kernel
theorem dX0_laidOn_0 : decode cX0_laidOn 0 = .ok (.lload_n 1, 1) := by decide +kernel
theorem dX0_laidOn_1 : decode cX0_laidOn 1 = .ok (.aload_n 0, 1) := by decide +kernel
theorem dX0_laidOn_2 : decode cX0_laidOn 2 = .ok (.getfield 15, 3) := by decide +kernel
theorem dX0_laidOn_5 : decode cX0_laidOn 5 = .ok (.aload_n 0, 1) := by decide +kernel
theorem dX0_laidOn_6 : decode cX0_laidOn 6 = .ok (.getfield 18, 3) := by decide +kernel
theorem dX0_laidOn_9 : decode cX0_laidOn 9 = .ok (.invokestatic 27, 3) := by decide +kernel
theorem dX0_laidOn_12 : decode cX0_laidOn 12 = .ok (.lstore_n 3, 1) := by decide +kernel
theorem dX0_laidOn_13 : decode cX0_laidOn 13 = .ok (.aload_n 0, 1) := by decide +kernel
theorem dX0_laidOn_14 : decode cX0_laidOn 14 = .ok (.getfield 9, 3) := by decide +kernel
theorem dX0_laidOn_17 : decode cX0_laidOn 17 = .ok (.iconst 1, 1) := by decide +kernel
theorem dX0_laidOn_18 : decode cX0_laidOn 18 = .ok (.if_icmp .ne 18, 3) := by decide +kernel
theorem dX0_laidOn_21 : decode cX0_laidOn 21 = .ok (.lload_n 3, 1) := by decide +kernel
theorem dX0_laidOn_22 : decode cX0_laidOn 22 = .ok (.aload_n 0, 1) := by decide +kernel
theorem dX0_laidOn_23 : decode cX0_laidOn 23 = .ok (.getfield 21, 3) := by decide +kernel
theorem dX0_laidOn_26 : decode cX0_laidOn 26 = .ok (.aload_n 0, 1) := by decide +kernel
theorem dX0_laidOn_27 : decode cX0_laidOn 27 = .ok (.getfield 24, 3) := by decide +kernel
theorem dX0_laidOn_30 : decode cX0_laidOn 30 = .ok (.invokestatic 27, 3) := by decide +kernel
theorem dX0_laidOn_33 : decode cX0_laidOn 33 = .ok (.goto 4, 3) := by decide +kernel
theorem dX0_laidOn_36 : decode cX0_laidOn 36 = .ok (.lload_n 3, 1) := by decide +kernel
theorem dX0_laidOn_37 : decode cX0_laidOn 37 = .ok (.lreturn, 1) := by decide +kernel
theorem dX1_init_0 : decode cX1_init 0 = .ok (.aload_n 0, 1) := by decide +kernel
theorem dX1_init_1 : decode cX1_init 1 = .ok (.invokespecial 3, 3) := by decide +kernel
theorem dX1_init_4 : decode cX1_init 4 = .ok (.aload_n 0, 1) := by decide +kernel
theorem dX1_init_5 : decode cX1_init 5 = .ok (.sipush 4096, 3) := by decide +kernel
theorem dX1_init_8 : decode cX1_init 8 = .ok (.newarray .long, 2) := by decide +kernel
theorem dX1_init_10 : decode cX1_init 10 = .ok (.putfield 9, 3) := by decide +kernel
theorem dX1_init_13 : decode cX1_init 13 = .ok (.aload_n 0, 1) := by decide +kernel
theorem dX1_init_14 : decode cX1_init 14 = .ok (.sipush 4096, 3) := by decide +kernel
theorem dX1_init_17 : decode cX1_init 17 = .ok (.newarray .int, 2) := by decide +kernel
theorem dX1_init_19 : decode cX1_init 19 = .ok (.putfield 15, 3) := by decide +kernel
theorem dX1_init_22 : decode cX1_init 22 = .ok (.aload_n 0, 1) := by decide +kernel
theorem dX1_init_23 : decode cX1_init 23 = .ok (.iconst 0, 1) := by decide +kernel
theorem dX1_init_24 : decode cX1_init 24 = .ok (.putfield 19, 3) := by decide +kernel
theorem dX1_init_27 : decode cX1_init 27 = .ok (.aload_n 0, 1) := by decide +kernel
theorem dX1_init_28 : decode cX1_init 28 = .ok (.iconst (-1), 1) := by decide +kernel
theorem dX1_init_29 : decode cX1_init 29 = .ok (.putfield 23, 3) := by decide +kernel
theorem dX1_init_32 : decode cX1_init 32 = .ok (.return_, 1) := by decide +kernel
theorem dX1_forget_0 : decode cX1_forget 0 = .ok (.aload_n 0, 1) := by decide +kernel
theorem dX1_forget_1 : decode cX1_forget 1 = .ok (.iconst (-1), 1) := by decide +kernel
theorem dX1_forget_2 : decode cX1_forget 2 = .ok (.putfield 23, 3) := by decide +kernel
theorem dX1_forget_5 : decode cX1_forget 5 = .ok (.return_, 1) := by decide +kernel
theorem dX1_fill_0 : decode cX1_fill 0 = .ok (.aload_n 0, 1) := by decide +kernel
theorem dX1_fill_1 : decode cX1_fill 1 = .ok (.getfield 23, 3) := by decide +kernel
theorem dX1_fill_4 : decode cX1_fill 4 = .ok (.iload_n 2, 1) := by decide +kernel
theorem dX1_fill_5 : decode cX1_fill 5 = .ok (.if_icmp .ne 4, 3) := by decide +kernel
theorem dX1_fill_8 : decode cX1_fill 8 = .ok (.return_, 1) := by decide +kernel
theorem dX1_fill_9 : decode cX1_fill 9 = .ok (.aload_n 0, 1) := by decide +kernel
theorem dX1_fill_10 : decode cX1_fill 10 = .ok (.aload_n 1, 1) := by decide +kernel
theorem dX1_fill_11 : decode cX1_fill 11 = .ok (.iload_n 2, 1) := by decide +kernel
theorem dX1_fill_12 : decode cX1_fill 12 = .ok (.invokevirtual 26, 3) := by decide +kernel
theorem dX1_fill_15 : decode cX1_fill 15 = .ok (.aload_n 0, 1) := by decide +kernel
theorem dX1_fill_16 : decode cX1_fill 16 = .ok (.invokevirtual 30, 3) := by decide +kernel
theorem dX1_fill_19 : decode cX1_fill 19 = .ok (.aload_n 0, 1) := by decide +kernel
theorem dX1_fill_20 : decode cX1_fill 20 = .ok (.invokevirtual 33, 3) := by decide +kernel
theorem dX1_fill_23 : decode cX1_fill 23 = .ok (.aload_n 0, 1) := by decide +kernel
theorem dX1_fill_24 : decode cX1_fill 24 = .ok (.iload_n 2, 1) := by decide +kernel
theorem dX1_fill_25 : decode cX1_fill 25 = .ok (.putfield 23, 3) := by decide +kernel
theorem dX1_fill_28 : decode cX1_fill 28 = .ok (.return_, 1) := by decide +kernel
theorem dX1_gather_0 : decode cX1_gather 0 = .ok (.aload_n 1, 1) := by decide +kernel
theorem dX1_gather_1 : decode cX1_gather 1 = .ok (.iload_n 2, 1) := by decide +kernel
theorem dX1_gather_2 : decode cX1_gather 2 = .ok (.invokevirtual 36, 3) := by decide +kernel
theorem dX1_gather_5 : decode cX1_gather 5 = .ok (.istore_n 3, 1) := by decide +kernel
theorem dX1_gather_6 : decode cX1_gather 6 = .ok (.aload_n 1, 1) := by decide +kernel
theorem dX1_gather_7 : decode cX1_gather 7 = .ok (.iconst 0, 1) := by decide +kernel
theorem dX1_gather_8 : decode cX1_gather 8 = .ok (.iload_n 3, 1) := by decide +kernel
theorem dX1_gather_9 : decode cX1_gather 9 = .ok (.invokevirtual 42, 3) := by decide +kernel
theorem dX1_gather_12 : decode cX1_gather 12 = .ok (.istore 4, 2) := by decide +kernel
theorem dX1_gather_14 : decode cX1_gather 14 = .ok (.aload_n 0, 1) := by decide +kernel
theorem dX1_gather_15 : decode cX1_gather 15 = .ok (.getfield 9, 3) := by decide +kernel
theorem dX1_gather_18 : decode cX1_gather 18 = .ok (.iconst 0, 1) := by decide +kernel
theorem dX1_gather_19 : decode cX1_gather 19 = .ok (.aload_n 1, 1) := by decide +kernel
theorem dX1_gather_20 : decode cX1_gather 20 = .ok (.iload 4, 2) := by decide +kernel
theorem dX1_gather_22 : decode cX1_gather 22 = .ok (.invokevirtual 46, 3) := by decide +kernel
theorem dX1_gather_25 : decode cX1_gather 25 = .ok (.lastore, 1) := by decide +kernel
theorem dX1_gather_26 : decode cX1_gather 26 = .ok (.aload_n 0, 1) := by decide +kernel
theorem dX1_gather_27 : decode cX1_gather 27 = .ok (.getfield 15, 3) := by decide +kernel
theorem dX1_gather_30 : decode cX1_gather 30 = .ok (.iconst 0, 1) := by decide +kernel
theorem dX1_gather_31 : decode cX1_gather 31 = .ok (.iload 4, 2) := by decide +kernel
theorem dX1_gather_33 : decode cX1_gather 33 = .ok (.iastore, 1) := by decide +kernel
theorem dX1_gather_34 : decode cX1_gather 34 = .ok (.aload_n 0, 1) := by decide +kernel
theorem dX1_gather_35 : decode cX1_gather 35 = .ok (.iconst 1, 1) := by decide +kernel
theorem dX1_gather_36 : decode cX1_gather 36 = .ok (.putfield 19, 3) := by decide +kernel
theorem dX1_gather_39 : decode cX1_gather 39 = .ok (.iconst 0, 1) := by decide +kernel
theorem dX1_gather_40 : decode cX1_gather 40 = .ok (.istore 5, 2) := by decide +kernel
theorem dX1_gather_42 : decode cX1_gather 42 = .ok (.iload_n 3, 1) := by decide +kernel
theorem dX1_gather_43 : decode cX1_gather 43 = .ok (.istore 6, 2) := by decide +kernel
theorem dX1_gather_45 : decode cX1_gather 45 = .ok (.iload 6, 2) := by decide +kernel
theorem dX1_gather_47 : decode cX1_gather 47 = .ok (.iload_n 2, 1) := by decide +kernel
theorem dX1_gather_48 : decode cX1_gather 48 = .ok (.if_icmp .ge 56, 3) := by decide +kernel
theorem dX1_gather_51 : decode cX1_gather 51 = .ok (.aload_n 1, 1) := by decide +kernel
theorem dX1_gather_52 : decode cX1_gather 52 = .ok (.getfield 50, 3) := by decide +kernel
theorem dX1_gather_55 : decode cX1_gather 55 = .ok (.iload 6, 2) := by decide +kernel
theorem dX1_gather_57 : decode cX1_gather 57 = .ok (.aaload, 1) := by decide +kernel
theorem dX1_gather_58 : decode cX1_gather 58 = .ok (.astore 7, 2) := by decide +kernel
theorem dX1_gather_60 : decode cX1_gather 60 = .ok (.aload 7, 2) := by decide +kernel
theorem dX1_gather_62 : decode cX1_gather 62 = .ok (.invokevirtual 54, 3) := by decide +kernel
theorem dX1_gather_65 : decode cX1_gather 65 = .ok (.ifCond .eq 16, 3) := by decide +kernel
theorem dX1_gather_68 : decode cX1_gather 68 = .ok (.aload_n 0, 1) := by decide +kernel
theorem dX1_gather_69 : decode cX1_gather 69 = .ok (.aload 7, 2) := by decide +kernel
theorem dX1_gather_71 : decode cX1_gather 71 = .ok (.iload 6, 2) := by decide +kernel
theorem dX1_gather_73 : decode cX1_gather 73 = .ok (.iload 5, 2) := by decide +kernel
theorem dX1_gather_75 : decode cX1_gather 75 = .ok (.invokevirtual 60, 3) := by decide +kernel
theorem dX1_gather_78 : decode cX1_gather 78 = .ok (.goto 20, 3) := by decide +kernel
theorem dX1_gather_81 : decode cX1_gather 81 = .ok (.aload 7, 2) := by decide +kernel
theorem dX1_gather_83 : decode cX1_gather 83 = .ok (.getfield 64, 3) := by decide +kernel
theorem dX1_gather_86 : decode cX1_gather 86 = .ok (.iconst 2, 1) := by decide +kernel
theorem dX1_gather_87 : decode cX1_gather 87 = .ok (.if_icmp .ne 11, 3) := by decide +kernel
theorem dX1_gather_90 : decode cX1_gather 90 = .ok (.aload_n 0, 1) := by decide +kernel
theorem dX1_gather_91 : decode cX1_gather 91 = .ok (.getfield 19, 3) := by decide +kernel
theorem dX1_gather_94 : decode cX1_gather 94 = .ok (.iconst 1, 1) := by decide +kernel
theorem dX1_gather_95 : decode cX1_gather 95 = .ok (.isub, 1) := by decide +kernel
theorem dX1_gather_96 : decode cX1_gather 96 = .ok (.istore 5, 2) := by decide +kernel
theorem dX1_gather_98 : decode cX1_gather 98 = .ok (.iinc 6 1, 3) := by decide +kernel
theorem dX1_gather_101 : decode cX1_gather 101 = .ok (.goto (-56), 3) := by decide +kernel
theorem dX1_gather_104 : decode cX1_gather 104 = .ok (.return_, 1) := by decide +kernel
theorem dX1_addReaching_0 : decode cX1_addReaching 0 = .ok (.aload_n 0, 1) := by decide +kernel
theorem dX1_addReaching_1 : decode cX1_addReaching 1 = .ok (.getfield 19, 3) := by decide +kernel
theorem dX1_addReaching_4 : decode cX1_addReaching 4 = .ok (.istore 4, 2) := by decide +kernel
theorem dX1_addReaching_6 : decode cX1_addReaching 6 = .ok (.iload_n 3, 1) := by decide +kernel
theorem dX1_addReaching_7 : decode cX1_addReaching 7 = .ok (.istore 5, 2) := by decide +kernel
theorem dX1_addReaching_9 : decode cX1_addReaching 9 = .ok (.iload 5, 2) := by decide +kernel
theorem dX1_addReaching_11 : decode cX1_addReaching 11 = .ok (.iload 4, 2) := by decide +kernel
theorem dX1_addReaching_13 : decode cX1_addReaching 13 = .ok (.if_icmp .ge 69, 3) := by decide +kernel
theorem dX1_addReaching_16 : decode cX1_addReaching 16 = .ok (.aload_n 0, 1) := by decide +kernel
theorem dX1_addReaching_17 : decode cX1_addReaching 17 = .ok (.getfield 19, 3) := by decide +kernel
theorem dX1_addReaching_20 : decode cX1_addReaching 20 = .ok (.sipush 4096, 3) := by decide +kernel
theorem dX1_addReaching_23 : decode cX1_addReaching 23 = .ok (.if_icmp .ge 59, 3) := by decide +kernel
theorem dX1_addReaching_26 : decode cX1_addReaching 26 = .ok (.aload_n 0, 1) := by decide +kernel
theorem dX1_addReaching_27 : decode cX1_addReaching 27 = .ok (.getfield 9, 3) := by decide +kernel
theorem dX1_addReaching_30 : decode cX1_addReaching 30 = .ok (.aload_n 0, 1) := by decide +kernel
theorem dX1_addReaching_31 : decode cX1_addReaching 31 = .ok (.getfield 19, 3) := by decide +kernel
theorem dX1_addReaching_34 : decode cX1_addReaching 34 = .ok (.aload_n 1, 1) := by decide +kernel
theorem dX1_addReaching_35 : decode cX1_addReaching 35 = .ok (.aload_n 0, 1) := by decide +kernel
theorem dX1_addReaching_36 : decode cX1_addReaching 36 = .ok (.getfield 9, 3) := by decide +kernel
theorem dX1_addReaching_39 : decode cX1_addReaching 39 = .ok (.iload 5, 2) := by decide +kernel
theorem dX1_addReaching_41 : decode cX1_addReaching 41 = .ok (.laload, 1) := by decide +kernel
theorem dX1_addReaching_42 : decode cX1_addReaching 42 = .ok (.invokevirtual 66, 3) := by decide +kernel
theorem dX1_addReaching_45 : decode cX1_addReaching 45 = .ok (.lastore, 1) := by decide +kernel
theorem dX1_addReaching_46 : decode cX1_addReaching 46 = .ok (.aload_n 0, 1) := by decide +kernel
theorem dX1_addReaching_47 : decode cX1_addReaching 47 = .ok (.getfield 15, 3) := by decide +kernel
theorem dX1_addReaching_50 : decode cX1_addReaching 50 = .ok (.aload_n 0, 1) := by decide +kernel
theorem dX1_addReaching_51 : decode cX1_addReaching 51 = .ok (.getfield 19, 3) := by decide +kernel
theorem dX1_addReaching_54 : decode cX1_addReaching 54 = .ok (.aload_n 0, 1) := by decide +kernel
theorem dX1_addReaching_55 : decode cX1_addReaching 55 = .ok (.getfield 15, 3) := by decide +kernel
theorem dX1_addReaching_58 : decode cX1_addReaching 58 = .ok (.iload 5, 2) := by decide +kernel
theorem dX1_addReaching_60 : decode cX1_addReaching 60 = .ok (.iaload, 1) := by decide +kernel
theorem dX1_addReaching_61 : decode cX1_addReaching 61 = .ok (.iconst 1, 1) := by decide +kernel
theorem dX1_addReaching_62 : decode cX1_addReaching 62 = .ok (.iload_n 2, 1) := by decide +kernel
theorem dX1_addReaching_63 : decode cX1_addReaching 63 = .ok (.ishl, 1) := by decide +kernel
theorem dX1_addReaching_64 : decode cX1_addReaching 64 = .ok (.ior, 1) := by decide +kernel
theorem dX1_addReaching_65 : decode cX1_addReaching 65 = .ok (.iastore, 1) := by decide +kernel
theorem dX1_addReaching_66 : decode cX1_addReaching 66 = .ok (.aload_n 0, 1) := by decide +kernel
theorem dX1_addReaching_67 : decode cX1_addReaching 67 = .ok (.dup, 1) := by decide +kernel
theorem dX1_addReaching_68 : decode cX1_addReaching 68 = .ok (.getfield 19, 3) := by decide +kernel
theorem dX1_addReaching_71 : decode cX1_addReaching 71 = .ok (.iconst 1, 1) := by decide +kernel
theorem dX1_addReaching_72 : decode cX1_addReaching 72 = .ok (.iadd, 1) := by decide +kernel
theorem dX1_addReaching_73 : decode cX1_addReaching 73 = .ok (.putfield 19, 3) := by decide +kernel
theorem dX1_addReaching_76 : decode cX1_addReaching 76 = .ok (.iinc 5 1, 3) := by decide +kernel
theorem dX1_addReaching_79 : decode cX1_addReaching 79 = .ok (.goto (-70), 3) := by decide +kernel
theorem dX1_addReaching_82 : decode cX1_addReaching 82 = .ok (.return_, 1) := by decide +kernel
theorem dX1_sort_0 : decode cX1_sort 0 = .ok (.aload_n 0, 1) := by decide +kernel
theorem dX1_sort_1 : decode cX1_sort 1 = .ok (.getfield 19, 3) := by decide +kernel
theorem dX1_sort_4 : decode cX1_sort 4 = .ok (.iconst 2, 1) := by decide +kernel
theorem dX1_sort_5 : decode cX1_sort 5 = .ok (.idiv, 1) := by decide +kernel
theorem dX1_sort_6 : decode cX1_sort 6 = .ok (.istore_n 1, 1) := by decide +kernel
theorem dX1_sort_7 : decode cX1_sort 7 = .ok (.iload_n 1, 1) := by decide +kernel
theorem dX1_sort_8 : decode cX1_sort 8 = .ok (.ifCond .le 44, 3) := by decide +kernel
theorem dX1_sort_11 : decode cX1_sort 11 = .ok (.iload_n 1, 1) := by decide +kernel
theorem dX1_sort_12 : decode cX1_sort 12 = .ok (.istore_n 2, 1) := by decide +kernel
theorem dX1_sort_13 : decode cX1_sort 13 = .ok (.iload_n 2, 1) := by decide +kernel
theorem dX1_sort_14 : decode cX1_sort 14 = .ok (.aload_n 0, 1) := by decide +kernel
theorem dX1_sort_15 : decode cX1_sort 15 = .ok (.getfield 19, 3) := by decide +kernel
theorem dX1_sort_18 : decode cX1_sort 18 = .ok (.if_icmp .ge 15, 3) := by decide +kernel
theorem dX1_sort_21 : decode cX1_sort 21 = .ok (.aload_n 0, 1) := by decide +kernel
theorem dX1_sort_22 : decode cX1_sort 22 = .ok (.iload_n 2, 1) := by decide +kernel
theorem dX1_sort_23 : decode cX1_sort 23 = .ok (.iload_n 1, 1) := by decide +kernel
theorem dX1_sort_24 : decode cX1_sort 24 = .ok (.invokevirtual 70, 3) := by decide +kernel
theorem dX1_sort_27 : decode cX1_sort 27 = .ok (.iinc 2 1, 3) := by decide +kernel
theorem dX1_sort_30 : decode cX1_sort 30 = .ok (.goto (-17), 3) := by decide +kernel
theorem dX1_sort_33 : decode cX1_sort 33 = .ok (.iload_n 1, 1) := by decide +kernel
theorem dX1_sort_34 : decode cX1_sort 34 = .ok (.iconst 2, 1) := by decide +kernel
theorem dX1_sort_35 : decode cX1_sort 35 = .ok (.if_icmp .ne 7, 3) := by decide +kernel
theorem dX1_sort_38 : decode cX1_sort 38 = .ok (.iconst 1, 1) := by decide +kernel
theorem dX1_sort_39 : decode cX1_sort 39 = .ok (.goto 9, 3) := by decide +kernel
theorem dX1_sort_42 : decode cX1_sort 42 = .ok (.iload_n 1, 1) := by decide +kernel
theorem dX1_sort_43 : decode cX1_sort 43 = .ok (.iconst 5, 1) := by decide +kernel
theorem dX1_sort_44 : decode cX1_sort 44 = .ok (.imul, 1) := by decide +kernel
theorem dX1_sort_45 : decode cX1_sort 45 = .ok (.bipush 11, 2) := by decide +kernel
theorem dX1_sort_47 : decode cX1_sort 47 = .ok (.idiv, 1) := by decide +kernel
theorem dX1_sort_48 : decode cX1_sort 48 = .ok (.istore_n 1, 1) := by decide +kernel
theorem dX1_sort_49 : decode cX1_sort 49 = .ok (.goto (-42), 3) := by decide +kernel
theorem dX1_sort_52 : decode cX1_sort 52 = .ok (.return_, 1) := by decide +kernel
theorem dX1_sink_0 : decode cX1_sink 0 = .ok (.aload_n 0, 1) := by decide +kernel
theorem dX1_sink_1 : decode cX1_sink 1 = .ok (.getfield 9, 3) := by decide +kernel
theorem dX1_sink_4 : decode cX1_sink 4 = .ok (.iload_n 1, 1) := by decide +kernel
theorem dX1_sink_5 : decode cX1_sink 5 = .ok (.laload, 1) := by decide +kernel
theorem dX1_sink_6 : decode cX1_sink 6 = .ok (.lstore_n 3, 1) := by decide +kernel
theorem dX1_sink_7 : decode cX1_sink 7 = .ok (.aload_n 0, 1) := by decide +kernel
theorem dX1_sink_8 : decode cX1_sink 8 = .ok (.getfield 15, 3) := by decide +kernel
theorem dX1_sink_11 : decode cX1_sink 11 = .ok (.iload_n 1, 1) := by decide +kernel
theorem dX1_sink_12 : decode cX1_sink 12 = .ok (.iaload, 1) := by decide +kernel
theorem dX1_sink_13 : decode cX1_sink 13 = .ok (.istore 5, 2) := by decide +kernel
theorem dX1_sink_15 : decode cX1_sink 15 = .ok (.iload_n 1, 1) := by decide +kernel
theorem dX1_sink_16 : decode cX1_sink 16 = .ok (.istore 6, 2) := by decide +kernel
theorem dX1_sink_18 : decode cX1_sink 18 = .ok (.iload 6, 2) := by decide +kernel
theorem dX1_sink_20 : decode cX1_sink 20 = .ok (.iload_n 2, 1) := by decide +kernel
theorem dX1_sink_21 : decode cX1_sink 21 = .ok (.if_icmp .lt 86, 3) := by decide +kernel
theorem dX1_sink_24 : decode cX1_sink 24 = .ok (.aload_n 0, 1) := by decide +kernel
theorem dX1_sink_25 : decode cX1_sink 25 = .ok (.getfield 9, 3) := by decide +kernel
theorem dX1_sink_28 : decode cX1_sink 28 = .ok (.iload 6, 2) := by decide +kernel
theorem dX1_sink_30 : decode cX1_sink 30 = .ok (.iload_n 2, 1) := by decide +kernel
theorem dX1_sink_31 : decode cX1_sink 31 = .ok (.isub, 1) := by decide +kernel
theorem dX1_sink_32 : decode cX1_sink 32 = .ok (.laload, 1) := by decide +kernel
theorem dX1_sink_33 : decode cX1_sink 33 = .ok (.lload_n 3, 1) := by decide +kernel
theorem dX1_sink_34 : decode cX1_sink 34 = .ok (.lcmp, 1) := by decide +kernel
theorem dX1_sink_35 : decode cX1_sink 35 = .ok (.ifCond .gt 31, 3) := by decide +kernel
theorem dX1_sink_38 : decode cX1_sink 38 = .ok (.aload_n 0, 1) := by decide +kernel
theorem dX1_sink_39 : decode cX1_sink 39 = .ok (.getfield 9, 3) := by decide +kernel
theorem dX1_sink_42 : decode cX1_sink 42 = .ok (.iload 6, 2) := by decide +kernel
theorem dX1_sink_44 : decode cX1_sink 44 = .ok (.iload_n 2, 1) := by decide +kernel
theorem dX1_sink_45 : decode cX1_sink 45 = .ok (.isub, 1) := by decide +kernel
theorem dX1_sink_46 : decode cX1_sink 46 = .ok (.laload, 1) := by decide +kernel
theorem dX1_sink_47 : decode cX1_sink 47 = .ok (.lload_n 3, 1) := by decide +kernel
theorem dX1_sink_48 : decode cX1_sink 48 = .ok (.lcmp, 1) := by decide +kernel
theorem dX1_sink_49 : decode cX1_sink 49 = .ok (.ifCond .ne 58, 3) := by decide +kernel
theorem dX1_sink_52 : decode cX1_sink 52 = .ok (.aload_n 0, 1) := by decide +kernel
theorem dX1_sink_53 : decode cX1_sink 53 = .ok (.getfield 15, 3) := by decide +kernel
theorem dX1_sink_56 : decode cX1_sink 56 = .ok (.iload 6, 2) := by decide +kernel
theorem dX1_sink_58 : decode cX1_sink 58 = .ok (.iload_n 2, 1) := by decide +kernel
theorem dX1_sink_59 : decode cX1_sink 59 = .ok (.isub, 1) := by decide +kernel
theorem dX1_sink_60 : decode cX1_sink 60 = .ok (.iaload, 1) := by decide +kernel
theorem dX1_sink_61 : decode cX1_sink 61 = .ok (.iload 5, 2) := by decide +kernel
theorem dX1_sink_63 : decode cX1_sink 63 = .ok (.if_icmp .le 44, 3) := by decide +kernel
theorem dX1_sink_66 : decode cX1_sink 66 = .ok (.aload_n 0, 1) := by decide +kernel
theorem dX1_sink_67 : decode cX1_sink 67 = .ok (.getfield 9, 3) := by decide +kernel
theorem dX1_sink_70 : decode cX1_sink 70 = .ok (.iload 6, 2) := by decide +kernel
theorem dX1_sink_72 : decode cX1_sink 72 = .ok (.aload_n 0, 1) := by decide +kernel
theorem dX1_sink_73 : decode cX1_sink 73 = .ok (.getfield 9, 3) := by decide +kernel
theorem dX1_sink_76 : decode cX1_sink 76 = .ok (.iload 6, 2) := by decide +kernel
theorem dX1_sink_78 : decode cX1_sink 78 = .ok (.iload_n 2, 1) := by decide +kernel
theorem dX1_sink_79 : decode cX1_sink 79 = .ok (.isub, 1) := by decide +kernel
theorem dX1_sink_80 : decode cX1_sink 80 = .ok (.laload, 1) := by decide +kernel
theorem dX1_sink_81 : decode cX1_sink 81 = .ok (.lastore, 1) := by decide +kernel
theorem dX1_sink_82 : decode cX1_sink 82 = .ok (.aload_n 0, 1) := by decide +kernel
theorem dX1_sink_83 : decode cX1_sink 83 = .ok (.getfield 15, 3) := by decide +kernel
theorem dX1_sink_86 : decode cX1_sink 86 = .ok (.iload 6, 2) := by decide +kernel
theorem dX1_sink_88 : decode cX1_sink 88 = .ok (.aload_n 0, 1) := by decide +kernel
theorem dX1_sink_89 : decode cX1_sink 89 = .ok (.getfield 15, 3) := by decide +kernel
theorem dX1_sink_92 : decode cX1_sink 92 = .ok (.iload 6, 2) := by decide +kernel
theorem dX1_sink_94 : decode cX1_sink 94 = .ok (.iload_n 2, 1) := by decide +kernel
theorem dX1_sink_95 : decode cX1_sink 95 = .ok (.isub, 1) := by decide +kernel
theorem dX1_sink_96 : decode cX1_sink 96 = .ok (.iaload, 1) := by decide +kernel
theorem dX1_sink_97 : decode cX1_sink 97 = .ok (.iastore, 1) := by decide +kernel
theorem dX1_sink_98 : decode cX1_sink 98 = .ok (.iload 6, 2) := by decide +kernel
theorem dX1_sink_100 : decode cX1_sink 100 = .ok (.iload_n 2, 1) := by decide +kernel
theorem dX1_sink_101 : decode cX1_sink 101 = .ok (.isub, 1) := by decide +kernel
theorem dX1_sink_102 : decode cX1_sink 102 = .ok (.istore 6, 2) := by decide +kernel
theorem dX1_sink_104 : decode cX1_sink 104 = .ok (.goto (-86), 3) := by decide +kernel
theorem dX1_sink_107 : decode cX1_sink 107 = .ok (.aload_n 0, 1) := by decide +kernel
theorem dX1_sink_108 : decode cX1_sink 108 = .ok (.getfield 9, 3) := by decide +kernel
theorem dX1_sink_111 : decode cX1_sink 111 = .ok (.iload 6, 2) := by decide +kernel
theorem dX1_sink_113 : decode cX1_sink 113 = .ok (.lload_n 3, 1) := by decide +kernel
theorem dX1_sink_114 : decode cX1_sink 114 = .ok (.lastore, 1) := by decide +kernel
theorem dX1_sink_115 : decode cX1_sink 115 = .ok (.aload_n 0, 1) := by decide +kernel
theorem dX1_sink_116 : decode cX1_sink 116 = .ok (.getfield 15, 3) := by decide +kernel
theorem dX1_sink_119 : decode cX1_sink 119 = .ok (.iload 6, 2) := by decide +kernel
theorem dX1_sink_121 : decode cX1_sink 121 = .ok (.iload 5, 2) := by decide +kernel
theorem dX1_sink_123 : decode cX1_sink 123 = .ok (.iastore, 1) := by decide +kernel
theorem dX1_sink_124 : decode cX1_sink 124 = .ok (.return_, 1) := by decide +kernel
theorem dX1_dropLike_0 : decode cX1_dropLike 0 = .ok (.iconst 1, 1) := by decide +kernel
theorem dX1_dropLike_1 : decode cX1_dropLike 1 = .ok (.istore_n 1, 1) := by decide +kernel
theorem dX1_dropLike_2 : decode cX1_dropLike 2 = .ok (.iconst 1, 1) := by decide +kernel
theorem dX1_dropLike_3 : decode cX1_dropLike 3 = .ok (.istore_n 2, 1) := by decide +kernel
theorem dX1_dropLike_4 : decode cX1_dropLike 4 = .ok (.iload_n 2, 1) := by decide +kernel
theorem dX1_dropLike_5 : decode cX1_dropLike 5 = .ok (.aload_n 0, 1) := by decide +kernel
theorem dX1_dropLike_6 : decode cX1_dropLike 6 = .ok (.getfield 19, 3) := by decide +kernel
theorem dX1_dropLike_9 : decode cX1_dropLike 9 = .ok (.if_icmp .ge 54, 3) := by decide +kernel
theorem dX1_dropLike_12 : decode cX1_dropLike 12 = .ok (.aload_n 0, 1) := by decide +kernel
theorem dX1_dropLike_13 : decode cX1_dropLike 13 = .ok (.getfield 9, 3) := by decide +kernel
theorem dX1_dropLike_16 : decode cX1_dropLike 16 = .ok (.iload_n 2, 1) := by decide +kernel
theorem dX1_dropLike_17 : decode cX1_dropLike 17 = .ok (.laload, 1) := by decide +kernel
theorem dX1_dropLike_18 : decode cX1_dropLike 18 = .ok (.aload_n 0, 1) := by decide +kernel
theorem dX1_dropLike_19 : decode cX1_dropLike 19 = .ok (.getfield 9, 3) := by decide +kernel
theorem dX1_dropLike_22 : decode cX1_dropLike 22 = .ok (.iload_n 1, 1) := by decide +kernel
theorem dX1_dropLike_23 : decode cX1_dropLike 23 = .ok (.iconst 1, 1) := by decide +kernel
theorem dX1_dropLike_24 : decode cX1_dropLike 24 = .ok (.isub, 1) := by decide +kernel
theorem dX1_dropLike_25 : decode cX1_dropLike 25 = .ok (.laload, 1) := by decide +kernel
theorem dX1_dropLike_26 : decode cX1_dropLike 26 = .ok (.lcmp, 1) := by decide +kernel
theorem dX1_dropLike_27 : decode cX1_dropLike 27 = .ok (.ifCond .eq 30, 3) := by decide +kernel
theorem dX1_dropLike_30 : decode cX1_dropLike 30 = .ok (.aload_n 0, 1) := by decide +kernel
theorem dX1_dropLike_31 : decode cX1_dropLike 31 = .ok (.getfield 9, 3) := by decide +kernel
theorem dX1_dropLike_34 : decode cX1_dropLike 34 = .ok (.iload_n 1, 1) := by decide +kernel
theorem dX1_dropLike_35 : decode cX1_dropLike 35 = .ok (.aload_n 0, 1) := by decide +kernel
theorem dX1_dropLike_36 : decode cX1_dropLike 36 = .ok (.getfield 9, 3) := by decide +kernel
theorem dX1_dropLike_39 : decode cX1_dropLike 39 = .ok (.iload_n 2, 1) := by decide +kernel
theorem dX1_dropLike_40 : decode cX1_dropLike 40 = .ok (.laload, 1) := by decide +kernel
theorem dX1_dropLike_41 : decode cX1_dropLike 41 = .ok (.lastore, 1) := by decide +kernel
theorem dX1_dropLike_42 : decode cX1_dropLike 42 = .ok (.aload_n 0, 1) := by decide +kernel
theorem dX1_dropLike_43 : decode cX1_dropLike 43 = .ok (.getfield 15, 3) := by decide +kernel
theorem dX1_dropLike_46 : decode cX1_dropLike 46 = .ok (.iload_n 1, 1) := by decide +kernel
theorem dX1_dropLike_47 : decode cX1_dropLike 47 = .ok (.aload_n 0, 1) := by decide +kernel
theorem dX1_dropLike_48 : decode cX1_dropLike 48 = .ok (.getfield 15, 3) := by decide +kernel
theorem dX1_dropLike_51 : decode cX1_dropLike 51 = .ok (.iload_n 2, 1) := by decide +kernel
theorem dX1_dropLike_52 : decode cX1_dropLike 52 = .ok (.iaload, 1) := by decide +kernel
theorem dX1_dropLike_53 : decode cX1_dropLike 53 = .ok (.iastore, 1) := by decide +kernel
theorem dX1_dropLike_54 : decode cX1_dropLike 54 = .ok (.iinc 1 1, 3) := by decide +kernel
theorem dX1_dropLike_57 : decode cX1_dropLike 57 = .ok (.iinc 2 1, 3) := by decide +kernel
theorem dX1_dropLike_60 : decode cX1_dropLike 60 = .ok (.goto (-56), 3) := by decide +kernel
theorem dX1_dropLike_63 : decode cX1_dropLike 63 = .ok (.aload_n 0, 1) := by decide +kernel
theorem dX1_dropLike_64 : decode cX1_dropLike 64 = .ok (.iload_n 1, 1) := by decide +kernel
theorem dX1_dropLike_65 : decode cX1_dropLike 65 = .ok (.putfield 19, 3) := by decide +kernel
theorem dX1_dropLike_68 : decode cX1_dropLike 68 = .ok (.return_, 1) := by decide +kernel
theorem dX2_init_0 : decode cX2_init 0 = .ok (.aload_n 0, 1) := by decide +kernel
theorem dX2_init_1 : decode cX2_init 1 = .ok (.invokespecial 3, 3) := by decide +kernel
theorem dX2_init_4 : decode cX2_init 4 = .ok (.aload_n 0, 1) := by decide +kernel
theorem dX2_init_5 : decode cX2_init 5 = .ok (.bipush 8, 2) := by decide +kernel
theorem dX2_init_7 : decode cX2_init 7 = .ok (.anewarray 9, 3) := by decide +kernel
theorem dX2_init_10 : decode cX2_init 10 = .ok (.putfield 11, 3) := by decide +kernel
theorem dX2_init_13 : decode cX2_init 13 = .ok (.aload_n 0, 1) := by decide +kernel
theorem dX2_init_14 : decode cX2_init 14 = .ok (.iconst 0, 1) := by decide +kernel
theorem dX2_init_15 : decode cX2_init 15 = .ok (.putfield 17, 3) := by decide +kernel
theorem dX2_init_18 : decode cX2_init 18 = .ok (.aload_n 0, 1) := by decide +kernel
theorem dX2_init_19 : decode cX2_init 19 = .ok (.bipush 8, 2) := by decide +kernel
theorem dX2_init_21 : decode cX2_init 21 = .ok (.newarray .int, 2) := by decide +kernel
theorem dX2_init_23 : decode cX2_init 23 = .ok (.putfield 21, 3) := by decide +kernel
theorem dX2_init_26 : decode cX2_init 26 = .ok (.iconst 0, 1) := by decide +kernel
theorem dX2_init_27 : decode cX2_init 27 = .ok (.istore_n 1, 1) := by decide +kernel
theorem dX2_init_28 : decode cX2_init 28 = .ok (.iload_n 1, 1) := by decide +kernel
theorem dX2_init_29 : decode cX2_init 29 = .ok (.bipush 8, 2) := by decide +kernel
theorem dX2_init_31 : decode cX2_init 31 = .ok (.if_icmp .ge 22, 3) := by decide +kernel
theorem dX2_init_34 : decode cX2_init 34 = .ok (.aload_n 0, 1) := by decide +kernel
theorem dX2_init_35 : decode cX2_init 35 = .ok (.getfield 11, 3) := by decide +kernel
theorem dX2_init_38 : decode cX2_init 38 = .ok (.iload_n 1, 1) := by decide +kernel
theorem dX2_init_39 : decode cX2_init 39 = .ok (.new 9, 3) := by decide +kernel
theorem dX2_init_42 : decode cX2_init 42 = .ok (.dup, 1) := by decide +kernel
theorem dX2_init_43 : decode cX2_init 43 = .ok (.invokespecial 25, 3) := by decide +kernel
theorem dX2_init_46 : decode cX2_init 46 = .ok (.aastore, 1) := by decide +kernel
theorem dX2_init_47 : decode cX2_init 47 = .ok (.iinc 1 1, 3) := by decide +kernel
theorem dX2_init_50 : decode cX2_init 50 = .ok (.goto (-22), 3) := by decide +kernel
theorem dX2_init_53 : decode cX2_init 53 = .ok (.return_, 1) := by decide +kernel
theorem dX2_after_0 : decode cX2_after 0 = .ok (.lload_n 1, 1) := by decide +kernel
theorem dX2_after_1 : decode cX2_after 1 = .ok (.aload_n 0, 1) := by decide +kernel
theorem dX2_after_2 : decode cX2_after 2 = .ok (.getfield 21, 3) := by decide +kernel
theorem dX2_after_5 : decode cX2_after 5 = .ok (.invokestatic 26, 3) := by decide +kernel
theorem dX2_after_8 : decode cX2_after 8 = .ok (.iload_n 3, 1) := by decide +kernel
theorem dX2_after_9 : decode cX2_after 9 = .ok (.istore 5, 2) := by decide +kernel
theorem dX2_after_11 : decode cX2_after 11 = .ok (.iload 5, 2) := by decide +kernel
theorem dX2_after_13 : decode cX2_after 13 = .ok (.iload 4, 2) := by decide +kernel
theorem dX2_after_15 : decode cX2_after 15 = .ok (.if_icmp .ge 80, 3) := by decide +kernel
theorem dX2_after_18 : decode cX2_after 18 = .ok (.aload_n 0, 1) := by decide +kernel
theorem dX2_after_19 : decode cX2_after 19 = .ok (.getfield 11, 3) := by decide +kernel
theorem dX2_after_22 : decode cX2_after 22 = .ok (.iload 5, 2) := by decide +kernel
theorem dX2_after_24 : decode cX2_after 24 = .ok (.aaload, 1) := by decide +kernel
theorem dX2_after_25 : decode cX2_after 25 = .ok (.astore 6, 2) := by decide +kernel
theorem dX2_after_27 : decode cX2_after 27 = .ok (.aload 6, 2) := by decide +kernel
theorem dX2_after_29 : decode cX2_after 29 = .ok (.aload_n 0, 1) := by decide +kernel
theorem dX2_after_30 : decode cX2_after 30 = .ok (.getfield 21, 3) := by decide +kernel
theorem dX2_after_33 : decode cX2_after 33 = .ok (.invokevirtual 30, 3) := by decide +kernel
theorem dX2_after_36 : decode cX2_after 36 = .ok (.ifCond .eq 53, 3) := by decide +kernel
theorem dX2_after_39 : decode cX2_after 39 = .ok (.aload 6, 2) := by decide +kernel
theorem dX2_after_41 : decode cX2_after 41 = .ok (.aload_n 0, 1) := by decide +kernel
theorem dX2_after_42 : decode cX2_after 42 = .ok (.getfield 21, 3) := by decide +kernel
theorem dX2_after_45 : decode cX2_after 45 = .ok (.invokevirtual 34, 3) := by decide +kernel
theorem dX2_after_48 : decode cX2_after 48 = .ok (.istore 7, 2) := by decide +kernel
theorem dX2_after_50 : decode cX2_after 50 = .ok (.aload_n 0, 1) := by decide +kernel
theorem dX2_after_51 : decode cX2_after 51 = .ok (.getfield 21, 3) := by decide +kernel
theorem dX2_after_54 : decode cX2_after 54 = .ok (.aload 6, 2) := by decide +kernel
theorem dX2_after_56 : decode cX2_after 56 = .ok (.getfield 38, 3) := by decide +kernel
theorem dX2_after_59 : decode cX2_after 59 = .ok (.bipush 7, 2) := by decide +kernel
theorem dX2_after_61 : decode cX2_after 61 = .ok (.iand, 1) := by decide +kernel
theorem dX2_after_62 : decode cX2_after 62 = .ok (.iload 7, 2) := by decide +kernel
theorem dX2_after_64 : decode cX2_after 64 = .ok (.invokestatic 41, 3) := by decide +kernel
theorem dX2_after_67 : decode cX2_after 67 = .ok (.ifCond .eq 8, 3) := by decide +kernel
theorem dX2_after_70 : decode cX2_after 70 = .ok (.iload 7, 2) := by decide +kernel
theorem dX2_after_72 : decode cX2_after 72 = .ok (.goto 16, 3) := by decide +kernel
theorem dX2_after_75 : decode cX2_after 75 = .ok (.aload_n 0, 1) := by decide +kernel
theorem dX2_after_76 : decode cX2_after 76 = .ok (.getfield 21, 3) := by decide +kernel
theorem dX2_after_79 : decode cX2_after 79 = .ok (.aload 6, 2) := by decide +kernel
theorem dX2_after_81 : decode cX2_after 81 = .ok (.getfield 38, 3) := by decide +kernel
theorem dX2_after_84 : decode cX2_after 84 = .ok (.bipush 7, 2) := by decide +kernel
theorem dX2_after_86 : decode cX2_after 86 = .ok (.iand, 1) := by decide +kernel
theorem dX2_after_87 : decode cX2_after 87 = .ok (.iaload, 1) := by decide +kernel
theorem dX2_after_88 : decode cX2_after 88 = .ok (.iastore, 1) := by decide +kernel
theorem dX2_after_89 : decode cX2_after 89 = .ok (.iinc 5 1, 3) := by decide +kernel
theorem dX2_after_92 : decode cX2_after 92 = .ok (.goto (-81), 3) := by decide +kernel
theorem dX2_after_95 : decode cX2_after 95 = .ok (.aload_n 0, 1) := by decide +kernel
theorem dX2_after_96 : decode cX2_after 96 = .ok (.getfield 21, 3) := by decide +kernel
theorem dX2_after_99 : decode cX2_after 99 = .ok (.invokestatic 45, 3) := by decide +kernel
theorem dX2_after_102 : decode cX2_after 102 = .ok (.lreturn, 1) := by decide +kernel
theorem dX2_healed_0 : decode cX2_healed 0 = .ok (.aload_n 0, 1) := by decide +kernel
theorem dX2_healed_1 : decode cX2_healed 1 = .ok (.lload_n 1, 1) := by decide +kernel
theorem dX2_healed_2 : decode cX2_healed 2 = .ok (.iconst 0, 1) := by decide +kernel
theorem dX2_healed_3 : decode cX2_healed 3 = .ok (.aload_n 0, 1) := by decide +kernel
theorem dX2_healed_4 : decode cX2_healed 4 = .ok (.getfield 17, 3) := by decide +kernel
theorem dX2_healed_7 : decode cX2_healed 7 = .ok (.invokevirtual 49, 3) := by decide +kernel
theorem dX2_healed_10 : decode cX2_healed 10 = .ok (.lreturn, 1) := by decide +kernel
theorem dX2_isSteady_0 : decode cX2_isSteady 0 = .ok (.lload_n 1, 1) := by decide +kernel
theorem dX2_isSteady_1 : decode cX2_isSteady 1 = .ok (.lstore 5, 2) := by decide +kernel
theorem dX2_isSteady_3 : decode cX2_isSteady 3 = .ok (.iconst 0, 1) := by decide +kernel
theorem dX2_isSteady_4 : decode cX2_isSteady 4 = .ok (.istore 7, 2) := by decide +kernel
theorem dX2_isSteady_6 : decode cX2_isSteady 6 = .ok (.iload 7, 2) := by decide +kernel
theorem dX2_isSteady_8 : decode cX2_isSteady 8 = .ok (.aload_n 0, 1) := by decide +kernel
theorem dX2_isSteady_9 : decode cX2_isSteady 9 = .ok (.getfield 17, 3) := by decide +kernel
theorem dX2_isSteady_12 : decode cX2_isSteady 12 = .ok (.if_icmp .ge 53, 3) := by decide +kernel
theorem dX2_isSteady_15 : decode cX2_isSteady 15 = .ok (.aload_n 0, 1) := by decide +kernel
theorem dX2_isSteady_16 : decode cX2_isSteady 16 = .ok (.lload 5, 2) := by decide +kernel
theorem dX2_isSteady_18 : decode cX2_isSteady 18 = .ok (.iload 7, 2) := by decide +kernel
theorem dX2_isSteady_20 : decode cX2_isSteady 20 = .ok (.iload 7, 2) := by decide +kernel
theorem dX2_isSteady_22 : decode cX2_isSteady 22 = .ok (.iconst 1, 1) := by decide +kernel
theorem dX2_isSteady_23 : decode cX2_isSteady 23 = .ok (.iadd, 1) := by decide +kernel
theorem dX2_isSteady_24 : decode cX2_isSteady 24 = .ok (.invokevirtual 49, 3) := by decide +kernel
theorem dX2_isSteady_27 : decode cX2_isSteady 27 = .ok (.lstore 8, 2) := by decide +kernel
theorem dX2_isSteady_29 : decode cX2_isSteady 29 = .ok (.lload 8, 2) := by decide +kernel
theorem dX2_isSteady_31 : decode cX2_isSteady 31 = .ok (.lload 5, 2) := by decide +kernel
theorem dX2_isSteady_33 : decode cX2_isSteady 33 = .ok (.lcmp, 1) := by decide +kernel
theorem dX2_isSteady_34 : decode cX2_isSteady 34 = .ok (.ifCond .eq 21, 3) := by decide +kernel
theorem dX2_isSteady_37 : decode cX2_isSteady 37 = .ok (.aload_n 0, 1) := by decide +kernel
theorem dX2_isSteady_38 : decode cX2_isSteady 38 = .ok (.lload 8, 2) := by decide +kernel
theorem dX2_isSteady_40 : decode cX2_isSteady 40 = .ok (.iconst 0, 1) := by decide +kernel
theorem dX2_isSteady_41 : decode cX2_isSteady 41 = .ok (.aload_n 0, 1) := by decide +kernel
theorem dX2_isSteady_42 : decode cX2_isSteady 42 = .ok (.getfield 17, 3) := by decide +kernel
theorem dX2_isSteady_45 : decode cX2_isSteady 45 = .ok (.invokevirtual 49, 3) := by decide +kernel
theorem dX2_isSteady_48 : decode cX2_isSteady 48 = .ok (.lload_n 3, 1) := by decide +kernel
theorem dX2_isSteady_49 : decode cX2_isSteady 49 = .ok (.lcmp, 1) := by decide +kernel
theorem dX2_isSteady_50 : decode cX2_isSteady 50 = .ok (.ifCond .eq 5, 3) := by decide +kernel
theorem dX2_isSteady_53 : decode cX2_isSteady 53 = .ok (.iconst 0, 1) := by decide +kernel
theorem dX2_isSteady_54 : decode cX2_isSteady 54 = .ok (.ireturn, 1) := by decide +kernel
theorem dX2_isSteady_55 : decode cX2_isSteady 55 = .ok (.lload 8, 2) := by decide +kernel
theorem dX2_isSteady_57 : decode cX2_isSteady 57 = .ok (.lstore 5, 2) := by decide +kernel
theorem dX2_isSteady_59 : decode cX2_isSteady 59 = .ok (.iinc 7 1, 3) := by decide +kernel
theorem dX2_isSteady_62 : decode cX2_isSteady 62 = .ok (.goto (-56), 3) := by decide +kernel
theorem dX2_isSteady_65 : decode cX2_isSteady 65 = .ok (.iconst 1, 1) := by decide +kernel
theorem dX2_isSteady_66 : decode cX2_isSteady 66 = .ok (.ireturn, 1) := by decide +kernel
theorem dX3_init_0 : decode cX3_init 0 = .ok (.aload_n 0, 1) := by decide +kernel
theorem dX3_init_1 : decode cX3_init 1 = .ok (.invokespecial 3, 3) := by decide +kernel
theorem dX3_init_4 : decode cX3_init 4 = .ok (.aload_n 0, 1) := by decide +kernel
theorem dX3_init_5 : decode cX3_init 5 = .ok (.bipush 60, 2) := by decide +kernel
theorem dX3_init_7 : decode cX3_init 7 = .ok (.newarray .char, 2) := by decide +kernel
theorem dX3_init_9 : decode cX3_init 9 = .ok (.putfield 9, 3) := by decide +kernel
theorem dX3_init_12 : decode cX3_init 12 = .ok (.aload_n 0, 1) := by decide +kernel
theorem dX3_init_13 : decode cX3_init 13 = .ok (.iconst 0, 1) := by decide +kernel
theorem dX3_init_14 : decode cX3_init 14 = .ok (.putfield 15, 3) := by decide +kernel
theorem dX3_init_17 : decode cX3_init 17 = .ok (.return_, 1) := by decide +kernel
theorem dX3_lettersIn_0 : decode cX3_lettersIn 0 = .ok (.iconst 0, 1) := by decide +kernel
theorem dX3_lettersIn_1 : decode cX3_lettersIn 1 = .ok (.istore_n 2, 1) := by decide +kernel
theorem dX3_lettersIn_2 : decode cX3_lettersIn 2 = .ok (.iconst 0, 1) := by decide +kernel
theorem dX3_lettersIn_3 : decode cX3_lettersIn 3 = .ok (.istore_n 3, 1) := by decide +kernel
theorem dX3_lettersIn_4 : decode cX3_lettersIn 4 = .ok (.iload_n 3, 1) := by decide +kernel
theorem dX3_lettersIn_5 : decode cX3_lettersIn 5 = .ok (.bipush 8, 2) := by decide +kernel
theorem dX3_lettersIn_7 : decode cX3_lettersIn 7 = .ok (.if_icmp .ge 48, 3) := by decide +kernel
theorem dX3_lettersIn_10 : decode cX3_lettersIn 10 = .ok (.lload_n 0, 1) := by decide +kernel
theorem dX3_lettersIn_11 : decode cX3_lettersIn 11 = .ok (.iload_n 3, 1) := by decide +kernel
theorem dX3_lettersIn_12 : decode cX3_lettersIn 12 = .ok (.invokestatic 19, 3) := by decide +kernel
theorem dX3_lettersIn_15 : decode cX3_lettersIn 15 = .ok (.istore 4, 2) := by decide +kernel
theorem dX3_lettersIn_17 : decode cX3_lettersIn 17 = .ok (.iload 4, 2) := by decide +kernel
theorem dX3_lettersIn_19 : decode cX3_lettersIn 19 = .ok (.bipush 126, 2) := by decide +kernel
theorem dX3_lettersIn_21 : decode cX3_lettersIn 21 = .ok (.if_icmp .gt 13, 3) := by decide +kernel
theorem dX3_lettersIn_24 : decode cX3_lettersIn 24 = .ok (.iload 4, 2) := by decide +kernel
theorem dX3_lettersIn_26 : decode cX3_lettersIn 26 = .ok (.ifCond .eq 10, 3) := by decide +kernel
theorem dX3_lettersIn_29 : decode cX3_lettersIn 29 = .ok (.iload_n 2, 1) := by decide +kernel
theorem dX3_lettersIn_30 : decode cX3_lettersIn 30 = .ok (.iload_n 3, 1) := by decide +kernel
theorem dX3_lettersIn_31 : decode cX3_lettersIn 31 = .ok (.if_icmp .ge 5, 3) := by decide +kernel
theorem dX3_lettersIn_34 : decode cX3_lettersIn 34 = .ok (.iconst (-1), 1) := by decide +kernel
theorem dX3_lettersIn_35 : decode cX3_lettersIn 35 = .ok (.ireturn, 1) := by decide +kernel
theorem dX3_lettersIn_36 : decode cX3_lettersIn 36 = .ok (.iload_n 2, 1) := by decide +kernel
theorem dX3_lettersIn_37 : decode cX3_lettersIn 37 = .ok (.iload 4, 2) := by decide +kernel
theorem dX3_lettersIn_39 : decode cX3_lettersIn 39 = .ok (.ifCond .eq 7, 3) := by decide +kernel
theorem dX3_lettersIn_42 : decode cX3_lettersIn 42 = .ok (.iconst 1, 1) := by decide +kernel
theorem dX3_lettersIn_43 : decode cX3_lettersIn 43 = .ok (.goto 4, 3) := by decide +kernel
theorem dX3_lettersIn_46 : decode cX3_lettersIn 46 = .ok (.iconst 0, 1) := by decide +kernel
theorem dX3_lettersIn_47 : decode cX3_lettersIn 47 = .ok (.iadd, 1) := by decide +kernel
theorem dX3_lettersIn_48 : decode cX3_lettersIn 48 = .ok (.istore_n 2, 1) := by decide +kernel
theorem dX3_lettersIn_49 : decode cX3_lettersIn 49 = .ok (.iinc 3 1, 3) := by decide +kernel
theorem dX3_lettersIn_52 : decode cX3_lettersIn 52 = .ok (.goto (-48), 3) := by decide +kernel
theorem dX3_lettersIn_55 : decode cX3_lettersIn 55 = .ok (.iload_n 2, 1) := by decide +kernel
theorem dX3_lettersIn_56 : decode cX3_lettersIn 56 = .ok (.ireturn, 1) := by decide +kernel
theorem dX3_append_0 : decode cX3_append 0 = .ok (.iconst 0, 1) := by decide +kernel
theorem dX3_append_1 : decode cX3_append 1 = .ok (.istore 4, 2) := by decide +kernel
theorem dX3_append_3 : decode cX3_append 3 = .ok (.iload 4, 2) := by decide +kernel
theorem dX3_append_5 : decode cX3_append 5 = .ok (.iload_n 3, 1) := by decide +kernel
theorem dX3_append_6 : decode cX3_append 6 = .ok (.if_icmp .ge 44, 3) := by decide +kernel
theorem dX3_append_9 : decode cX3_append 9 = .ok (.aload_n 0, 1) := by decide +kernel
theorem dX3_append_10 : decode cX3_append 10 = .ok (.getfield 15, 3) := by decide +kernel
theorem dX3_append_13 : decode cX3_append 13 = .ok (.bipush 60, 2) := by decide +kernel
theorem dX3_append_15 : decode cX3_append 15 = .ok (.if_icmp .ge 35, 3) := by decide +kernel
theorem dX3_append_18 : decode cX3_append 18 = .ok (.aload_n 0, 1) := by decide +kernel
theorem dX3_append_19 : decode cX3_append 19 = .ok (.getfield 9, 3) := by decide +kernel
theorem dX3_append_22 : decode cX3_append 22 = .ok (.aload_n 0, 1) := by decide +kernel
theorem dX3_append_23 : decode cX3_append 23 = .ok (.getfield 15, 3) := by decide +kernel
theorem dX3_append_26 : decode cX3_append 26 = .ok (.lload_n 1, 1) := by decide +kernel
theorem dX3_append_27 : decode cX3_append 27 = .ok (.iload 4, 2) := by decide +kernel
theorem dX3_append_29 : decode cX3_append 29 = .ok (.invokestatic 19, 3) := by decide +kernel
theorem dX3_append_32 : decode cX3_append 32 = .ok (.i2c, 1) := by decide +kernel
theorem dX3_append_33 : decode cX3_append 33 = .ok (.castore, 1) := by decide +kernel
theorem dX3_append_34 : decode cX3_append 34 = .ok (.aload_n 0, 1) := by decide +kernel
theorem dX3_append_35 : decode cX3_append 35 = .ok (.dup, 1) := by decide +kernel
theorem dX3_append_36 : decode cX3_append 36 = .ok (.getfield 15, 3) := by decide +kernel
theorem dX3_append_39 : decode cX3_append 39 = .ok (.iconst 1, 1) := by decide +kernel
theorem dX3_append_40 : decode cX3_append 40 = .ok (.iadd, 1) := by decide +kernel
theorem dX3_append_41 : decode cX3_append 41 = .ok (.putfield 15, 3) := by decide +kernel
theorem dX3_append_44 : decode cX3_append 44 = .ok (.iinc 4 1, 3) := by decide +kernel
theorem dX3_append_47 : decode cX3_append 47 = .ok (.goto (-44), 3) := by decide +kernel
theorem dX3_append_50 : decode cX3_append 50 = .ok (.return_, 1) := by decide +kernel
theorem dX3_codeIn_0 : decode cX3_codeIn 0 = .ok (.lload_n 0, 1) := by decide +kernel
theorem dX3_codeIn_1 : decode cX3_codeIn 1 = .ok (.bipush 8, 2) := by decide +kernel
theorem dX3_codeIn_3 : decode cX3_codeIn 3 = .ok (.iload_n 2, 1) := by decide +kernel
theorem dX3_codeIn_4 : decode cX3_codeIn 4 = .ok (.imul, 1) := by decide +kernel
theorem dX3_codeIn_5 : decode cX3_codeIn 5 = .ok (.lushr, 1) := by decide +kernel
theorem dX3_codeIn_6 : decode cX3_codeIn 6 = .ok (.ldc2_w 23, 3) := by decide +kernel
theorem dX3_codeIn_9 : decode cX3_codeIn 9 = .ok (.land, 1) := by decide +kernel
theorem dX3_codeIn_10 : decode cX3_codeIn 10 = .ok (.l2i, 1) := by decide +kernel
theorem dX3_codeIn_11 : decode cX3_codeIn 11 = .ok (.ireturn, 1) := by decide +kernel
theorem dX4_init_0 : decode cX4_init 0 = .ok (.aload_n 0, 1) := by decide +kernel
theorem dX4_init_1 : decode cX4_init 1 = .ok (.invokespecial 3, 3) := by decide +kernel
theorem dX4_init_4 : decode cX4_init 4 = .ok (.aload_n 0, 1) := by decide +kernel
theorem dX4_init_5 : decode cX4_init 5 = .ok (.bipush 81, 2) := by decide +kernel
theorem dX4_init_7 : decode cX4_init 7 = .ok (.newarray .int, 2) := by decide +kernel
theorem dX4_init_9 : decode cX4_init 9 = .ok (.putfield 11, 3) := by decide +kernel
theorem dX4_init_12 : decode cX4_init 12 = .ok (.aload_n 0, 1) := by decide +kernel
theorem dX4_init_13 : decode cX4_init 13 = .ok (.bipush 8, 2) := by decide +kernel
theorem dX4_init_15 : decode cX4_init 15 = .ok (.newarray .int, 2) := by decide +kernel
theorem dX4_init_17 : decode cX4_init 17 = .ok (.putfield 15, 3) := by decide +kernel
theorem dX4_init_20 : decode cX4_init 20 = .ok (.aload_n 0, 1) := by decide +kernel
theorem dX4_init_21 : decode cX4_init 21 = .ok (.bipush 8, 2) := by decide +kernel
theorem dX4_init_23 : decode cX4_init 23 = .ok (.newarray .int, 2) := by decide +kernel
theorem dX4_init_25 : decode cX4_init 25 = .ok (.putfield 18, 3) := by decide +kernel
theorem dX4_init_28 : decode cX4_init 28 = .ok (.aload_n 0, 1) := by decide +kernel
theorem dX4_init_29 : decode cX4_init 29 = .ok (.iconst 0, 1) := by decide +kernel
theorem dX4_init_30 : decode cX4_init 30 = .ok (.putfield 21, 3) := by decide +kernel
theorem dX4_init_33 : decode cX4_init 33 = .ok (.aload_n 0, 1) := by decide +kernel
theorem dX4_init_34 : decode cX4_init 34 = .ok (.iconst (-1), 1) := by decide +kernel
theorem dX4_init_35 : decode cX4_init 35 = .ok (.putfield 25, 3) := by decide +kernel
theorem dX4_init_38 : decode cX4_init 38 = .ok (.aload_n 0, 1) := by decide +kernel
theorem dX4_init_39 : decode cX4_init 39 = .ok (.iconst (-1), 1) := by decide +kernel
theorem dX4_init_40 : decode cX4_init 40 = .ok (.putfield 28, 3) := by decide +kernel
theorem dX4_init_43 : decode cX4_init 43 = .ok (.return_, 1) := by decide +kernel
theorem dX4_behind_0 : decode cX4_behind 0 = .ok (.aload_n 0, 1) := by decide +kernel
theorem dX4_behind_1 : decode cX4_behind 1 = .ok (.getfield 25, 3) := by decide +kernel
theorem dX4_behind_4 : decode cX4_behind 4 = .ok (.iconst (-1), 1) := by decide +kernel
theorem dX4_behind_5 : decode cX4_behind 5 = .ok (.if_icmp .eq 24, 3) := by decide +kernel
theorem dX4_behind_8 : decode cX4_behind 8 = .ok (.iload_n 1, 1) := by decide +kernel
theorem dX4_behind_9 : decode cX4_behind 9 = .ok (.ifCond .lt 20, 3) := by decide +kernel
theorem dX4_behind_12 : decode cX4_behind 12 = .ok (.iload_n 1, 1) := by decide +kernel
theorem dX4_behind_13 : decode cX4_behind 13 = .ok (.aload_n 0, 1) := by decide +kernel
theorem dX4_behind_14 : decode cX4_behind 14 = .ok (.getfield 21, 3) := by decide +kernel
theorem dX4_behind_17 : decode cX4_behind 17 = .ok (.if_icmp .ge 12, 3) := by decide +kernel
theorem dX4_behind_20 : decode cX4_behind 20 = .ok (.aload_n 0, 1) := by decide +kernel
theorem dX4_behind_21 : decode cX4_behind 21 = .ok (.getfield 18, 3) := by decide +kernel
theorem dX4_behind_24 : decode cX4_behind 24 = .ok (.iload_n 1, 1) := by decide +kernel
theorem dX4_behind_25 : decode cX4_behind 25 = .ok (.iaload, 1) := by decide +kernel
theorem dX4_behind_26 : decode cX4_behind 26 = .ok (.goto 4, 3) := by decide +kernel
theorem dX4_behind_29 : decode cX4_behind 29 = .ok (.iconst (-1), 1) := by decide +kernel
theorem dX4_behind_30 : decode cX4_behind 30 = .ok (.ireturn, 1) := by decide +kernel
theorem dX4_weigh_0 : decode cX4_weigh 0 = .ok (.aload_n 1, 1) := by decide +kernel
theorem dX4_weigh_1 : decode cX4_weigh 1 = .ok (.getfield 31, 3) := by decide +kernel
theorem dX4_weigh_4 : decode cX4_weigh 4 = .ok (.bipush 8, 2) := by decide +kernel
theorem dX4_weigh_6 : decode cX4_weigh 6 = .ok (.invokestatic 36, 3) := by decide +kernel
theorem dX4_weigh_9 : decode cX4_weigh 9 = .ok (.istore_n 3, 1) := by decide +kernel
theorem dX4_weigh_10 : decode cX4_weigh 10 = .ok (.iconst 0, 1) := by decide +kernel
theorem dX4_weigh_11 : decode cX4_weigh 11 = .ok (.istore 4, 2) := by decide +kernel
theorem dX4_weigh_13 : decode cX4_weigh 13 = .ok (.iload 4, 2) := by decide +kernel
theorem dX4_weigh_15 : decode cX4_weigh 15 = .ok (.iload_n 3, 1) := by decide +kernel
theorem dX4_weigh_16 : decode cX4_weigh 16 = .ok (.if_icmp .gt 111, 3) := by decide +kernel
theorem dX4_weigh_19 : decode cX4_weigh 19 = .ok (.aload_n 1, 1) := by decide +kernel
theorem dX4_weigh_20 : decode cX4_weigh 20 = .ok (.iconst 0, 1) := by decide +kernel
theorem dX4_weigh_21 : decode cX4_weigh 21 = .ok (.iload 4, 2) := by decide +kernel
theorem dX4_weigh_23 : decode cX4_weigh 23 = .ok (.invokevirtual 42, 3) := by decide +kernel
theorem dX4_weigh_26 : decode cX4_weigh 26 = .ok (.istore 5, 2) := by decide +kernel
theorem dX4_weigh_28 : decode cX4_weigh 28 = .ok (.aload_n 2, 1) := by decide +kernel
theorem dX4_weigh_29 : decode cX4_weigh 29 = .ok (.iload 5, 2) := by decide +kernel
theorem dX4_weigh_31 : decode cX4_weigh 31 = .ok (.invokevirtual 45, 3) := by decide +kernel
theorem dX4_weigh_34 : decode cX4_weigh 34 = .ok (.istore 6, 2) := by decide +kernel
theorem dX4_weigh_36 : decode cX4_weigh 36 = .ok (.aload_n 0, 1) := by decide +kernel
theorem dX4_weigh_37 : decode cX4_weigh 37 = .ok (.getfield 11, 3) := by decide +kernel
theorem dX4_weigh_40 : decode cX4_weigh 40 = .ok (.iload 4, 2) := by decide +kernel
theorem dX4_weigh_42 : decode cX4_weigh 42 = .ok (.bipush 9, 2) := by decide +kernel
theorem dX4_weigh_44 : decode cX4_weigh 44 = .ok (.imul, 1) := by decide +kernel
theorem dX4_weigh_45 : decode cX4_weigh 45 = .ok (.iload 4, 2) := by decide +kernel
theorem dX4_weigh_47 : decode cX4_weigh 47 = .ok (.iadd, 1) := by decide +kernel
theorem dX4_weigh_48 : decode cX4_weigh 48 = .ok (.iload 6, 2) := by decide +kernel
theorem dX4_weigh_50 : decode cX4_weigh 50 = .ok (.iastore, 1) := by decide +kernel
theorem dX4_weigh_51 : decode cX4_weigh 51 = .ok (.iload 4, 2) := by decide +kernel
theorem dX4_weigh_53 : decode cX4_weigh 53 = .ok (.istore 7, 2) := by decide +kernel
theorem dX4_weigh_55 : decode cX4_weigh 55 = .ok (.iload 7, 2) := by decide +kernel
theorem dX4_weigh_57 : decode cX4_weigh 57 = .ok (.iload_n 3, 1) := by decide +kernel
theorem dX4_weigh_58 : decode cX4_weigh 58 = .ok (.if_icmp .ge 63, 3) := by decide +kernel
theorem dX4_weigh_61 : decode cX4_weigh 61 = .ok (.aload_n 1, 1) := by decide +kernel
theorem dX4_weigh_62 : decode cX4_weigh 62 = .ok (.getfield 51, 3) := by decide +kernel
theorem dX4_weigh_65 : decode cX4_weigh 65 = .ok (.iload 7, 2) := by decide +kernel
theorem dX4_weigh_67 : decode cX4_weigh 67 = .ok (.aaload, 1) := by decide +kernel
theorem dX4_weigh_68 : decode cX4_weigh 68 = .ok (.invokevirtual 55, 3) := by decide +kernel
theorem dX4_weigh_71 : decode cX4_weigh 71 = .ok (.ifCond .eq 27, 3) := by decide +kernel
theorem dX4_weigh_74 : decode cX4_weigh 74 = .ok (.iload 6, 2) := by decide +kernel
theorem dX4_weigh_76 : decode cX4_weigh 76 = .ok (.aload_n 2, 1) := by decide +kernel
theorem dX4_weigh_77 : decode cX4_weigh 77 = .ok (.iload 5, 2) := by decide +kernel
theorem dX4_weigh_79 : decode cX4_weigh 79 = .ok (.iconst 1, 1) := by decide +kernel
theorem dX4_weigh_80 : decode cX4_weigh 80 = .ok (.iload 7, 2) := by decide +kernel
theorem dX4_weigh_82 : decode cX4_weigh 82 = .ok (.ishl, 1) := by decide +kernel
theorem dX4_weigh_83 : decode cX4_weigh 83 = .ok (.ior, 1) := by decide +kernel
theorem dX4_weigh_84 : decode cX4_weigh 84 = .ok (.aload_n 1, 1) := by decide +kernel
theorem dX4_weigh_85 : decode cX4_weigh 85 = .ok (.iload 4, 2) := by decide +kernel
theorem dX4_weigh_87 : decode cX4_weigh 87 = .ok (.iload 7, 2) := by decide +kernel
theorem dX4_weigh_89 : decode cX4_weigh 89 = .ok (.invokevirtual 42, 3) := by decide +kernel
theorem dX4_weigh_92 : decode cX4_weigh 92 = .ok (.invokevirtual 61, 3) := by decide +kernel
theorem dX4_weigh_95 : decode cX4_weigh 95 = .ok (.ior, 1) := by decide +kernel
theorem dX4_weigh_96 : decode cX4_weigh 96 = .ok (.istore 6, 2) := by decide +kernel
theorem dX4_weigh_98 : decode cX4_weigh 98 = .ok (.aload_n 0, 1) := by decide +kernel
theorem dX4_weigh_99 : decode cX4_weigh 99 = .ok (.getfield 11, 3) := by decide +kernel
theorem dX4_weigh_102 : decode cX4_weigh 102 = .ok (.iload 4, 2) := by decide +kernel
theorem dX4_weigh_104 : decode cX4_weigh 104 = .ok (.bipush 9, 2) := by decide +kernel
theorem dX4_weigh_106 : decode cX4_weigh 106 = .ok (.imul, 1) := by decide +kernel
theorem dX4_weigh_107 : decode cX4_weigh 107 = .ok (.iload 7, 2) := by decide +kernel
theorem dX4_weigh_109 : decode cX4_weigh 109 = .ok (.iadd, 1) := by decide +kernel
theorem dX4_weigh_110 : decode cX4_weigh 110 = .ok (.iconst 1, 1) := by decide +kernel
theorem dX4_weigh_111 : decode cX4_weigh 111 = .ok (.iadd, 1) := by decide +kernel
theorem dX4_weigh_112 : decode cX4_weigh 112 = .ok (.iload 6, 2) := by decide +kernel
theorem dX4_weigh_114 : decode cX4_weigh 114 = .ok (.iastore, 1) := by decide +kernel
theorem dX4_weigh_115 : decode cX4_weigh 115 = .ok (.iinc 7 1, 3) := by decide +kernel
theorem dX4_weigh_118 : decode cX4_weigh 118 = .ok (.goto (-63), 3) := by decide +kernel
theorem dX4_weigh_121 : decode cX4_weigh 121 = .ok (.iinc 4 1, 3) := by decide +kernel
theorem dX4_weigh_124 : decode cX4_weigh 124 = .ok (.goto (-111), 3) := by decide +kernel
theorem dX4_weigh_127 : decode cX4_weigh 127 = .ok (.return_, 1) := by decide +kernel
theorem dX4_search_0 : decode cX4_search 0 = .ok (.aload_n 0, 1) := by decide +kernel
theorem dX4_search_1 : decode cX4_search 1 = .ok (.iconst 0, 1) := by decide +kernel
theorem dX4_search_2 : decode cX4_search 2 = .ok (.aload_n 1, 1) := by decide +kernel
theorem dX4_search_3 : decode cX4_search 3 = .ok (.getfield 31, 3) := by decide +kernel
theorem dX4_search_6 : decode cX4_search 6 = .ok (.bipush 8, 2) := by decide +kernel
theorem dX4_search_8 : decode cX4_search 8 = .ok (.invokestatic 36, 3) := by decide +kernel
theorem dX4_search_11 : decode cX4_search 11 = .ok (.iconst 1, 1) := by decide +kernel
theorem dX4_search_12 : decode cX4_search 12 = .ok (.isub, 1) := by decide +kernel
theorem dX4_search_13 : decode cX4_search 13 = .ok (.invokestatic 64, 3) := by decide +kernel
theorem dX4_search_16 : decode cX4_search 16 = .ok (.putfield 21, 3) := by decide +kernel
theorem dX4_search_19 : decode cX4_search 19 = .ok (.aload_n 0, 1) := by decide +kernel
theorem dX4_search_20 : decode cX4_search 20 = .ok (.getfield 15, 3) := by decide +kernel
theorem dX4_search_23 : decode cX4_search 23 = .ok (.iconst 0, 1) := by decide +kernel
theorem dX4_search_24 : decode cX4_search 24 = .ok (.invokestatic 67, 3) := by decide +kernel
theorem dX4_search_27 : decode cX4_search 27 = .ok (.aload_n 0, 1) := by decide +kernel
theorem dX4_search_28 : decode cX4_search 28 = .ok (.iconst (-1), 1) := by decide +kernel
theorem dX4_search_29 : decode cX4_search 29 = .ok (.putfield 25, 3) := by decide +kernel
theorem dX4_search_32 : decode cX4_search 32 = .ok (.aload_n 0, 1) := by decide +kernel
theorem dX4_search_33 : decode cX4_search 33 = .ok (.iconst (-1), 1) := by decide +kernel
theorem dX4_search_34 : decode cX4_search 34 = .ok (.putfield 28, 3) := by decide +kernel
theorem dX4_search_37 : decode cX4_search 37 = .ok (.iconst 1, 1) := by decide +kernel
theorem dX4_search_38 : decode cX4_search 38 = .ok (.istore 5, 2) := by decide +kernel
theorem dX4_search_40 : decode cX4_search 40 = .ok (.iconst 0, 1) := by decide +kernel
theorem dX4_search_41 : decode cX4_search 41 = .ok (.istore 6, 2) := by decide +kernel
theorem dX4_search_43 : decode cX4_search 43 = .ok (.iload 6, 2) := by decide +kernel
theorem dX4_search_45 : decode cX4_search 45 = .ok (.aload_n 0, 1) := by decide +kernel
theorem dX4_search_46 : decode cX4_search 46 = .ok (.getfield 21, 3) := by decide +kernel
theorem dX4_search_49 : decode cX4_search 49 = .ok (.if_icmp .ge 15, 3) := by decide +kernel
theorem dX4_search_52 : decode cX4_search 52 = .ok (.iload 5, 2) := by decide +kernel
theorem dX4_search_54 : decode cX4_search 54 = .ok (.iconst 3, 1) := by decide +kernel
theorem dX4_search_55 : decode cX4_search 55 = .ok (.imul, 1) := by decide +kernel
theorem dX4_search_56 : decode cX4_search 56 = .ok (.istore 5, 2) := by decide +kernel
theorem dX4_search_58 : decode cX4_search 58 = .ok (.iinc 6 1, 3) := by decide +kernel
theorem dX4_search_61 : decode cX4_search 61 = .ok (.goto (-18), 3) := by decide +kernel
theorem dX4_search_64 : decode cX4_search 64 = .ok (.iconst 0, 1) := by decide +kernel
theorem dX4_search_65 : decode cX4_search 65 = .ok (.istore 6, 2) := by decide +kernel
theorem dX4_search_67 : decode cX4_search 67 = .ok (.iload 6, 2) := by decide +kernel
theorem dX4_search_69 : decode cX4_search 69 = .ok (.iload 5, 2) := by decide +kernel
theorem dX4_search_71 : decode cX4_search 71 = .ok (.if_icmp .ge 92, 3) := by decide +kernel
theorem dX4_search_74 : decode cX4_search 74 = .ok (.aload_n 0, 1) := by decide +kernel
theorem dX4_search_75 : decode cX4_search 75 = .ok (.iconst 1, 1) := by decide +kernel
theorem dX4_search_76 : decode cX4_search 76 = .ok (.invokevirtual 73, 3) := by decide +kernel
theorem dX4_search_79 : decode cX4_search 79 = .ok (.istore 7, 2) := by decide +kernel
theorem dX4_search_81 : decode cX4_search 81 = .ok (.aload_n 0, 1) := by decide +kernel
theorem dX4_search_82 : decode cX4_search 82 = .ok (.iconst 2, 1) := by decide +kernel
theorem dX4_search_83 : decode cX4_search 83 = .ok (.invokevirtual 73, 3) := by decide +kernel
theorem dX4_search_86 : decode cX4_search 86 = .ok (.istore 8, 2) := by decide +kernel
theorem dX4_search_88 : decode cX4_search 88 = .ok (.iload 7, 2) := by decide +kernel
theorem dX4_search_90 : decode cX4_search 90 = .ok (.iload_n 3, 1) := by decide +kernel
theorem dX4_search_91 : decode cX4_search 91 = .ok (.imul, 1) := by decide +kernel
theorem dX4_search_92 : decode cX4_search 92 = .ok (.iload 8, 2) := by decide +kernel
theorem dX4_search_94 : decode cX4_search 94 = .ok (.iload 4, 2) := by decide +kernel
theorem dX4_search_96 : decode cX4_search 96 = .ok (.imul, 1) := by decide +kernel
theorem dX4_search_97 : decode cX4_search 97 = .ok (.iadd, 1) := by decide +kernel
theorem dX4_search_98 : decode cX4_search 98 = .ok (.istore 9, 2) := by decide +kernel
theorem dX4_search_100 : decode cX4_search 100 = .ok (.aload_n 0, 1) := by decide +kernel
theorem dX4_search_101 : decode cX4_search 101 = .ok (.iload 9, 2) := by decide +kernel
theorem dX4_search_103 : decode cX4_search 103 = .ok (.iload 7, 2) := by decide +kernel
theorem dX4_search_105 : decode cX4_search 105 = .ok (.iload 8, 2) := by decide +kernel
theorem dX4_search_107 : decode cX4_search 107 = .ok (.iadd, 1) := by decide +kernel
theorem dX4_search_108 : decode cX4_search 108 = .ok (.invokevirtual 76, 3) := by decide +kernel
theorem dX4_search_111 : decode cX4_search 111 = .ok (.ifCond .eq 42, 3) := by decide +kernel
theorem dX4_search_114 : decode cX4_search 114 = .ok (.aload_n 0, 1) := by decide +kernel
theorem dX4_search_115 : decode cX4_search 115 = .ok (.aload_n 1, 1) := by decide +kernel
theorem dX4_search_116 : decode cX4_search 116 = .ok (.iload_n 2, 1) := by decide +kernel
theorem dX4_search_117 : decode cX4_search 117 = .ok (.invokevirtual 80, 3) := by decide +kernel
theorem dX4_search_120 : decode cX4_search 120 = .ok (.ifCond .eq 33, 3) := by decide +kernel
theorem dX4_search_123 : decode cX4_search 123 = .ok (.aload_n 0, 1) := by decide +kernel
theorem dX4_search_124 : decode cX4_search 124 = .ok (.iload 9, 2) := by decide +kernel
theorem dX4_search_126 : decode cX4_search 126 = .ok (.putfield 25, 3) := by decide +kernel
theorem dX4_search_129 : decode cX4_search 129 = .ok (.aload_n 0, 1) := by decide +kernel
theorem dX4_search_130 : decode cX4_search 130 = .ok (.iload 7, 2) := by decide +kernel
theorem dX4_search_132 : decode cX4_search 132 = .ok (.iload 8, 2) := by decide +kernel
theorem dX4_search_134 : decode cX4_search 134 = .ok (.iadd, 1) := by decide +kernel
theorem dX4_search_135 : decode cX4_search 135 = .ok (.putfield 28, 3) := by decide +kernel
theorem dX4_search_138 : decode cX4_search 138 = .ok (.aload_n 0, 1) := by decide +kernel
theorem dX4_search_139 : decode cX4_search 139 = .ok (.getfield 15, 3) := by decide +kernel
theorem dX4_search_142 : decode cX4_search 142 = .ok (.iconst 0, 1) := by decide +kernel
theorem dX4_search_143 : decode cX4_search 143 = .ok (.aload_n 0, 1) := by decide +kernel
theorem dX4_search_144 : decode cX4_search 144 = .ok (.getfield 18, 3) := by decide +kernel
theorem dX4_search_147 : decode cX4_search 147 = .ok (.iconst 0, 1) := by decide +kernel
theorem dX4_search_148 : decode cX4_search 148 = .ok (.bipush 8, 2) := by decide +kernel
theorem dX4_search_150 : decode cX4_search 150 = .ok (.invokestatic 84, 3) := by decide +kernel
theorem dX4_search_153 : decode cX4_search 153 = .ok (.aload_n 0, 1) := by decide +kernel
theorem dX4_search_154 : decode cX4_search 154 = .ok (.invokevirtual 90, 3) := by decide +kernel
theorem dX4_search_157 : decode cX4_search 157 = .ok (.iinc 6 1, 3) := by decide +kernel
theorem dX4_search_160 : decode cX4_search 160 = .ok (.goto (-93), 3) := by decide +kernel
theorem dX4_search_163 : decode cX4_search 163 = .ok (.return_, 1) := by decide +kernel
theorem dX4_putOf_0 : decode cX4_putOf 0 = .ok (.iconst 0, 1) := by decide +kernel
theorem dX4_putOf_1 : decode cX4_putOf 1 = .ok (.istore_n 2, 1) := by decide +kernel
theorem dX4_putOf_2 : decode cX4_putOf 2 = .ok (.iconst 0, 1) := by decide +kernel
theorem dX4_putOf_3 : decode cX4_putOf 3 = .ok (.istore_n 3, 1) := by decide +kernel
theorem dX4_putOf_4 : decode cX4_putOf 4 = .ok (.iload_n 3, 1) := by decide +kernel
theorem dX4_putOf_5 : decode cX4_putOf 5 = .ok (.aload_n 0, 1) := by decide +kernel
theorem dX4_putOf_6 : decode cX4_putOf 6 = .ok (.getfield 21, 3) := by decide +kernel
theorem dX4_putOf_9 : decode cX4_putOf 9 = .ok (.if_icmp .ge 27, 3) := by decide +kernel
theorem dX4_putOf_12 : decode cX4_putOf 12 = .ok (.iload_n 2, 1) := by decide +kernel
theorem dX4_putOf_13 : decode cX4_putOf 13 = .ok (.aload_n 0, 1) := by decide +kernel
theorem dX4_putOf_14 : decode cX4_putOf 14 = .ok (.getfield 15, 3) := by decide +kernel
theorem dX4_putOf_17 : decode cX4_putOf 17 = .ok (.iload_n 3, 1) := by decide +kernel
theorem dX4_putOf_18 : decode cX4_putOf 18 = .ok (.iaload, 1) := by decide +kernel
theorem dX4_putOf_19 : decode cX4_putOf 19 = .ok (.iload_n 1, 1) := by decide +kernel
theorem dX4_putOf_20 : decode cX4_putOf 20 = .ok (.if_icmp .ne 7, 3) := by decide +kernel
theorem dX4_putOf_23 : decode cX4_putOf 23 = .ok (.iconst 1, 1) := by decide +kernel
theorem dX4_putOf_24 : decode cX4_putOf 24 = .ok (.goto 4, 3) := by decide +kernel
theorem dX4_putOf_27 : decode cX4_putOf 27 = .ok (.iconst 0, 1) := by decide +kernel
theorem dX4_putOf_28 : decode cX4_putOf 28 = .ok (.iadd, 1) := by decide +kernel
theorem dX4_putOf_29 : decode cX4_putOf 29 = .ok (.istore_n 2, 1) := by decide +kernel
theorem dX4_putOf_30 : decode cX4_putOf 30 = .ok (.iinc 3 1, 3) := by decide +kernel
theorem dX4_putOf_33 : decode cX4_putOf 33 = .ok (.goto (-29), 3) := by decide +kernel
theorem dX4_putOf_36 : decode cX4_putOf 36 = .ok (.iload_n 2, 1) := by decide +kernel
theorem dX4_putOf_37 : decode cX4_putOf 37 = .ok (.ireturn, 1) := by decide +kernel
theorem dX4_isBetter_0 : decode cX4_isBetter 0 = .ok (.aload_n 0, 1) := by decide +kernel
theorem dX4_isBetter_1 : decode cX4_isBetter 1 = .ok (.getfield 25, 3) := by decide +kernel
theorem dX4_isBetter_4 : decode cX4_isBetter 4 = .ok (.iconst (-1), 1) := by decide +kernel
theorem dX4_isBetter_5 : decode cX4_isBetter 5 = .ok (.if_icmp .eq 27, 3) := by decide +kernel
theorem dX4_isBetter_8 : decode cX4_isBetter 8 = .ok (.iload_n 1, 1) := by decide +kernel
theorem dX4_isBetter_9 : decode cX4_isBetter 9 = .ok (.aload_n 0, 1) := by decide +kernel
theorem dX4_isBetter_10 : decode cX4_isBetter 10 = .ok (.getfield 25, 3) := by decide +kernel
theorem dX4_isBetter_13 : decode cX4_isBetter 13 = .ok (.if_icmp .lt 19, 3) := by decide +kernel
theorem dX4_isBetter_16 : decode cX4_isBetter 16 = .ok (.iload_n 1, 1) := by decide +kernel
theorem dX4_isBetter_17 : decode cX4_isBetter 17 = .ok (.aload_n 0, 1) := by decide +kernel
theorem dX4_isBetter_18 : decode cX4_isBetter 18 = .ok (.getfield 25, 3) := by decide +kernel
theorem dX4_isBetter_21 : decode cX4_isBetter 21 = .ok (.if_icmp .ne 15, 3) := by decide +kernel
theorem dX4_isBetter_24 : decode cX4_isBetter 24 = .ok (.iload_n 2, 1) := by decide +kernel
theorem dX4_isBetter_25 : decode cX4_isBetter 25 = .ok (.aload_n 0, 1) := by decide +kernel
theorem dX4_isBetter_26 : decode cX4_isBetter 26 = .ok (.getfield 28, 3) := by decide +kernel
theorem dX4_isBetter_29 : decode cX4_isBetter 29 = .ok (.if_icmp .ge 7, 3) := by decide +kernel
theorem dX4_isBetter_32 : decode cX4_isBetter 32 = .ok (.iconst 1, 1) := by decide +kernel
theorem dX4_isBetter_33 : decode cX4_isBetter 33 = .ok (.goto 4, 3) := by decide +kernel
theorem dX4_isBetter_36 : decode cX4_isBetter 36 = .ok (.iconst 0, 1) := by decide +kernel
theorem dX4_isBetter_37 : decode cX4_isBetter 37 = .ok (.ireturn, 1) := by decide +kernel
theorem dX4_goOn_0 : decode cX4_goOn 0 = .ok (.aload_n 0, 1) := by decide +kernel
theorem dX4_goOn_1 : decode cX4_goOn 1 = .ok (.getfield 21, 3) := by decide +kernel
theorem dX4_goOn_4 : decode cX4_goOn 4 = .ok (.iconst 1, 1) := by decide +kernel
theorem dX4_goOn_5 : decode cX4_goOn 5 = .ok (.isub, 1) := by decide +kernel
theorem dX4_goOn_6 : decode cX4_goOn 6 = .ok (.istore_n 1, 1) := by decide +kernel
theorem dX4_goOn_7 : decode cX4_goOn 7 = .ok (.iload_n 1, 1) := by decide +kernel
theorem dX4_goOn_8 : decode cX4_goOn 8 = .ok (.ifCond .lt 26, 3) := by decide +kernel
theorem dX4_goOn_11 : decode cX4_goOn 11 = .ok (.aload_n 0, 1) := by decide +kernel
theorem dX4_goOn_12 : decode cX4_goOn 12 = .ok (.getfield 15, 3) := by decide +kernel
theorem dX4_goOn_15 : decode cX4_goOn 15 = .ok (.iload_n 1, 1) := by decide +kernel
theorem dX4_goOn_16 : decode cX4_goOn 16 = .ok (.iaload, 1) := by decide +kernel
theorem dX4_goOn_17 : decode cX4_goOn 17 = .ok (.iconst 2, 1) := by decide +kernel
theorem dX4_goOn_18 : decode cX4_goOn 18 = .ok (.if_icmp .ne 16, 3) := by decide +kernel
theorem dX4_goOn_21 : decode cX4_goOn 21 = .ok (.aload_n 0, 1) := by decide +kernel
theorem dX4_goOn_22 : decode cX4_goOn 22 = .ok (.getfield 15, 3) := by decide +kernel
theorem dX4_goOn_25 : decode cX4_goOn 25 = .ok (.iload_n 1, 1) := by decide +kernel
theorem dX4_goOn_26 : decode cX4_goOn 26 = .ok (.iconst 0, 1) := by decide +kernel
theorem dX4_goOn_27 : decode cX4_goOn 27 = .ok (.iastore, 1) := by decide +kernel
theorem dX4_goOn_28 : decode cX4_goOn 28 = .ok (.iinc 1 (-1), 3) := by decide +kernel
theorem dX4_goOn_31 : decode cX4_goOn 31 = .ok (.goto (-24), 3) := by decide +kernel
theorem dX4_goOn_34 : decode cX4_goOn 34 = .ok (.iload_n 1, 1) := by decide +kernel
theorem dX4_goOn_35 : decode cX4_goOn 35 = .ok (.ifCond .lt 13, 3) := by decide +kernel
theorem dX4_goOn_38 : decode cX4_goOn 38 = .ok (.aload_n 0, 1) := by decide +kernel
theorem dX4_goOn_39 : decode cX4_goOn 39 = .ok (.getfield 15, 3) := by decide +kernel
theorem dX4_goOn_42 : decode cX4_goOn 42 = .ok (.iload_n 1, 1) := by decide +kernel
theorem dX4_goOn_43 : decode cX4_goOn 43 = .ok (.dup2, 1) := by decide +kernel
theorem dX4_goOn_44 : decode cX4_goOn 44 = .ok (.iaload, 1) := by decide +kernel
theorem dX4_goOn_45 : decode cX4_goOn 45 = .ok (.iconst 1, 1) := by decide +kernel
theorem dX4_goOn_46 : decode cX4_goOn 46 = .ok (.iadd, 1) := by decide +kernel
theorem dX4_goOn_47 : decode cX4_goOn 47 = .ok (.iastore, 1) := by decide +kernel
theorem dX4_goOn_48 : decode cX4_goOn 48 = .ok (.return_, 1) := by decide +kernel
theorem dX4_isSafe_0 : decode cX4_isSafe 0 = .ok (.iload_n 2, 1) := by decide +kernel
theorem dX4_isSafe_1 : decode cX4_isSafe 1 = .ok (.bipush 64, 2) := by decide +kernel
theorem dX4_isSafe_3 : decode cX4_isSafe 3 = .ok (.ior, 1) := by decide +kernel
theorem dX4_isSafe_4 : decode cX4_isSafe 4 = .ok (.istore_n 3, 1) := by decide +kernel
theorem dX4_isSafe_5 : decode cX4_isSafe 5 = .ok (.iconst 0, 1) := by decide +kernel
theorem dX4_isSafe_6 : decode cX4_isSafe 6 = .ok (.istore 4, 2) := by decide +kernel
theorem dX4_isSafe_8 : decode cX4_isSafe 8 = .ok (.iconst 0, 1) := by decide +kernel
theorem dX4_isSafe_9 : decode cX4_isSafe 9 = .ok (.istore 5, 2) := by decide +kernel
theorem dX4_isSafe_11 : decode cX4_isSafe 11 = .ok (.aload_n 0, 1) := by decide +kernel
theorem dX4_isSafe_12 : decode cX4_isSafe 12 = .ok (.getfield 11, 3) := by decide +kernel
theorem dX4_isSafe_15 : decode cX4_isSafe 15 = .ok (.iconst 0, 1) := by decide +kernel
theorem dX4_isSafe_16 : decode cX4_isSafe 16 = .ok (.iaload, 1) := by decide +kernel
theorem dX4_isSafe_17 : decode cX4_isSafe 17 = .ok (.iload_n 3, 1) := by decide +kernel
theorem dX4_isSafe_18 : decode cX4_isSafe 18 = .ok (.iand, 1) := by decide +kernel
theorem dX4_isSafe_19 : decode cX4_isSafe 19 = .ok (.ifCond .ne 7, 3) := by decide +kernel
theorem dX4_isSafe_22 : decode cX4_isSafe 22 = .ok (.iconst 1, 1) := by decide +kernel
theorem dX4_isSafe_23 : decode cX4_isSafe 23 = .ok (.goto 4, 3) := by decide +kernel
theorem dX4_isSafe_26 : decode cX4_isSafe 26 = .ok (.iconst 0, 1) := by decide +kernel
theorem dX4_isSafe_27 : decode cX4_isSafe 27 = .ok (.istore 6, 2) := by decide +kernel
theorem dX4_isSafe_29 : decode cX4_isSafe 29 = .ok (.iconst 0, 1) := by decide +kernel
theorem dX4_isSafe_30 : decode cX4_isSafe 30 = .ok (.istore 7, 2) := by decide +kernel
theorem dX4_isSafe_32 : decode cX4_isSafe 32 = .ok (.iload 7, 2) := by decide +kernel
theorem dX4_isSafe_34 : decode cX4_isSafe 34 = .ok (.aload_n 0, 1) := by decide +kernel
theorem dX4_isSafe_35 : decode cX4_isSafe 35 = .ok (.getfield 21, 3) := by decide +kernel
theorem dX4_isSafe_38 : decode cX4_isSafe 38 = .ok (.if_icmp .gt 181, 3) := by decide +kernel
theorem dX4_isSafe_41 : decode cX4_isSafe 41 = .ok (.iload 7, 2) := by decide +kernel
theorem dX4_isSafe_43 : decode cX4_isSafe 43 = .ok (.aload_n 1, 1) := by decide +kernel
theorem dX4_isSafe_44 : decode cX4_isSafe 44 = .ok (.getfield 31, 3) := by decide +kernel
theorem dX4_isSafe_47 : decode cX4_isSafe 47 = .ok (.if_icmp .ge 172, 3) := by decide +kernel
theorem dX4_isSafe_50 : decode cX4_isSafe 50 = .ok (.iload 6, 2) := by decide +kernel
theorem dX4_isSafe_52 : decode cX4_isSafe 52 = .ok (.ifCond .eq 167, 3) := by decide +kernel
theorem dX4_isSafe_55 : decode cX4_isSafe 55 = .ok (.aload_n 1, 1) := by decide +kernel
theorem dX4_isSafe_56 : decode cX4_isSafe 56 = .ok (.getfield 51, 3) := by decide +kernel
theorem dX4_isSafe_59 : decode cX4_isSafe 59 = .ok (.iload 7, 2) := by decide +kernel
theorem dX4_isSafe_61 : decode cX4_isSafe 61 = .ok (.aaload, 1) := by decide +kernel
theorem dX4_isSafe_62 : decode cX4_isSafe 62 = .ok (.astore 8, 2) := by decide +kernel
theorem dX4_isSafe_64 : decode cX4_isSafe 64 = .ok (.aload 8, 2) := by decide +kernel
theorem dX4_isSafe_66 : decode cX4_isSafe 66 = .ok (.invokevirtual 93, 3) := by decide +kernel
theorem dX4_isSafe_69 : decode cX4_isSafe 69 = .ok (.ifCond .eq 40, 3) := by decide +kernel
theorem dX4_isSafe_72 : decode cX4_isSafe 72 = .ok (.aload 8, 2) := by decide +kernel
theorem dX4_isSafe_74 : decode cX4_isSafe 74 = .ok (.getfield 96, 3) := by decide +kernel
theorem dX4_isSafe_77 : decode cX4_isSafe 77 = .ok (.iconst 3, 1) := by decide +kernel
theorem dX4_isSafe_78 : decode cX4_isSafe 78 = .ok (.if_icmp .ne 7, 3) := by decide +kernel
theorem dX4_isSafe_81 : decode cX4_isSafe 81 = .ok (.iconst 0, 1) := by decide +kernel
theorem dX4_isSafe_82 : decode cX4_isSafe 82 = .ok (.goto 19, 3) := by decide +kernel
theorem dX4_isSafe_85 : decode cX4_isSafe 85 = .ok (.iload 4, 2) := by decide +kernel
theorem dX4_isSafe_87 : decode cX4_isSafe 87 = .ok (.aload_n 0, 1) := by decide +kernel
theorem dX4_isSafe_88 : decode cX4_isSafe 88 = .ok (.getfield 11, 3) := by decide +kernel
theorem dX4_isSafe_91 : decode cX4_isSafe 91 = .ok (.iload 5, 2) := by decide +kernel
theorem dX4_isSafe_93 : decode cX4_isSafe 93 = .ok (.bipush 9, 2) := by decide +kernel
theorem dX4_isSafe_95 : decode cX4_isSafe 95 = .ok (.imul, 1) := by decide +kernel
theorem dX4_isSafe_96 : decode cX4_isSafe 96 = .ok (.iload 7, 2) := by decide +kernel
theorem dX4_isSafe_98 : decode cX4_isSafe 98 = .ok (.iadd, 1) := by decide +kernel
theorem dX4_isSafe_99 : decode cX4_isSafe 99 = .ok (.iaload, 1) := by decide +kernel
theorem dX4_isSafe_100 : decode cX4_isSafe 100 = .ok (.ior, 1) := by decide +kernel
theorem dX4_isSafe_101 : decode cX4_isSafe 101 = .ok (.istore 4, 2) := by decide +kernel
theorem dX4_isSafe_103 : decode cX4_isSafe 103 = .ok (.iload 7, 2) := by decide +kernel
theorem dX4_isSafe_105 : decode cX4_isSafe 105 = .ok (.iconst 1, 1) := by decide +kernel
theorem dX4_isSafe_106 : decode cX4_isSafe 106 = .ok (.iadd, 1) := by decide +kernel
theorem dX4_isSafe_107 : decode cX4_isSafe 107 = .ok (.istore 5, 2) := by decide +kernel
theorem dX4_isSafe_109 : decode cX4_isSafe 109 = .ok (.iload_n 3, 1) := by decide +kernel
theorem dX4_isSafe_110 : decode cX4_isSafe 110 = .ok (.aload 8, 2) := by decide +kernel
theorem dX4_isSafe_112 : decode cX4_isSafe 112 = .ok (.getfield 96, 3) := by decide +kernel
theorem dX4_isSafe_115 : decode cX4_isSafe 115 = .ok (.iconst 4, 1) := by decide +kernel
theorem dX4_isSafe_116 : decode cX4_isSafe 116 = .ok (.if_icmp .ne 13, 3) := by decide +kernel
theorem dX4_isSafe_119 : decode cX4_isSafe 119 = .ok (.iconst 1, 1) := by decide +kernel
theorem dX4_isSafe_120 : decode cX4_isSafe 120 = .ok (.aload 8, 2) := by decide +kernel
theorem dX4_isSafe_122 : decode cX4_isSafe 122 = .ok (.getfield 99, 3) := by decide +kernel
theorem dX4_isSafe_125 : decode cX4_isSafe 125 = .ok (.ishl, 1) := by decide +kernel
theorem dX4_isSafe_126 : decode cX4_isSafe 126 = .ok (.goto 4, 3) := by decide +kernel
theorem dX4_isSafe_129 : decode cX4_isSafe 129 = .ok (.iconst 0, 1) := by decide +kernel
theorem dX4_isSafe_130 : decode cX4_isSafe 130 = .ok (.ior, 1) := by decide +kernel
theorem dX4_isSafe_131 : decode cX4_isSafe 131 = .ok (.istore_n 3, 1) := by decide +kernel
theorem dX4_isSafe_132 : decode cX4_isSafe 132 = .ok (.iload 4, 2) := by decide +kernel
theorem dX4_isSafe_134 : decode cX4_isSafe 134 = .ok (.aload_n 0, 1) := by decide +kernel
theorem dX4_isSafe_135 : decode cX4_isSafe 135 = .ok (.getfield 11, 3) := by decide +kernel
theorem dX4_isSafe_138 : decode cX4_isSafe 138 = .ok (.iload 5, 2) := by decide +kernel
theorem dX4_isSafe_140 : decode cX4_isSafe 140 = .ok (.bipush 9, 2) := by decide +kernel
theorem dX4_isSafe_142 : decode cX4_isSafe 142 = .ok (.imul, 1) := by decide +kernel
theorem dX4_isSafe_143 : decode cX4_isSafe 143 = .ok (.iload 7, 2) := by decide +kernel
theorem dX4_isSafe_145 : decode cX4_isSafe 145 = .ok (.iadd, 1) := by decide +kernel
theorem dX4_isSafe_146 : decode cX4_isSafe 146 = .ok (.iconst 1, 1) := by decide +kernel
theorem dX4_isSafe_147 : decode cX4_isSafe 147 = .ok (.iadd, 1) := by decide +kernel
theorem dX4_isSafe_148 : decode cX4_isSafe 148 = .ok (.iaload, 1) := by decide +kernel
theorem dX4_isSafe_149 : decode cX4_isSafe 149 = .ok (.ior, 1) := by decide +kernel
theorem dX4_isSafe_150 : decode cX4_isSafe 150 = .ok (.iload_n 3, 1) := by decide +kernel
theorem dX4_isSafe_151 : decode cX4_isSafe 151 = .ok (.iand, 1) := by decide +kernel
theorem dX4_isSafe_152 : decode cX4_isSafe 152 = .ok (.ifCond .ne 7, 3) := by decide +kernel
theorem dX4_isSafe_155 : decode cX4_isSafe 155 = .ok (.iconst 1, 1) := by decide +kernel
theorem dX4_isSafe_156 : decode cX4_isSafe 156 = .ok (.goto 4, 3) := by decide +kernel
theorem dX4_isSafe_159 : decode cX4_isSafe 159 = .ok (.iconst 0, 1) := by decide +kernel
theorem dX4_isSafe_160 : decode cX4_isSafe 160 = .ok (.istore 6, 2) := by decide +kernel
theorem dX4_isSafe_162 : decode cX4_isSafe 162 = .ok (.aload_n 0, 1) := by decide +kernel
theorem dX4_isSafe_163 : decode cX4_isSafe 163 = .ok (.getfield 15, 3) := by decide +kernel
theorem dX4_isSafe_166 : decode cX4_isSafe 166 = .ok (.iload 7, 2) := by decide +kernel
theorem dX4_isSafe_168 : decode cX4_isSafe 168 = .ok (.iaload, 1) := by decide +kernel
theorem dX4_isSafe_169 : decode cX4_isSafe 169 = .ok (.ifCond .eq 44, 3) := by decide +kernel
theorem dX4_isSafe_172 : decode cX4_isSafe 172 = .ok (.aload_n 0, 1) := by decide +kernel
theorem dX4_isSafe_173 : decode cX4_isSafe 173 = .ok (.getfield 15, 3) := by decide +kernel
theorem dX4_isSafe_176 : decode cX4_isSafe 176 = .ok (.iload 7, 2) := by decide +kernel
theorem dX4_isSafe_178 : decode cX4_isSafe 178 = .ok (.iaload, 1) := by decide +kernel
theorem dX4_isSafe_179 : decode cX4_isSafe 179 = .ok (.iconst 2, 1) := by decide +kernel
theorem dX4_isSafe_180 : decode cX4_isSafe 180 = .ok (.if_icmp .ne 7, 3) := by decide +kernel
theorem dX4_isSafe_183 : decode cX4_isSafe 183 = .ok (.iconst 0, 1) := by decide +kernel
theorem dX4_isSafe_184 : decode cX4_isSafe 184 = .ok (.goto 21, 3) := by decide +kernel
theorem dX4_isSafe_187 : decode cX4_isSafe 187 = .ok (.iload 4, 2) := by decide +kernel
theorem dX4_isSafe_189 : decode cX4_isSafe 189 = .ok (.aload_n 0, 1) := by decide +kernel
theorem dX4_isSafe_190 : decode cX4_isSafe 190 = .ok (.getfield 11, 3) := by decide +kernel
theorem dX4_isSafe_193 : decode cX4_isSafe 193 = .ok (.iload 5, 2) := by decide +kernel
theorem dX4_isSafe_195 : decode cX4_isSafe 195 = .ok (.bipush 9, 2) := by decide +kernel
theorem dX4_isSafe_197 : decode cX4_isSafe 197 = .ok (.imul, 1) := by decide +kernel
theorem dX4_isSafe_198 : decode cX4_isSafe 198 = .ok (.iload 7, 2) := by decide +kernel
theorem dX4_isSafe_200 : decode cX4_isSafe 200 = .ok (.iadd, 1) := by decide +kernel
theorem dX4_isSafe_201 : decode cX4_isSafe 201 = .ok (.iconst 1, 1) := by decide +kernel
theorem dX4_isSafe_202 : decode cX4_isSafe 202 = .ok (.iadd, 1) := by decide +kernel
theorem dX4_isSafe_203 : decode cX4_isSafe 203 = .ok (.iaload, 1) := by decide +kernel
theorem dX4_isSafe_204 : decode cX4_isSafe 204 = .ok (.ior, 1) := by decide +kernel
theorem dX4_isSafe_205 : decode cX4_isSafe 205 = .ok (.istore 4, 2) := by decide +kernel
theorem dX4_isSafe_207 : decode cX4_isSafe 207 = .ok (.iload 7, 2) := by decide +kernel
theorem dX4_isSafe_209 : decode cX4_isSafe 209 = .ok (.iconst 1, 1) := by decide +kernel
theorem dX4_isSafe_210 : decode cX4_isSafe 210 = .ok (.iadd, 1) := by decide +kernel
theorem dX4_isSafe_211 : decode cX4_isSafe 211 = .ok (.istore 5, 2) := by decide +kernel
theorem dX4_isSafe_213 : decode cX4_isSafe 213 = .ok (.iinc 7 1, 3) := by decide +kernel
theorem dX4_isSafe_216 : decode cX4_isSafe 216 = .ok (.goto (-184), 3) := by decide +kernel
theorem dX4_isSafe_219 : decode cX4_isSafe 219 = .ok (.iload 6, 2) := by decide +kernel
theorem dX4_isSafe_221 : decode cX4_isSafe 221 = .ok (.ireturn, 1) := by decide +kernel
theorem dX5_init_0 : decode cX5_init 0 = .ok (.aload_n 0, 1) := by decide +kernel
theorem dX5_init_1 : decode cX5_init 1 = .ok (.invokespecial 3, 3) := by decide +kernel
theorem dX5_init_4 : decode cX5_init 4 = .ok (.aload_n 0, 1) := by decide +kernel
theorem dX5_init_5 : decode cX5_init 5 = .ok (.bipush 12, 2) := by decide +kernel
theorem dX5_init_7 : decode cX5_init 7 = .ok (.anewarray 9, 3) := by decide +kernel
theorem dX5_init_10 : decode cX5_init 10 = .ok (.putfield 11, 3) := by decide +kernel
theorem dX5_init_13 : decode cX5_init 13 = .ok (.aload_n 0, 1) := by decide +kernel
theorem dX5_init_14 : decode cX5_init 14 = .ok (.iconst 0, 1) := by decide +kernel
theorem dX5_init_15 : decode cX5_init 15 = .ok (.putfield 17, 3) := by decide +kernel
theorem dX5_init_18 : decode cX5_init 18 = .ok (.aload_n 0, 1) := by decide +kernel
theorem dX5_init_19 : decode cX5_init 19 = .ok (.lconst 0, 1) := by decide +kernel
theorem dX5_init_20 : decode cX5_init 20 = .ok (.putfield 21, 3) := by decide +kernel
theorem dX5_init_23 : decode cX5_init 23 = .ok (.iconst 0, 1) := by decide +kernel
theorem dX5_init_24 : decode cX5_init 24 = .ok (.istore_n 1, 1) := by decide +kernel
theorem dX5_init_25 : decode cX5_init 25 = .ok (.iload_n 1, 1) := by decide +kernel
theorem dX5_init_26 : decode cX5_init 26 = .ok (.bipush 12, 2) := by decide +kernel
theorem dX5_init_28 : decode cX5_init 28 = .ok (.if_icmp .ge 22, 3) := by decide +kernel
theorem dX5_init_31 : decode cX5_init 31 = .ok (.aload_n 0, 1) := by decide +kernel
theorem dX5_init_32 : decode cX5_init 32 = .ok (.getfield 11, 3) := by decide +kernel
theorem dX5_init_35 : decode cX5_init 35 = .ok (.iload_n 1, 1) := by decide +kernel
theorem dX5_init_36 : decode cX5_init 36 = .ok (.new 9, 3) := by decide +kernel
theorem dX5_init_39 : decode cX5_init 39 = .ok (.dup, 1) := by decide +kernel
theorem dX5_init_40 : decode cX5_init 40 = .ok (.invokespecial 25, 3) := by decide +kernel
theorem dX5_init_43 : decode cX5_init 43 = .ok (.aastore, 1) := by decide +kernel
theorem dX5_init_44 : decode cX5_init 44 = .ok (.iinc 1 1, 3) := by decide +kernel
theorem dX5_init_47 : decode cX5_init 47 = .ok (.goto (-22), 3) := by decide +kernel
theorem dX5_init_50 : decode cX5_init 50 = .ok (.return_, 1) := by decide +kernel
theorem dX5_has_0 : decode cX5_has 0 = .ok (.iload_n 1, 1) := by decide +kernel
theorem dX5_has_1 : decode cX5_has 1 = .ok (.ifCond .lt 15, 3) := by decide +kernel
theorem dX5_has_4 : decode cX5_has 4 = .ok (.iload_n 1, 1) := by decide +kernel
theorem dX5_has_5 : decode cX5_has 5 = .ok (.aload_n 0, 1) := by decide +kernel
theorem dX5_has_6 : decode cX5_has 6 = .ok (.getfield 17, 3) := by decide +kernel
theorem dX5_has_9 : decode cX5_has 9 = .ok (.if_icmp .ge 7, 3) := by decide +kernel
theorem dX5_has_12 : decode cX5_has 12 = .ok (.iconst 1, 1) := by decide +kernel
theorem dX5_has_13 : decode cX5_has 13 = .ok (.goto 4, 3) := by decide +kernel
theorem dX5_has_16 : decode cX5_has 16 = .ok (.iconst 0, 1) := by decide +kernel
theorem dX5_has_17 : decode cX5_has 17 = .ok (.ireturn, 1) := by decide +kernel
theorem dX5_hasBehind_0 : decode cX5_hasBehind 0 = .ok (.iload_n 1, 1) := by decide +kernel
theorem dX5_hasBehind_1 : decode cX5_hasBehind 1 = .ok (.ifCond .lt 15, 3) := by decide +kernel
theorem dX5_hasBehind_4 : decode cX5_hasBehind 4 = .ok (.iload_n 1, 1) := by decide +kernel
theorem dX5_hasBehind_5 : decode cX5_hasBehind 5 = .ok (.aload_n 0, 1) := by decide +kernel
theorem dX5_hasBehind_6 : decode cX5_hasBehind 6 = .ok (.getfield 17, 3) := by decide +kernel
theorem dX5_hasBehind_9 : decode cX5_hasBehind 9 = .ok (.if_icmp .gt 7, 3) := by decide +kernel
theorem dX5_hasBehind_12 : decode cX5_hasBehind 12 = .ok (.iconst 1, 1) := by decide +kernel
theorem dX5_hasBehind_13 : decode cX5_hasBehind 13 = .ok (.goto 4, 3) := by decide +kernel
theorem dX5_hasBehind_16 : decode cX5_hasBehind 16 = .ok (.iconst 0, 1) := by decide +kernel
theorem dX5_hasBehind_17 : decode cX5_hasBehind 17 = .ok (.ireturn, 1) := by decide +kernel
theorem dX5_isWrite_0 : decode cX5_isWrite 0 = .ok (.aload_n 0, 1) := by decide +kernel
theorem dX5_isWrite_1 : decode cX5_isWrite 1 = .ok (.iload_n 1, 1) := by decide +kernel
theorem dX5_isWrite_2 : decode cX5_isWrite 2 = .ok (.invokevirtual 26, 3) := by decide +kernel
theorem dX5_isWrite_5 : decode cX5_isWrite 5 = .ok (.ifCond .eq 19, 3) := by decide +kernel
theorem dX5_isWrite_8 : decode cX5_isWrite 8 = .ok (.aload_n 0, 1) := by decide +kernel
theorem dX5_isWrite_9 : decode cX5_isWrite 9 = .ok (.getfield 11, 3) := by decide +kernel
theorem dX5_isWrite_12 : decode cX5_isWrite 12 = .ok (.iload_n 1, 1) := by decide +kernel
theorem dX5_isWrite_13 : decode cX5_isWrite 13 = .ok (.aaload, 1) := by decide +kernel
theorem dX5_isWrite_14 : decode cX5_isWrite 14 = .ok (.invokevirtual 30, 3) := by decide +kernel
theorem dX5_isWrite_17 : decode cX5_isWrite 17 = .ok (.ifCond .eq 7, 3) := by decide +kernel
theorem dX5_isWrite_20 : decode cX5_isWrite 20 = .ok (.iconst 1, 1) := by decide +kernel
theorem dX5_isWrite_21 : decode cX5_isWrite 21 = .ok (.goto 4, 3) := by decide +kernel
theorem dX5_isWrite_24 : decode cX5_isWrite 24 = .ok (.iconst 0, 1) := by decide +kernel
theorem dX5_isWrite_25 : decode cX5_isWrite 25 = .ok (.ireturn, 1) := by decide +kernel
theorem dX5_exchange_0 : decode cX5_exchange 0 = .ok (.aload_n 0, 1) := by decide +kernel
theorem dX5_exchange_1 : decode cX5_exchange 1 = .ok (.getfield 11, 3) := by decide +kernel
theorem dX5_exchange_4 : decode cX5_exchange 4 = .ok (.iload_n 1, 1) := by decide +kernel
theorem dX5_exchange_5 : decode cX5_exchange 5 = .ok (.aaload, 1) := by decide +kernel
theorem dX5_exchange_6 : decode cX5_exchange 6 = .ok (.astore_n 3, 1) := by decide +kernel
theorem dX5_exchange_7 : decode cX5_exchange 7 = .ok (.aload_n 0, 1) := by decide +kernel
theorem dX5_exchange_8 : decode cX5_exchange 8 = .ok (.getfield 11, 3) := by decide +kernel
theorem dX5_exchange_11 : decode cX5_exchange 11 = .ok (.iload_n 1, 1) := by decide +kernel
theorem dX5_exchange_12 : decode cX5_exchange 12 = .ok (.aload_n 0, 1) := by decide +kernel
theorem dX5_exchange_13 : decode cX5_exchange 13 = .ok (.getfield 11, 3) := by decide +kernel
theorem dX5_exchange_16 : decode cX5_exchange 16 = .ok (.iload_n 2, 1) := by decide +kernel
theorem dX5_exchange_17 : decode cX5_exchange 17 = .ok (.aaload, 1) := by decide +kernel
theorem dX5_exchange_18 : decode cX5_exchange 18 = .ok (.aastore, 1) := by decide +kernel
theorem dX5_exchange_19 : decode cX5_exchange 19 = .ok (.aload_n 0, 1) := by decide +kernel
theorem dX5_exchange_20 : decode cX5_exchange 20 = .ok (.getfield 11, 3) := by decide +kernel
theorem dX5_exchange_23 : decode cX5_exchange 23 = .ok (.iload_n 2, 1) := by decide +kernel
theorem dX5_exchange_24 : decode cX5_exchange 24 = .ok (.aload_n 3, 1) := by decide +kernel
theorem dX5_exchange_25 : decode cX5_exchange 25 = .ok (.aastore, 1) := by decide +kernel
theorem dX5_exchange_26 : decode cX5_exchange 26 = .ok (.return_, 1) := by decide +kernel
theorem dX5_writes_0 : decode cX5_writes 0 = .ok (.aload_n 0, 1) := by decide +kernel
theorem dX5_writes_1 : decode cX5_writes 1 = .ok (.iconst 0, 1) := by decide +kernel
theorem dX5_writes_2 : decode cX5_writes 2 = .ok (.aload_n 0, 1) := by decide +kernel
theorem dX5_writes_3 : decode cX5_writes 3 = .ok (.getfield 17, 3) := by decide +kernel
theorem dX5_writes_6 : decode cX5_writes 6 = .ok (.invokevirtual 34, 3) := by decide +kernel
theorem dX5_writes_9 : decode cX5_writes 9 = .ok (.ireturn, 1) := by decide +kernel
theorem dX5_writesWithin_0 : decode cX5_writesWithin 0 = .ok (.iconst 0, 1) := by decide +kernel
theorem dX5_writesWithin_1 : decode cX5_writesWithin 1 = .ok (.istore_n 3, 1) := by decide +kernel
theorem dX5_writesWithin_2 : decode cX5_writesWithin 2 = .ok (.iload_n 1, 1) := by decide +kernel
theorem dX5_writesWithin_3 : decode cX5_writesWithin 3 = .ok (.istore 4, 2) := by decide +kernel
theorem dX5_writesWithin_5 : decode cX5_writesWithin 5 = .ok (.iload 4, 2) := by decide +kernel
theorem dX5_writesWithin_7 : decode cX5_writesWithin 7 = .ok (.iload_n 2, 1) := by decide +kernel
theorem dX5_writesWithin_8 : decode cX5_writesWithin 8 = .ok (.if_icmp .ge 33, 3) := by decide +kernel
theorem dX5_writesWithin_11 : decode cX5_writesWithin 11 = .ok (.iload_n 3, 1) := by decide +kernel
theorem dX5_writesWithin_12 : decode cX5_writesWithin 12 = .ok (.aload_n 0, 1) := by decide +kernel
theorem dX5_writesWithin_13 : decode cX5_writesWithin 13 = .ok (.getfield 11, 3) := by decide +kernel
theorem dX5_writesWithin_16 : decode cX5_writesWithin 16 = .ok (.iload 4, 2) := by decide +kernel
theorem dX5_writesWithin_18 : decode cX5_writesWithin 18 = .ok (.aaload, 1) := by decide +kernel
theorem dX5_writesWithin_19 : decode cX5_writesWithin 19 = .ok (.invokevirtual 30, 3) := by decide +kernel
theorem dX5_writesWithin_22 : decode cX5_writesWithin 22 = .ok (.ifCond .eq 10, 3) := by decide +kernel
theorem dX5_writesWithin_25 : decode cX5_writesWithin 25 = .ok (.iconst 1, 1) := by decide +kernel
theorem dX5_writesWithin_26 : decode cX5_writesWithin 26 = .ok (.iload 4, 2) := by decide +kernel
theorem dX5_writesWithin_28 : decode cX5_writesWithin 28 = .ok (.ishl, 1) := by decide +kernel
theorem dX5_writesWithin_29 : decode cX5_writesWithin 29 = .ok (.goto 4, 3) := by decide +kernel
theorem dX5_writesWithin_32 : decode cX5_writesWithin 32 = .ok (.iconst 0, 1) := by decide +kernel
theorem dX5_writesWithin_33 : decode cX5_writesWithin 33 = .ok (.ior, 1) := by decide +kernel
theorem dX5_writesWithin_34 : decode cX5_writesWithin 34 = .ok (.istore_n 3, 1) := by decide +kernel
theorem dX5_writesWithin_35 : decode cX5_writesWithin 35 = .ok (.iinc 4 1, 3) := by decide +kernel
theorem dX5_writesWithin_38 : decode cX5_writesWithin 38 = .ok (.goto (-33), 3) := by decide +kernel
theorem dX5_writesWithin_41 : decode cX5_writesWithin 41 = .ok (.iload_n 3, 1) := by decide +kernel
theorem dX5_writesWithin_42 : decode cX5_writesWithin 42 = .ok (.ireturn, 1) := by decide +kernel
theorem dX5_epochStart_0 : decode cX5_epochStart 0 = .ok (.iload_n 1, 1) := by decide +kernel
theorem dX5_epochStart_1 : decode cX5_epochStart 1 = .ok (.istore_n 2, 1) := by decide +kernel
theorem dX5_epochStart_2 : decode cX5_epochStart 2 = .ok (.iload_n 2, 1) := by decide +kernel
theorem dX5_epochStart_3 : decode cX5_epochStart 3 = .ok (.ifCond .le 23, 3) := by decide +kernel
theorem dX5_epochStart_6 : decode cX5_epochStart 6 = .ok (.aload_n 0, 1) := by decide +kernel
theorem dX5_epochStart_7 : decode cX5_epochStart 7 = .ok (.getfield 11, 3) := by decide +kernel
theorem dX5_epochStart_10 : decode cX5_epochStart 10 = .ok (.iload_n 2, 1) := by decide +kernel
theorem dX5_epochStart_11 : decode cX5_epochStart 11 = .ok (.iconst 1, 1) := by decide +kernel
theorem dX5_epochStart_12 : decode cX5_epochStart 12 = .ok (.isub, 1) := by decide +kernel
theorem dX5_epochStart_13 : decode cX5_epochStart 13 = .ok (.aaload, 1) := by decide +kernel
theorem dX5_epochStart_14 : decode cX5_epochStart 14 = .ok (.invokevirtual 38, 3) := by decide +kernel
theorem dX5_epochStart_17 : decode cX5_epochStart 17 = .ok (.ifCond .ne 9, 3) := by decide +kernel
theorem dX5_epochStart_20 : decode cX5_epochStart 20 = .ok (.iinc 2 (-1), 3) := by decide +kernel
theorem dX5_epochStart_23 : decode cX5_epochStart 23 = .ok (.goto (-21), 3) := by decide +kernel
theorem dX5_epochStart_26 : decode cX5_epochStart 26 = .ok (.iload_n 2, 1) := by decide +kernel
theorem dX5_epochStart_27 : decode cX5_epochStart 27 = .ok (.ireturn, 1) := by decide +kernel
theorem dX5_epochEnd_0 : decode cX5_epochEnd 0 = .ok (.iload_n 1, 1) := by decide +kernel
theorem dX5_epochEnd_1 : decode cX5_epochEnd 1 = .ok (.istore_n 2, 1) := by decide +kernel
theorem dX5_epochEnd_2 : decode cX5_epochEnd 2 = .ok (.iload_n 2, 1) := by decide +kernel
theorem dX5_epochEnd_3 : decode cX5_epochEnd 3 = .ok (.aload_n 0, 1) := by decide +kernel
theorem dX5_epochEnd_4 : decode cX5_epochEnd 4 = .ok (.getfield 17, 3) := by decide +kernel
theorem dX5_epochEnd_7 : decode cX5_epochEnd 7 = .ok (.if_icmp .ge 21, 3) := by decide +kernel
theorem dX5_epochEnd_10 : decode cX5_epochEnd 10 = .ok (.aload_n 0, 1) := by decide +kernel
theorem dX5_epochEnd_11 : decode cX5_epochEnd 11 = .ok (.getfield 11, 3) := by decide +kernel
theorem dX5_epochEnd_14 : decode cX5_epochEnd 14 = .ok (.iload_n 2, 1) := by decide +kernel
theorem dX5_epochEnd_15 : decode cX5_epochEnd 15 = .ok (.aaload, 1) := by decide +kernel
theorem dX5_epochEnd_16 : decode cX5_epochEnd 16 = .ok (.invokevirtual 38, 3) := by decide +kernel
theorem dX5_epochEnd_19 : decode cX5_epochEnd 19 = .ok (.ifCond .ne 9, 3) := by decide +kernel
theorem dX5_epochEnd_22 : decode cX5_epochEnd 22 = .ok (.iinc 2 1, 3) := by decide +kernel
theorem dX5_epochEnd_25 : decode cX5_epochEnd 25 = .ok (.goto (-23), 3) := by decide +kernel
theorem dX5_epochEnd_28 : decode cX5_epochEnd 28 = .ok (.iload_n 2, 1) := by decide +kernel
theorem dX5_epochEnd_29 : decode cX5_epochEnd 29 = .ok (.ireturn, 1) := by decide +kernel
theorem dX5_behindLastFlush_0 : decode cX5_behindLastFlush 0 = .ok (.iload_n 1, 1) := by decide +kernel
theorem dX5_behindLastFlush_1 : decode cX5_behindLastFlush 1 = .ok (.istore_n 2, 1) := by decide +kernel
theorem dX5_behindLastFlush_2 : decode cX5_behindLastFlush 2 = .ok (.iload_n 2, 1) := by decide +kernel
theorem dX5_behindLastFlush_3 : decode cX5_behindLastFlush 3 = .ok (.ifCond .le 24, 3) := by decide +kernel
theorem dX5_behindLastFlush_6 : decode cX5_behindLastFlush 6 = .ok (.aload_n 0, 1) := by decide +kernel
theorem dX5_behindLastFlush_7 : decode cX5_behindLastFlush 7 = .ok (.getfield 11, 3) := by decide +kernel
theorem dX5_behindLastFlush_10 : decode cX5_behindLastFlush 10 = .ok (.iload_n 2, 1) := by decide +kernel
theorem dX5_behindLastFlush_11 : decode cX5_behindLastFlush 11 = .ok (.iconst 1, 1) := by decide +kernel
theorem dX5_behindLastFlush_12 : decode cX5_behindLastFlush 12 = .ok (.isub, 1) := by decide +kernel
theorem dX5_behindLastFlush_13 : decode cX5_behindLastFlush 13 = .ok (.aaload, 1) := by decide +kernel
theorem dX5_behindLastFlush_14 : decode cX5_behindLastFlush 14 = .ok (.getfield 41, 3) := by decide +kernel
theorem dX5_behindLastFlush_17 : decode cX5_behindLastFlush 17 = .ok (.iconst 3, 1) := by decide +kernel
theorem dX5_behindLastFlush_18 : decode cX5_behindLastFlush 18 = .ok (.if_icmp .eq 9, 3) := by decide +kernel
theorem dX5_behindLastFlush_21 : decode cX5_behindLastFlush 21 = .ok (.iinc 2 (-1), 3) := by decide +kernel
theorem dX5_behindLastFlush_24 : decode cX5_behindLastFlush 24 = .ok (.goto (-22), 3) := by decide +kernel
theorem dX5_behindLastFlush_27 : decode cX5_behindLastFlush 27 = .ok (.iload_n 2, 1) := by decide +kernel
theorem dX5_behindLastFlush_28 : decode cX5_behindLastFlush 28 = .ok (.ireturn, 1) := by decide +kernel
theorem dX5_epochsWithWrites_0 : decode cX5_epochsWithWrites 0 = .ok (.iconst 0, 1) := by decide +kernel
theorem dX5_epochsWithWrites_1 : decode cX5_epochsWithWrites 1 = .ok (.istore_n 1, 1) := by decide +kernel
theorem dX5_epochsWithWrites_2 : decode cX5_epochsWithWrites 2 = .ok (.iconst 0, 1) := by decide +kernel
theorem dX5_epochsWithWrites_3 : decode cX5_epochsWithWrites 3 = .ok (.istore_n 2, 1) := by decide +kernel
theorem dX5_epochsWithWrites_4 : decode cX5_epochsWithWrites 4 = .ok (.iconst 0, 1) := by decide +kernel
theorem dX5_epochsWithWrites_5 : decode cX5_epochsWithWrites 5 = .ok (.istore_n 3, 1) := by decide +kernel
theorem dX5_epochsWithWrites_6 : decode cX5_epochsWithWrites 6 = .ok (.iload_n 3, 1) := by decide +kernel
theorem dX5_epochsWithWrites_7 : decode cX5_epochsWithWrites 7 = .ok (.aload_n 0, 1) := by decide +kernel
theorem dX5_epochsWithWrites_8 : decode cX5_epochsWithWrites 8 = .ok (.getfield 17, 3) := by decide +kernel
theorem dX5_epochsWithWrites_11 : decode cX5_epochsWithWrites 11 = .ok (.if_icmp .ge 47, 3) := by decide +kernel
theorem dX5_epochsWithWrites_14 : decode cX5_epochsWithWrites 14 = .ok (.aload_n 0, 1) := by decide +kernel
theorem dX5_epochsWithWrites_15 : decode cX5_epochsWithWrites 15 = .ok (.getfield 11, 3) := by decide +kernel
theorem dX5_epochsWithWrites_18 : decode cX5_epochsWithWrites 18 = .ok (.iload_n 3, 1) := by decide +kernel
theorem dX5_epochsWithWrites_19 : decode cX5_epochsWithWrites 19 = .ok (.aaload, 1) := by decide +kernel
theorem dX5_epochsWithWrites_20 : decode cX5_epochsWithWrites 20 = .ok (.invokevirtual 30, 3) := by decide +kernel
theorem dX5_epochsWithWrites_23 : decode cX5_epochsWithWrites 23 = .ok (.ifCond .eq 15, 3) := by decide +kernel
theorem dX5_epochsWithWrites_26 : decode cX5_epochsWithWrites 26 = .ok (.iload_n 2, 1) := by decide +kernel
theorem dX5_epochsWithWrites_27 : decode cX5_epochsWithWrites 27 = .ok (.ifCond .ne 11, 3) := by decide +kernel
theorem dX5_epochsWithWrites_30 : decode cX5_epochsWithWrites 30 = .ok (.iinc 1 1, 3) := by decide +kernel
theorem dX5_epochsWithWrites_33 : decode cX5_epochsWithWrites 33 = .ok (.iconst 1, 1) := by decide +kernel
theorem dX5_epochsWithWrites_34 : decode cX5_epochsWithWrites 34 = .ok (.istore_n 2, 1) := by decide +kernel
theorem dX5_epochsWithWrites_35 : decode cX5_epochsWithWrites 35 = .ok (.goto 17, 3) := by decide +kernel
theorem dX5_epochsWithWrites_38 : decode cX5_epochsWithWrites 38 = .ok (.aload_n 0, 1) := by decide +kernel
theorem dX5_epochsWithWrites_39 : decode cX5_epochsWithWrites 39 = .ok (.getfield 11, 3) := by decide +kernel
theorem dX5_epochsWithWrites_42 : decode cX5_epochsWithWrites 42 = .ok (.iload_n 3, 1) := by decide +kernel
theorem dX5_epochsWithWrites_43 : decode cX5_epochsWithWrites 43 = .ok (.aaload, 1) := by decide +kernel
theorem dX5_epochsWithWrites_44 : decode cX5_epochsWithWrites 44 = .ok (.invokevirtual 38, 3) := by decide +kernel
theorem dX5_epochsWithWrites_47 : decode cX5_epochsWithWrites 47 = .ok (.ifCond .eq 5, 3) := by decide +kernel
theorem dX5_epochsWithWrites_50 : decode cX5_epochsWithWrites 50 = .ok (.iconst 0, 1) := by decide +kernel
theorem dX5_epochsWithWrites_51 : decode cX5_epochsWithWrites 51 = .ok (.istore_n 2, 1) := by decide +kernel
theorem dX5_epochsWithWrites_52 : decode cX5_epochsWithWrites 52 = .ok (.iinc 3 1, 3) := by decide +kernel
theorem dX5_epochsWithWrites_55 : decode cX5_epochsWithWrites 55 = .ok (.goto (-49), 3) := by decide +kernel
theorem dX5_epochsWithWrites_58 : decode cX5_epochsWithWrites 58 = .ok (.iload_n 1, 1) := by decide +kernel
theorem dX5_epochsWithWrites_59 : decode cX5_epochsWithWrites 59 = .ok (.ireturn, 1) := by decide +kernel
theorem dX5_plateOf_0 : decode cX5_plateOf 0 = .ok (.aload_n 0, 1) := by decide +kernel
theorem dX5_plateOf_1 : decode cX5_plateOf 1 = .ok (.getfield 21, 3) := by decide +kernel
theorem dX5_plateOf_4 : decode cX5_plateOf 4 = .ok (.lstore_n 2, 1) := by decide +kernel
theorem dX5_plateOf_5 : decode cX5_plateOf 5 = .ok (.iconst 0, 1) := by decide +kernel
theorem dX5_plateOf_6 : decode cX5_plateOf 6 = .ok (.istore 4, 2) := by decide +kernel
theorem dX5_plateOf_8 : decode cX5_plateOf 8 = .ok (.iload 4, 2) := by decide +kernel
theorem dX5_plateOf_10 : decode cX5_plateOf 10 = .ok (.aload_n 0, 1) := by decide +kernel
theorem dX5_plateOf_11 : decode cX5_plateOf 11 = .ok (.getfield 17, 3) := by decide +kernel
theorem dX5_plateOf_14 : decode cX5_plateOf 14 = .ok (.if_icmp .ge 30, 3) := by decide +kernel
theorem dX5_plateOf_17 : decode cX5_plateOf 17 = .ok (.iload_n 1, 1) := by decide +kernel
theorem dX5_plateOf_18 : decode cX5_plateOf 18 = .ok (.iload 4, 2) := by decide +kernel
theorem dX5_plateOf_20 : decode cX5_plateOf 20 = .ok (.ishr, 1) := by decide +kernel
theorem dX5_plateOf_21 : decode cX5_plateOf 21 = .ok (.iconst 1, 1) := by decide +kernel
theorem dX5_plateOf_22 : decode cX5_plateOf 22 = .ok (.iand, 1) := by decide +kernel
theorem dX5_plateOf_23 : decode cX5_plateOf 23 = .ok (.ifCond .eq 15, 3) := by decide +kernel
theorem dX5_plateOf_26 : decode cX5_plateOf 26 = .ok (.aload_n 0, 1) := by decide +kernel
theorem dX5_plateOf_27 : decode cX5_plateOf 27 = .ok (.getfield 11, 3) := by decide +kernel
theorem dX5_plateOf_30 : decode cX5_plateOf 30 = .ok (.iload 4, 2) := by decide +kernel
theorem dX5_plateOf_32 : decode cX5_plateOf 32 = .ok (.aaload, 1) := by decide +kernel
theorem dX5_plateOf_33 : decode cX5_plateOf 33 = .ok (.lload_n 2, 1) := by decide +kernel
theorem dX5_plateOf_34 : decode cX5_plateOf 34 = .ok (.invokevirtual 44, 3) := by decide +kernel
theorem dX5_plateOf_37 : decode cX5_plateOf 37 = .ok (.lstore_n 2, 1) := by decide +kernel
theorem dX5_plateOf_38 : decode cX5_plateOf 38 = .ok (.iinc 4 1, 3) := by decide +kernel
theorem dX5_plateOf_41 : decode cX5_plateOf 41 = .ok (.goto (-33), 3) := by decide +kernel
theorem dX5_plateOf_44 : decode cX5_plateOf 44 = .ok (.lload_n 2, 1) := by decide +kernel
theorem dX5_plateOf_45 : decode cX5_plateOf 45 = .ok (.lreturn, 1) := by decide +kernel
theorem dX5_shownOf_0 : decode cX5_shownOf 0 = .ok (.iconst 0, 1) := by decide +kernel
theorem dX5_shownOf_1 : decode cX5_shownOf 1 = .ok (.istore_n 2, 1) := by decide +kernel
theorem dX5_shownOf_2 : decode cX5_shownOf 2 = .ok (.iconst 0, 1) := by decide +kernel
theorem dX5_shownOf_3 : decode cX5_shownOf 3 = .ok (.istore_n 3, 1) := by decide +kernel
theorem dX5_shownOf_4 : decode cX5_shownOf 4 = .ok (.aload_n 0, 1) := by decide +kernel
theorem dX5_shownOf_5 : decode cX5_shownOf 5 = .ok (.getfield 17, 3) := by decide +kernel
theorem dX5_shownOf_8 : decode cX5_shownOf 8 = .ok (.iconst 1, 1) := by decide +kernel
theorem dX5_shownOf_9 : decode cX5_shownOf 9 = .ok (.isub, 1) := by decide +kernel
theorem dX5_shownOf_10 : decode cX5_shownOf 10 = .ok (.istore 4, 2) := by decide +kernel
theorem dX5_shownOf_12 : decode cX5_shownOf 12 = .ok (.iload 4, 2) := by decide +kernel
theorem dX5_shownOf_14 : decode cX5_shownOf 14 = .ok (.ifCond .lt 55, 3) := by decide +kernel
theorem dX5_shownOf_17 : decode cX5_shownOf 17 = .ok (.iload_n 1, 1) := by decide +kernel
theorem dX5_shownOf_18 : decode cX5_shownOf 18 = .ok (.iload 4, 2) := by decide +kernel
theorem dX5_shownOf_20 : decode cX5_shownOf 20 = .ok (.ishr, 1) := by decide +kernel
theorem dX5_shownOf_21 : decode cX5_shownOf 21 = .ok (.iconst 1, 1) := by decide +kernel
theorem dX5_shownOf_22 : decode cX5_shownOf 22 = .ok (.iand, 1) := by decide +kernel
theorem dX5_shownOf_23 : decode cX5_shownOf 23 = .ok (.ifCond .eq 40, 3) := by decide +kernel
theorem dX5_shownOf_26 : decode cX5_shownOf 26 = .ok (.aload_n 0, 1) := by decide +kernel
theorem dX5_shownOf_27 : decode cX5_shownOf 27 = .ok (.getfield 11, 3) := by decide +kernel
theorem dX5_shownOf_30 : decode cX5_shownOf 30 = .ok (.iload 4, 2) := by decide +kernel
theorem dX5_shownOf_32 : decode cX5_shownOf 32 = .ok (.aaload, 1) := by decide +kernel
theorem dX5_shownOf_33 : decode cX5_shownOf 33 = .ok (.invokevirtual 48, 3) := by decide +kernel
theorem dX5_shownOf_36 : decode cX5_shownOf 36 = .ok (.istore 5, 2) := by decide +kernel
theorem dX5_shownOf_38 : decode cX5_shownOf 38 = .ok (.iload_n 3, 1) := by decide +kernel
theorem dX5_shownOf_39 : decode cX5_shownOf 39 = .ok (.iload 5, 2) := by decide +kernel
theorem dX5_shownOf_41 : decode cX5_shownOf 41 = .ok (.iload_n 2, 1) := by decide +kernel
theorem dX5_shownOf_42 : decode cX5_shownOf 42 = .ok (.iconst (-1), 1) := by decide +kernel
theorem dX5_shownOf_43 : decode cX5_shownOf 43 = .ok (.ixor, 1) := by decide +kernel
theorem dX5_shownOf_44 : decode cX5_shownOf 44 = .ok (.iand, 1) := by decide +kernel
theorem dX5_shownOf_45 : decode cX5_shownOf 45 = .ok (.ifCond .eq 10, 3) := by decide +kernel
theorem dX5_shownOf_48 : decode cX5_shownOf 48 = .ok (.iconst 1, 1) := by decide +kernel
theorem dX5_shownOf_49 : decode cX5_shownOf 49 = .ok (.iload 4, 2) := by decide +kernel
theorem dX5_shownOf_51 : decode cX5_shownOf 51 = .ok (.ishl, 1) := by decide +kernel
theorem dX5_shownOf_52 : decode cX5_shownOf 52 = .ok (.goto 4, 3) := by decide +kernel
theorem dX5_shownOf_55 : decode cX5_shownOf 55 = .ok (.iconst 0, 1) := by decide +kernel
theorem dX5_shownOf_56 : decode cX5_shownOf 56 = .ok (.ior, 1) := by decide +kernel
theorem dX5_shownOf_57 : decode cX5_shownOf 57 = .ok (.istore_n 3, 1) := by decide +kernel
theorem dX5_shownOf_58 : decode cX5_shownOf 58 = .ok (.iload_n 2, 1) := by decide +kernel
theorem dX5_shownOf_59 : decode cX5_shownOf 59 = .ok (.iload 5, 2) := by decide +kernel
theorem dX5_shownOf_61 : decode cX5_shownOf 61 = .ok (.ior, 1) := by decide +kernel
theorem dX5_shownOf_62 : decode cX5_shownOf 62 = .ok (.istore_n 2, 1) := by decide +kernel
theorem dX5_shownOf_63 : decode cX5_shownOf 63 = .ok (.iinc 4 (-1), 3) := by decide +kernel
theorem dX5_shownOf_66 : decode cX5_shownOf 66 = .ok (.goto (-54), 3) := by decide +kernel
theorem dX5_shownOf_69 : decode cX5_shownOf 69 = .ok (.iload_n 3, 1) := by decide +kernel
theorem dX5_shownOf_70 : decode cX5_shownOf 70 = .ok (.ireturn, 1) := by decide +kernel
theorem dX5_dueAt_0 : decode cX5_dueAt 0 = .ok (.iload_n 2, 1) := by decide +kernel
theorem dX5_dueAt_1 : decode cX5_dueAt 1 = .ok (.bipush 64, 2) := by decide +kernel
theorem dX5_dueAt_3 : decode cX5_dueAt 3 = .ok (.ior, 1) := by decide +kernel
theorem dX5_dueAt_4 : decode cX5_dueAt 4 = .ok (.istore_n 3, 1) := by decide +kernel
theorem dX5_dueAt_5 : decode cX5_dueAt 5 = .ok (.iconst 0, 1) := by decide +kernel
theorem dX5_dueAt_6 : decode cX5_dueAt 6 = .ok (.istore 4, 2) := by decide +kernel
theorem dX5_dueAt_8 : decode cX5_dueAt 8 = .ok (.iload 4, 2) := by decide +kernel
theorem dX5_dueAt_10 : decode cX5_dueAt 10 = .ok (.iload_n 1, 1) := by decide +kernel
theorem dX5_dueAt_11 : decode cX5_dueAt 11 = .ok (.if_icmp .ge 42, 3) := by decide +kernel
theorem dX5_dueAt_14 : decode cX5_dueAt 14 = .ok (.iload_n 3, 1) := by decide +kernel
theorem dX5_dueAt_15 : decode cX5_dueAt 15 = .ok (.aload_n 0, 1) := by decide +kernel
theorem dX5_dueAt_16 : decode cX5_dueAt 16 = .ok (.getfield 11, 3) := by decide +kernel
theorem dX5_dueAt_19 : decode cX5_dueAt 19 = .ok (.iload 4, 2) := by decide +kernel
theorem dX5_dueAt_21 : decode cX5_dueAt 21 = .ok (.aaload, 1) := by decide +kernel
theorem dX5_dueAt_22 : decode cX5_dueAt 22 = .ok (.getfield 41, 3) := by decide +kernel
theorem dX5_dueAt_25 : decode cX5_dueAt 25 = .ok (.iconst 4, 1) := by decide +kernel
theorem dX5_dueAt_26 : decode cX5_dueAt 26 = .ok (.if_icmp .ne 18, 3) := by decide +kernel
theorem dX5_dueAt_29 : decode cX5_dueAt 29 = .ok (.iconst 1, 1) := by decide +kernel
theorem dX5_dueAt_30 : decode cX5_dueAt 30 = .ok (.aload_n 0, 1) := by decide +kernel
theorem dX5_dueAt_31 : decode cX5_dueAt 31 = .ok (.getfield 11, 3) := by decide +kernel
theorem dX5_dueAt_34 : decode cX5_dueAt 34 = .ok (.iload 4, 2) := by decide +kernel
theorem dX5_dueAt_36 : decode cX5_dueAt 36 = .ok (.aaload, 1) := by decide +kernel
theorem dX5_dueAt_37 : decode cX5_dueAt 37 = .ok (.getfield 52, 3) := by decide +kernel
theorem dX5_dueAt_40 : decode cX5_dueAt 40 = .ok (.ishl, 1) := by decide +kernel
theorem dX5_dueAt_41 : decode cX5_dueAt 41 = .ok (.goto 4, 3) := by decide +kernel
theorem dX5_dueAt_44 : decode cX5_dueAt 44 = .ok (.iconst 0, 1) := by decide +kernel
theorem dX5_dueAt_45 : decode cX5_dueAt 45 = .ok (.ior, 1) := by decide +kernel
theorem dX5_dueAt_46 : decode cX5_dueAt 46 = .ok (.istore_n 3, 1) := by decide +kernel
theorem dX5_dueAt_47 : decode cX5_dueAt 47 = .ok (.iinc 4 1, 3) := by decide +kernel
theorem dX5_dueAt_50 : decode cX5_dueAt 50 = .ok (.goto (-42), 3) := by decide +kernel
theorem dX5_dueAt_53 : decode cX5_dueAt 53 = .ok (.iload_n 3, 1) := by decide +kernel
theorem dX5_dueAt_54 : decode cX5_dueAt 54 = .ok (.ireturn, 1) := by decide +kernel
theorem dX6_init_0 : decode cX6_init 0 = .ok (.aload_n 0, 1) := by decide +kernel
theorem dX6_init_1 : decode cX6_init 1 = .ok (.invokespecial 3, 3) := by decide +kernel
theorem dX6_init_4 : decode cX6_init 4 = .ok (.aload_n 0, 1) := by decide +kernel
theorem dX6_init_5 : decode cX6_init 5 = .ok (.new 9, 3) := by decide +kernel
theorem dX6_init_8 : decode cX6_init 8 = .ok (.dup, 1) := by decide +kernel
theorem dX6_init_9 : decode cX6_init 9 = .ok (.invokespecial 11, 3) := by decide +kernel
theorem dX6_init_12 : decode cX6_init 12 = .ok (.putfield 12, 3) := by decide +kernel
theorem dX6_init_15 : decode cX6_init 15 = .ok (.aload_n 0, 1) := by decide +kernel
theorem dX6_init_16 : decode cX6_init 16 = .ok (.bipush 60, 2) := by decide +kernel
theorem dX6_init_18 : decode cX6_init 18 = .ok (.newarray .char, 2) := by decide +kernel
theorem dX6_init_20 : decode cX6_init 20 = .ok (.putfield 18, 3) := by decide +kernel
theorem dX6_init_23 : decode cX6_init 23 = .ok (.aload_n 0, 1) := by decide +kernel
theorem dX6_init_24 : decode cX6_init 24 = .ok (.iconst 0, 1) := by decide +kernel
theorem dX6_init_25 : decode cX6_init 25 = .ok (.putfield 22, 3) := by decide +kernel
theorem dX6_init_28 : decode cX6_init 28 = .ok (.aload_n 0, 1) := by decide +kernel
theorem dX6_init_29 : decode cX6_init 29 = .ok (.iconst 0, 1) := by decide +kernel
theorem dX6_init_30 : decode cX6_init 30 = .ok (.putfield 26, 3) := by decide +kernel
theorem dX6_init_33 : decode cX6_init 33 = .ok (.aload_n 0, 1) := by decide +kernel
theorem dX6_init_34 : decode cX6_init 34 = .ok (.iconst 0, 1) := by decide +kernel
theorem dX6_init_35 : decode cX6_init 35 = .ok (.putfield 29, 3) := by decide +kernel
theorem dX6_init_38 : decode cX6_init 38 = .ok (.aload_n 0, 1) := by decide +kernel
theorem dX6_init_39 : decode cX6_init 39 = .ok (.iconst 0, 1) := by decide +kernel
theorem dX6_init_40 : decode cX6_init 40 = .ok (.putfield 32, 3) := by decide +kernel
theorem dX6_init_43 : decode cX6_init 43 = .ok (.aload_n 0, 1) := by decide +kernel
theorem dX6_init_44 : decode cX6_init 44 = .ok (.bipush 61, 2) := by decide +kernel
theorem dX6_init_46 : decode cX6_init 46 = .ok (.putfield 35, 3) := by decide +kernel
theorem dX6_init_49 : decode cX6_init 49 = .ok (.aload_n 0, 1) := by decide +kernel
theorem dX6_init_50 : decode cX6_init 50 = .ok (.iconst 0, 1) := by decide +kernel
theorem dX6_init_51 : decode cX6_init 51 = .ok (.putfield 39, 3) := by decide +kernel
theorem dX6_init_54 : decode cX6_init 54 = .ok (.aload_n 0, 1) := by decide +kernel
theorem dX6_init_55 : decode cX6_init 55 = .ok (.iconst 0, 1) := by decide +kernel
theorem dX6_init_56 : decode cX6_init 56 = .ok (.putfield 43, 3) := by decide +kernel
theorem dX6_init_59 : decode cX6_init 59 = .ok (.return_, 1) := by decide +kernel
theorem dX6_goodOf_0 : decode cX6_goodOf 0 = .ok (.aload_n 0, 1) := by decide +kernel
theorem dX6_goodOf_1 : decode cX6_goodOf 1 = .ok (.iload_n 2, 1) := by decide +kernel
theorem dX6_goodOf_2 : decode cX6_goodOf 2 = .ok (.invokevirtual 46, 3) := by decide +kernel
theorem dX6_goodOf_5 : decode cX6_goodOf 5 = .ok (.iconst 0, 1) := by decide +kernel
theorem dX6_goodOf_6 : decode cX6_goodOf 6 = .ok (.istore_n 3, 1) := by decide +kernel
theorem dX6_goodOf_7 : decode cX6_goodOf 7 = .ok (.iload_n 3, 1) := by decide +kernel
theorem dX6_goodOf_8 : decode cX6_goodOf 8 = .ok (.aload_n 1, 1) := by decide +kernel
theorem dX6_goodOf_9 : decode cX6_goodOf 9 = .ok (.getfield 50, 3) := by decide +kernel
theorem dX6_goodOf_12 : decode cX6_goodOf 12 = .ok (.if_icmp .ge 22, 3) := by decide +kernel
theorem dX6_goodOf_15 : decode cX6_goodOf 15 = .ok (.aload_n 0, 1) := by decide +kernel
theorem dX6_goodOf_16 : decode cX6_goodOf 16 = .ok (.aload_n 1, 1) := by decide +kernel
theorem dX6_goodOf_17 : decode cX6_goodOf 17 = .ok (.getfield 55, 3) := by decide +kernel
theorem dX6_goodOf_20 : decode cX6_goodOf 20 = .ok (.iload_n 3, 1) := by decide +kernel
theorem dX6_goodOf_21 : decode cX6_goodOf 21 = .ok (.caload, 1) := by decide +kernel
theorem dX6_goodOf_22 : decode cX6_goodOf 22 = .ok (.invokevirtual 58, 3) := by decide +kernel
theorem dX6_goodOf_25 : decode cX6_goodOf 25 = .ok (.ifCond .eq 9, 3) := by decide +kernel
theorem dX6_goodOf_28 : decode cX6_goodOf 28 = .ok (.iinc 3 1, 3) := by decide +kernel
theorem dX6_goodOf_31 : decode cX6_goodOf 31 = .ok (.goto (-24), 3) := by decide +kernel
theorem dX6_goodOf_34 : decode cX6_goodOf 34 = .ok (.iload_n 3, 1) := by decide +kernel
theorem dX6_goodOf_35 : decode cX6_goodOf 35 = .ok (.ireturn, 1) := by decide +kernel
theorem dX6_begin_0 : decode cX6_begin 0 = .ok (.aload_n 0, 1) := by decide +kernel
theorem dX6_begin_1 : decode cX6_begin 1 = .ok (.getfield 12, 3) := by decide +kernel
theorem dX6_begin_4 : decode cX6_begin 4 = .ok (.invokevirtual 62, 3) := by decide +kernel
theorem dX6_begin_7 : decode cX6_begin 7 = .ok (.aload_n 0, 1) := by decide +kernel
theorem dX6_begin_8 : decode cX6_begin 8 = .ok (.iconst 0, 1) := by decide +kernel
theorem dX6_begin_9 : decode cX6_begin 9 = .ok (.putfield 22, 3) := by decide +kernel
theorem dX6_begin_12 : decode cX6_begin 12 = .ok (.aload_n 0, 1) := by decide +kernel
theorem dX6_begin_13 : decode cX6_begin 13 = .ok (.iconst 0, 1) := by decide +kernel
theorem dX6_begin_14 : decode cX6_begin 14 = .ok (.putfield 26, 3) := by decide +kernel
theorem dX6_begin_17 : decode cX6_begin 17 = .ok (.aload_n 0, 1) := by decide +kernel
theorem dX6_begin_18 : decode cX6_begin 18 = .ok (.iconst 0, 1) := by decide +kernel
theorem dX6_begin_19 : decode cX6_begin 19 = .ok (.putfield 29, 3) := by decide +kernel
theorem dX6_begin_22 : decode cX6_begin 22 = .ok (.aload_n 0, 1) := by decide +kernel
theorem dX6_begin_23 : decode cX6_begin 23 = .ok (.iconst 0, 1) := by decide +kernel
theorem dX6_begin_24 : decode cX6_begin 24 = .ok (.putfield 32, 3) := by decide +kernel
theorem dX6_begin_27 : decode cX6_begin 27 = .ok (.aload_n 0, 1) := by decide +kernel
theorem dX6_begin_28 : decode cX6_begin 28 = .ok (.iconst 0, 1) := by decide +kernel
theorem dX6_begin_29 : decode cX6_begin 29 = .ok (.putfield 39, 3) := by decide +kernel
theorem dX6_begin_32 : decode cX6_begin 32 = .ok (.aload_n 0, 1) := by decide +kernel
theorem dX6_begin_33 : decode cX6_begin 33 = .ok (.iload_n 1, 1) := by decide +kernel
theorem dX6_begin_34 : decode cX6_begin 34 = .ok (.putfield 43, 3) := by decide +kernel
theorem dX6_begin_37 : decode cX6_begin 37 = .ok (.return_, 1) := by decide +kernel
theorem dX6_isWhole_0 : decode cX6_isWhole 0 = .ok (.aload_n 0, 1) := by decide +kernel
theorem dX6_isWhole_1 : decode cX6_isWhole 1 = .ok (.getfield 29, 3) := by decide +kernel
theorem dX6_isWhole_4 : decode cX6_isWhole 4 = .ok (.iconst 2, 1) := by decide +kernel
theorem dX6_isWhole_5 : decode cX6_isWhole 5 = .ok (.if_icmp .eq 11, 3) := by decide +kernel
theorem dX6_isWhole_8 : decode cX6_isWhole 8 = .ok (.aload_n 0, 1) := by decide +kernel
theorem dX6_isWhole_9 : decode cX6_isWhole 9 = .ok (.getfield 29, 3) := by decide +kernel
theorem dX6_isWhole_12 : decode cX6_isWhole 12 = .ok (.iconst 3, 1) := by decide +kernel
theorem dX6_isWhole_13 : decode cX6_isWhole 13 = .ok (.if_icmp .ne 7, 3) := by decide +kernel
theorem dX6_isWhole_16 : decode cX6_isWhole 16 = .ok (.iconst 1, 1) := by decide +kernel
theorem dX6_isWhole_17 : decode cX6_isWhole 17 = .ok (.goto 4, 3) := by decide +kernel
theorem dX6_isWhole_20 : decode cX6_isWhole 20 = .ok (.iconst 0, 1) := by decide +kernel
theorem dX6_isWhole_21 : decode cX6_isWhole 21 = .ok (.istore_n 1, 1) := by decide +kernel
theorem dX6_isWhole_22 : decode cX6_isWhole 22 = .ok (.aload_n 0, 1) := by decide +kernel
theorem dX6_isWhole_23 : decode cX6_isWhole 23 = .ok (.getfield 43, 3) := by decide +kernel
theorem dX6_isWhole_26 : decode cX6_isWhole 26 = .ok (.ifCond .eq 21, 3) := by decide +kernel
theorem dX6_isWhole_29 : decode cX6_isWhole 29 = .ok (.iload_n 1, 1) := by decide +kernel
theorem dX6_isWhole_30 : decode cX6_isWhole 30 = .ok (.ifCond .eq 15, 3) := by decide +kernel
theorem dX6_isWhole_33 : decode cX6_isWhole 33 = .ok (.aload_n 0, 1) := by decide +kernel
theorem dX6_isWhole_34 : decode cX6_isWhole 34 = .ok (.getfield 32, 3) := by decide +kernel
theorem dX6_isWhole_37 : decode cX6_isWhole 37 = .ok (.iconst 2, 1) := by decide +kernel
theorem dX6_isWhole_38 : decode cX6_isWhole 38 = .ok (.if_icmp .ne 7, 3) := by decide +kernel
theorem dX6_isWhole_41 : decode cX6_isWhole 41 = .ok (.iconst 1, 1) := by decide +kernel
theorem dX6_isWhole_42 : decode cX6_isWhole 42 = .ok (.goto 4, 3) := by decide +kernel
theorem dX6_isWhole_45 : decode cX6_isWhole 45 = .ok (.iconst 0, 1) := by decide +kernel
theorem dX6_isWhole_46 : decode cX6_isWhole 46 = .ok (.ireturn, 1) := by decide +kernel
theorem dX6_isWhole_47 : decode cX6_isWhole 47 = .ok (.iload_n 1, 1) := by decide +kernel
theorem dX6_isWhole_48 : decode cX6_isWhole 48 = .ok (.ifCond .eq 15, 3) := by decide +kernel
theorem dX6_isWhole_51 : decode cX6_isWhole 51 = .ok (.aload_n 0, 1) := by decide +kernel
theorem dX6_isWhole_52 : decode cX6_isWhole 52 = .ok (.getfield 32, 3) := by decide +kernel
theorem dX6_isWhole_55 : decode cX6_isWhole 55 = .ok (.iconst 1, 1) := by decide +kernel
theorem dX6_isWhole_56 : decode cX6_isWhole 56 = .ok (.if_icmp .ne 7, 3) := by decide +kernel
theorem dX6_isWhole_59 : decode cX6_isWhole 59 = .ok (.aload_n 0, 1) := by decide +kernel
theorem dX6_isWhole_60 : decode cX6_isWhole 60 = .ok (.invokevirtual 65, 3) := by decide +kernel
theorem dX6_isWhole_63 : decode cX6_isWhole 63 = .ok (.aload_n 0, 1) := by decide +kernel
theorem dX6_isWhole_64 : decode cX6_isWhole 64 = .ok (.getfield 29, 3) := by decide +kernel
theorem dX6_isWhole_67 : decode cX6_isWhole 67 = .ok (.iconst 4, 1) := by decide +kernel
theorem dX6_isWhole_68 : decode cX6_isWhole 68 = .ok (.if_icmp .ne 10, 3) := by decide +kernel
theorem dX6_isWhole_71 : decode cX6_isWhole 71 = .ok (.aload_n 0, 1) := by decide +kernel
theorem dX6_isWhole_72 : decode cX6_isWhole 72 = .ok (.getfield 26, 3) := by decide +kernel
theorem dX6_isWhole_75 : decode cX6_isWhole 75 = .ok (.ifCond .eq 5, 3) := by decide +kernel
theorem dX6_isWhole_78 : decode cX6_isWhole 78 = .ok (.iconst 0, 1) := by decide +kernel
theorem dX6_isWhole_79 : decode cX6_isWhole 79 = .ok (.ireturn, 1) := by decide +kernel
theorem dX6_isWhole_80 : decode cX6_isWhole 80 = .ok (.aload_n 0, 1) := by decide +kernel
theorem dX6_isWhole_81 : decode cX6_isWhole 81 = .ok (.invokevirtual 68, 3) := by decide +kernel
theorem dX6_isWhole_84 : decode cX6_isWhole 84 = .ok (.aload_n 0, 1) := by decide +kernel
theorem dX6_isWhole_85 : decode cX6_isWhole 85 = .ok (.getfield 12, 3) := by decide +kernel
theorem dX6_isWhole_88 : decode cX6_isWhole 88 = .ok (.invokevirtual 71, 3) := by decide +kernel
theorem dX6_isWhole_91 : decode cX6_isWhole 91 = .ok (.iconst 1, 1) := by decide +kernel
theorem dX6_isWhole_92 : decode cX6_isWhole 92 = .ok (.ireturn, 1) := by decide +kernel
theorem dX6_takes_0 : decode cX6_takes 0 = .ok (.aload_n 0, 1) := by decide +kernel
theorem dX6_takes_1 : decode cX6_takes 1 = .ok (.iload_n 1, 1) := by decide +kernel
theorem dX6_takes_2 : decode cX6_takes 2 = .ok (.invokevirtual 74, 3) := by decide +kernel
theorem dX6_takes_5 : decode cX6_takes 5 = .ok (.ifCond .eq 7, 3) := by decide +kernel
theorem dX6_takes_8 : decode cX6_takes 8 = .ok (.aload_n 0, 1) := by decide +kernel
theorem dX6_takes_9 : decode cX6_takes 9 = .ok (.invokevirtual 65, 3) := by decide +kernel
theorem dX6_takes_12 : decode cX6_takes 12 = .ok (.aload_n 0, 1) := by decide +kernel
theorem dX6_takes_13 : decode cX6_takes 13 = .ok (.getfield 29, 3) := by decide +kernel
theorem dX6_takes_16 : decode cX6_takes 16 = .ok (.tableswitch 91 0 5 #[40, 46, 52, 73, 79, 85], 40) := by decide +kernel
theorem dX6_takes_56 : decode cX6_takes 56 = .ok (.aload_n 0, 1) := by decide +kernel
theorem dX6_takes_57 : decode cX6_takes 57 = .ok (.iload_n 1, 1) := by decide +kernel
theorem dX6_takes_58 : decode cX6_takes 58 = .ok (.invokevirtual 77, 3) := by decide +kernel
theorem dX6_takes_61 : decode cX6_takes 61 = .ok (.ireturn, 1) := by decide +kernel
theorem dX6_takes_62 : decode cX6_takes 62 = .ok (.aload_n 0, 1) := by decide +kernel
theorem dX6_takes_63 : decode cX6_takes 63 = .ok (.iload_n 1, 1) := by decide +kernel
theorem dX6_takes_64 : decode cX6_takes 64 = .ok (.invokevirtual 80, 3) := by decide +kernel
theorem dX6_takes_67 : decode cX6_takes 67 = .ok (.ireturn, 1) := by decide +kernel
theorem dX6_takes_68 : decode cX6_takes 68 = .ok (.iload_n 1, 1) := by decide +kernel
theorem dX6_takes_69 : decode cX6_takes 69 = .ok (.invokestatic 83, 3) := by decide +kernel
theorem dX6_takes_72 : decode cX6_takes 72 = .ok (.ifCond .eq 11, 3) := by decide +kernel
theorem dX6_takes_75 : decode cX6_takes 75 = .ok (.aload_n 0, 1) := by decide +kernel
theorem dX6_takes_76 : decode cX6_takes 76 = .ok (.iload_n 1, 1) := by decide +kernel
theorem dX6_takes_77 : decode cX6_takes 77 = .ok (.invokevirtual 86, 3) := by decide +kernel
theorem dX6_takes_80 : decode cX6_takes 80 = .ok (.goto 8, 3) := by decide +kernel
theorem dX6_takes_83 : decode cX6_takes 83 = .ok (.aload_n 0, 1) := by decide +kernel
theorem dX6_takes_84 : decode cX6_takes 84 = .ok (.iload_n 1, 1) := by decide +kernel
theorem dX6_takes_85 : decode cX6_takes 85 = .ok (.invokevirtual 89, 3) := by decide +kernel
theorem dX6_takes_88 : decode cX6_takes 88 = .ok (.ireturn, 1) := by decide +kernel
theorem dX6_takes_89 : decode cX6_takes 89 = .ok (.aload_n 0, 1) := by decide +kernel
theorem dX6_takes_90 : decode cX6_takes 90 = .ok (.iload_n 1, 1) := by decide +kernel
theorem dX6_takes_91 : decode cX6_takes 91 = .ok (.invokevirtual 89, 3) := by decide +kernel
theorem dX6_takes_94 : decode cX6_takes 94 = .ok (.ireturn, 1) := by decide +kernel
theorem dX6_takes_95 : decode cX6_takes 95 = .ok (.aload_n 0, 1) := by decide +kernel
theorem dX6_takes_96 : decode cX6_takes 96 = .ok (.iload_n 1, 1) := by decide +kernel
theorem dX6_takes_97 : decode cX6_takes 97 = .ok (.invokevirtual 92, 3) := by decide +kernel
theorem dX6_takes_100 : decode cX6_takes 100 = .ok (.ireturn, 1) := by decide +kernel
theorem dX6_takes_101 : decode cX6_takes 101 = .ok (.aload_n 0, 1) := by decide +kernel
theorem dX6_takes_102 : decode cX6_takes 102 = .ok (.iload_n 1, 1) := by decide +kernel
theorem dX6_takes_103 : decode cX6_takes 103 = .ok (.invokevirtual 95, 3) := by decide +kernel
theorem dX6_takes_106 : decode cX6_takes 106 = .ok (.ireturn, 1) := by decide +kernel
theorem dX6_takes_107 : decode cX6_takes 107 = .ok (.aload_n 0, 1) := by decide +kernel
theorem dX6_takes_108 : decode cX6_takes 108 = .ok (.iload_n 1, 1) := by decide +kernel
theorem dX6_takes_109 : decode cX6_takes 109 = .ok (.invokevirtual 98, 3) := by decide +kernel
theorem dX6_takes_112 : decode cX6_takes 112 = .ok (.ireturn, 1) := by decide +kernel
theorem dX6_endsComparison_0 : decode cX6_endsComparison 0 = .ok (.aload_n 0, 1) := by decide +kernel
theorem dX6_endsComparison_1 : decode cX6_endsComparison 1 = .ok (.getfield 29, 3) := by decide +kernel
theorem dX6_endsComparison_4 : decode cX6_endsComparison 4 = .ok (.iconst 3, 1) := by decide +kernel
theorem dX6_endsComparison_5 : decode cX6_endsComparison 5 = .ok (.if_icmp .eq 18, 3) := by decide +kernel
theorem dX6_endsComparison_8 : decode cX6_endsComparison 8 = .ok (.aload_n 0, 1) := by decide +kernel
theorem dX6_endsComparison_9 : decode cX6_endsComparison 9 = .ok (.getfield 29, 3) := by decide +kernel
theorem dX6_endsComparison_12 : decode cX6_endsComparison 12 = .ok (.iconst 2, 1) := by decide +kernel
theorem dX6_endsComparison_13 : decode cX6_endsComparison 13 = .ok (.if_icmp .ne 14, 3) := by decide +kernel
theorem dX6_endsComparison_16 : decode cX6_endsComparison 16 = .ok (.iload_n 1, 1) := by decide +kernel
theorem dX6_endsComparison_17 : decode cX6_endsComparison 17 = .ok (.invokestatic 83, 3) := by decide +kernel
theorem dX6_endsComparison_20 : decode cX6_endsComparison 20 = .ok (.ifCond .ne 7, 3) := by decide +kernel
theorem dX6_endsComparison_23 : decode cX6_endsComparison 23 = .ok (.iconst 1, 1) := by decide +kernel
theorem dX6_endsComparison_24 : decode cX6_endsComparison 24 = .ok (.goto 4, 3) := by decide +kernel
theorem dX6_endsComparison_27 : decode cX6_endsComparison 27 = .ok (.iconst 0, 1) := by decide +kernel
theorem dX6_endsComparison_28 : decode cX6_endsComparison 28 = .ok (.istore_n 2, 1) := by decide +kernel
theorem dX6_endsComparison_29 : decode cX6_endsComparison 29 = .ok (.iload_n 2, 1) := by decide +kernel
theorem dX6_endsComparison_30 : decode cX6_endsComparison 30 = .ok (.ifCond .eq 27, 3) := by decide +kernel
theorem dX6_endsComparison_33 : decode cX6_endsComparison 33 = .ok (.aload_n 0, 1) := by decide +kernel
theorem dX6_endsComparison_34 : decode cX6_endsComparison 34 = .ok (.getfield 32, 3) := by decide +kernel
theorem dX6_endsComparison_37 : decode cX6_endsComparison 37 = .ok (.iconst 1, 1) := by decide +kernel
theorem dX6_endsComparison_38 : decode cX6_endsComparison 38 = .ok (.if_icmp .ne 19, 3) := by decide +kernel
theorem dX6_endsComparison_41 : decode cX6_endsComparison 41 = .ok (.iload_n 1, 1) := by decide +kernel
theorem dX6_endsComparison_42 : decode cX6_endsComparison 42 = .ok (.bipush 43, 2) := by decide +kernel
theorem dX6_endsComparison_44 : decode cX6_endsComparison 44 = .ok (.if_icmp .eq 13, 3) := by decide +kernel
theorem dX6_endsComparison_47 : decode cX6_endsComparison 47 = .ok (.iload_n 1, 1) := by decide +kernel
theorem dX6_endsComparison_48 : decode cX6_endsComparison 48 = .ok (.bipush 45, 2) := by decide +kernel
theorem dX6_endsComparison_50 : decode cX6_endsComparison 50 = .ok (.if_icmp .eq 7, 3) := by decide +kernel
theorem dX6_endsComparison_53 : decode cX6_endsComparison 53 = .ok (.iconst 1, 1) := by decide +kernel
theorem dX6_endsComparison_54 : decode cX6_endsComparison 54 = .ok (.goto 4, 3) := by decide +kernel
theorem dX6_endsComparison_57 : decode cX6_endsComparison 57 = .ok (.iconst 0, 1) := by decide +kernel
theorem dX6_endsComparison_58 : decode cX6_endsComparison 58 = .ok (.ireturn, 1) := by decide +kernel
theorem dX6_takesFactor_0 : decode cX6_takesFactor 0 = .ok (.iload_n 1, 1) := by decide +kernel
theorem dX6_takesFactor_1 : decode cX6_takesFactor 1 = .ok (.bipush 33, 2) := by decide +kernel
theorem dX6_takesFactor_3 : decode cX6_takesFactor 3 = .ok (.if_icmp .eq 9, 3) := by decide +kernel
theorem dX6_takesFactor_6 : decode cX6_takesFactor 6 = .ok (.iload_n 1, 1) := by decide +kernel
theorem dX6_takesFactor_7 : decode cX6_takesFactor 7 = .ok (.bipush 40, 2) := by decide +kernel
theorem dX6_takesFactor_9 : decode cX6_takesFactor 9 = .ok (.if_icmp .ne 30, 3) := by decide +kernel
theorem dX6_takesFactor_12 : decode cX6_takesFactor 12 = .ok (.aload_n 0, 1) := by decide +kernel
theorem dX6_takesFactor_13 : decode cX6_takesFactor 13 = .ok (.dup, 1) := by decide +kernel
theorem dX6_takesFactor_14 : decode cX6_takesFactor 14 = .ok (.getfield 26, 3) := by decide +kernel
theorem dX6_takesFactor_17 : decode cX6_takesFactor 17 = .ok (.iload_n 1, 1) := by decide +kernel
theorem dX6_takesFactor_18 : decode cX6_takesFactor 18 = .ok (.bipush 40, 2) := by decide +kernel
theorem dX6_takesFactor_20 : decode cX6_takesFactor 20 = .ok (.if_icmp .ne 7, 3) := by decide +kernel
theorem dX6_takesFactor_23 : decode cX6_takesFactor 23 = .ok (.iconst 1, 1) := by decide +kernel
theorem dX6_takesFactor_24 : decode cX6_takesFactor 24 = .ok (.goto 4, 3) := by decide +kernel
theorem dX6_takesFactor_27 : decode cX6_takesFactor 27 = .ok (.iconst 0, 1) := by decide +kernel
theorem dX6_takesFactor_28 : decode cX6_takesFactor 28 = .ok (.iadd, 1) := by decide +kernel
theorem dX6_takesFactor_29 : decode cX6_takesFactor 29 = .ok (.putfield 26, 3) := by decide +kernel
theorem dX6_takesFactor_32 : decode cX6_takesFactor 32 = .ok (.aload_n 0, 1) := by decide +kernel
theorem dX6_takesFactor_33 : decode cX6_takesFactor 33 = .ok (.iload_n 1, 1) := by decide +kernel
theorem dX6_takesFactor_34 : decode cX6_takesFactor 34 = .ok (.invokevirtual 101, 3) := by decide +kernel
theorem dX6_takesFactor_37 : decode cX6_takesFactor 37 = .ok (.iconst 1, 1) := by decide +kernel
theorem dX6_takesFactor_38 : decode cX6_takesFactor 38 = .ok (.ireturn, 1) := by decide +kernel
theorem dX6_takesFactor_39 : decode cX6_takesFactor 39 = .ok (.aload_n 0, 1) := by decide +kernel
theorem dX6_takesFactor_40 : decode cX6_takesFactor 40 = .ok (.iconst 0, 1) := by decide +kernel
theorem dX6_takesFactor_41 : decode cX6_takesFactor 41 = .ok (.putfield 32, 3) := by decide +kernel
theorem dX6_takesFactor_44 : decode cX6_takesFactor 44 = .ok (.aload_n 0, 1) := by decide +kernel
theorem dX6_takesFactor_45 : decode cX6_takesFactor 45 = .ok (.iconst 0, 1) := by decide +kernel
theorem dX6_takesFactor_46 : decode cX6_takesFactor 46 = .ok (.putfield 39, 3) := by decide +kernel
theorem dX6_takesFactor_49 : decode cX6_takesFactor 49 = .ok (.aload_n 0, 1) := by decide +kernel
theorem dX6_takesFactor_50 : decode cX6_takesFactor 50 = .ok (.iload_n 1, 1) := by decide +kernel
theorem dX6_takesFactor_51 : decode cX6_takesFactor 51 = .ok (.invokevirtual 80, 3) := by decide +kernel
theorem dX6_takesFactor_54 : decode cX6_takesFactor 54 = .ok (.ireturn, 1) := by decide +kernel
theorem dX6_takesUnit_0 : decode cX6_takesUnit 0 = .ok (.aload_n 0, 1) := by decide +kernel
theorem dX6_takesUnit_1 : decode cX6_takesUnit 1 = .ok (.getfield 39, 3) := by decide +kernel
theorem dX6_takesUnit_4 : decode cX6_takesUnit 4 = .ok (.aload_n 0, 1) := by decide +kernel
theorem dX6_takesUnit_5 : decode cX6_takesUnit 5 = .ok (.getfield 32, 3) := by decide +kernel
theorem dX6_takesUnit_8 : decode cX6_takesUnit 8 = .ok (.iconst 1, 1) := by decide +kernel
theorem dX6_takesUnit_9 : decode cX6_takesUnit 9 = .ok (.if_icmp .ne 7, 3) := by decide +kernel
theorem dX6_takesUnit_12 : decode cX6_takesUnit 12 = .ok (.iconst 1, 1) := by decide +kernel
theorem dX6_takesUnit_13 : decode cX6_takesUnit 13 = .ok (.goto 4, 3) := by decide +kernel
theorem dX6_takesUnit_16 : decode cX6_takesUnit 16 = .ok (.iconst 0, 1) := by decide +kernel
theorem dX6_takesUnit_17 : decode cX6_takesUnit 17 = .ok (.if_icmp .eq 7, 3) := by decide +kernel
theorem dX6_takesUnit_20 : decode cX6_takesUnit 20 = .ok (.iconst 1, 1) := by decide +kernel
theorem dX6_takesUnit_21 : decode cX6_takesUnit 21 = .ok (.goto 4, 3) := by decide +kernel
theorem dX6_takesUnit_24 : decode cX6_takesUnit 24 = .ok (.iconst 0, 1) := by decide +kernel
theorem dX6_takesUnit_25 : decode cX6_takesUnit 25 = .ok (.istore_n 2, 1) := by decide +kernel
theorem dX6_takesUnit_26 : decode cX6_takesUnit 26 = .ok (.iload_n 1, 1) := by decide +kernel
theorem dX6_takesUnit_27 : decode cX6_takesUnit 27 = .ok (.invokestatic 105, 3) := by decide +kernel
theorem dX6_takesUnit_30 : decode cX6_takesUnit 30 = .ok (.ifCond .eq 30, 3) := by decide +kernel
theorem dX6_takesUnit_33 : decode cX6_takesUnit 33 = .ok (.aload_n 0, 1) := by decide +kernel
theorem dX6_takesUnit_34 : decode cX6_takesUnit 34 = .ok (.getfield 12, 3) := by decide +kernel
theorem dX6_takesUnit_37 : decode cX6_takesUnit 37 = .ok (.iload_n 2, 1) := by decide +kernel
theorem dX6_takesUnit_38 : decode cX6_takesUnit 38 = .ok (.ifCond .eq 7, 3) := by decide +kernel
theorem dX6_takesUnit_41 : decode cX6_takesUnit 41 = .ok (.iconst 3, 1) := by decide +kernel
theorem dX6_takesUnit_42 : decode cX6_takesUnit 42 = .ok (.goto 4, 3) := by decide +kernel
theorem dX6_takesUnit_45 : decode cX6_takesUnit 45 = .ok (.iconst 2, 1) := by decide +kernel
theorem dX6_takesUnit_46 : decode cX6_takesUnit 46 = .ok (.iload_n 1, 1) := by decide +kernel
theorem dX6_takesUnit_47 : decode cX6_takesUnit 47 = .ok (.bipush 97, 2) := by decide +kernel
theorem dX6_takesUnit_49 : decode cX6_takesUnit 49 = .ok (.isub, 1) := by decide +kernel
theorem dX6_takesUnit_50 : decode cX6_takesUnit 50 = .ok (.invokevirtual 108, 3) := by decide +kernel
theorem dX6_takesUnit_53 : decode cX6_takesUnit 53 = .ok (.aload_n 0, 1) := by decide +kernel
theorem dX6_takesUnit_54 : decode cX6_takesUnit 54 = .ok (.iconst 3, 1) := by decide +kernel
theorem dX6_takesUnit_55 : decode cX6_takesUnit 55 = .ok (.putfield 29, 3) := by decide +kernel
theorem dX6_takesUnit_58 : decode cX6_takesUnit 58 = .ok (.iconst 1, 1) := by decide +kernel
theorem dX6_takesUnit_59 : decode cX6_takesUnit 59 = .ok (.ireturn, 1) := by decide +kernel
theorem dX6_takesUnit_60 : decode cX6_takesUnit 60 = .ok (.iload_n 1, 1) := by decide +kernel
theorem dX6_takesUnit_61 : decode cX6_takesUnit 61 = .ok (.invokestatic 83, 3) := by decide +kernel
theorem dX6_takesUnit_64 : decode cX6_takesUnit 64 = .ok (.ifCond .eq 30, 3) := by decide +kernel
theorem dX6_takesUnit_67 : decode cX6_takesUnit 67 = .ok (.aload_n 0, 1) := by decide +kernel
theorem dX6_takesUnit_68 : decode cX6_takesUnit 68 = .ok (.getfield 12, 3) := by decide +kernel
theorem dX6_takesUnit_71 : decode cX6_takesUnit 71 = .ok (.iload_n 2, 1) := by decide +kernel
theorem dX6_takesUnit_72 : decode cX6_takesUnit 72 = .ok (.ifCond .eq 7, 3) := by decide +kernel
theorem dX6_takesUnit_75 : decode cX6_takesUnit 75 = .ok (.iconst 1, 1) := by decide +kernel
theorem dX6_takesUnit_76 : decode cX6_takesUnit 76 = .ok (.goto 4, 3) := by decide +kernel
theorem dX6_takesUnit_79 : decode cX6_takesUnit 79 = .ok (.iconst 0, 1) := by decide +kernel
theorem dX6_takesUnit_80 : decode cX6_takesUnit 80 = .ok (.iload_n 1, 1) := by decide +kernel
theorem dX6_takesUnit_81 : decode cX6_takesUnit 81 = .ok (.bipush 48, 2) := by decide +kernel
theorem dX6_takesUnit_83 : decode cX6_takesUnit 83 = .ok (.isub, 1) := by decide +kernel
theorem dX6_takesUnit_84 : decode cX6_takesUnit 84 = .ok (.invokevirtual 108, 3) := by decide +kernel
theorem dX6_takesUnit_87 : decode cX6_takesUnit 87 = .ok (.aload_n 0, 1) := by decide +kernel
theorem dX6_takesUnit_88 : decode cX6_takesUnit 88 = .ok (.iconst 2, 1) := by decide +kernel
theorem dX6_takesUnit_89 : decode cX6_takesUnit 89 = .ok (.putfield 29, 3) := by decide +kernel
theorem dX6_takesUnit_92 : decode cX6_takesUnit 92 = .ok (.iconst 1, 1) := by decide +kernel
theorem dX6_takesUnit_93 : decode cX6_takesUnit 93 = .ok (.ireturn, 1) := by decide +kernel
theorem dX6_takesUnit_94 : decode cX6_takesUnit 94 = .ok (.iconst 0, 1) := by decide +kernel
theorem dX6_takesUnit_95 : decode cX6_takesUnit 95 = .ok (.ireturn, 1) := by decide +kernel
theorem dX6_takesSecondDigit_0 : decode cX6_takesSecondDigit 0 = .ok (.aload_n 0, 1) := by decide +kernel
theorem dX6_takesSecondDigit_1 : decode cX6_takesSecondDigit 1 = .ok (.getfield 12, 3) := by decide +kernel
theorem dX6_takesSecondDigit_4 : decode cX6_takesSecondDigit 4 = .ok (.iload_n 1, 1) := by decide +kernel
theorem dX6_takesSecondDigit_5 : decode cX6_takesSecondDigit 5 = .ok (.bipush 48, 2) := by decide +kernel
theorem dX6_takesSecondDigit_7 : decode cX6_takesSecondDigit 7 = .ok (.isub, 1) := by decide +kernel
theorem dX6_takesSecondDigit_8 : decode cX6_takesSecondDigit 8 = .ok (.invokevirtual 112, 3) := by decide +kernel
theorem dX6_takesSecondDigit_11 : decode cX6_takesSecondDigit 11 = .ok (.aload_n 0, 1) := by decide +kernel
theorem dX6_takesSecondDigit_12 : decode cX6_takesSecondDigit 12 = .ok (.iconst 3, 1) := by decide +kernel
theorem dX6_takesSecondDigit_13 : decode cX6_takesSecondDigit 13 = .ok (.putfield 29, 3) := by decide +kernel
theorem dX6_takesSecondDigit_16 : decode cX6_takesSecondDigit 16 = .ok (.iconst 1, 1) := by decide +kernel
theorem dX6_takesSecondDigit_17 : decode cX6_takesSecondDigit 17 = .ok (.ireturn, 1) := by decide +kernel
theorem dX6_takesBehindUnit_0 : decode cX6_takesBehindUnit 0 = .ok (.iload_n 1, 1) := by decide +kernel
theorem dX6_takesBehindUnit_1 : decode cX6_takesBehindUnit 1 = .ok (.bipush 43, 2) := by decide +kernel
theorem dX6_takesBehindUnit_3 : decode cX6_takesBehindUnit 3 = .ok (.if_icmp .eq 9, 3) := by decide +kernel
theorem dX6_takesBehindUnit_6 : decode cX6_takesBehindUnit 6 = .ok (.iload_n 1, 1) := by decide +kernel
theorem dX6_takesBehindUnit_7 : decode cX6_takesBehindUnit 7 = .ok (.bipush 45, 2) := by decide +kernel
theorem dX6_takesBehindUnit_9 : decode cX6_takesBehindUnit 9 = .ok (.if_icmp .ne 25, 3) := by decide +kernel
theorem dX6_takesBehindUnit_12 : decode cX6_takesBehindUnit 12 = .ok (.aload_n 0, 1) := by decide +kernel
theorem dX6_takesBehindUnit_13 : decode cX6_takesBehindUnit 13 = .ok (.iload_n 1, 1) := by decide +kernel
theorem dX6_takesBehindUnit_14 : decode cX6_takesBehindUnit 14 = .ok (.bipush 45, 2) := by decide +kernel
theorem dX6_takesBehindUnit_16 : decode cX6_takesBehindUnit 16 = .ok (.if_icmp .ne 7, 3) := by decide +kernel
theorem dX6_takesBehindUnit_19 : decode cX6_takesBehindUnit 19 = .ok (.iconst 1, 1) := by decide +kernel
theorem dX6_takesBehindUnit_20 : decode cX6_takesBehindUnit 20 = .ok (.goto 4, 3) := by decide +kernel
theorem dX6_takesBehindUnit_23 : decode cX6_takesBehindUnit 23 = .ok (.iconst 0, 1) := by decide +kernel
theorem dX6_takesBehindUnit_24 : decode cX6_takesBehindUnit 24 = .ok (.putfield 39, 3) := by decide +kernel
theorem dX6_takesBehindUnit_27 : decode cX6_takesBehindUnit 27 = .ok (.aload_n 0, 1) := by decide +kernel
theorem dX6_takesBehindUnit_28 : decode cX6_takesBehindUnit 28 = .ok (.iconst 1, 1) := by decide +kernel
theorem dX6_takesBehindUnit_29 : decode cX6_takesBehindUnit 29 = .ok (.putfield 29, 3) := by decide +kernel
theorem dX6_takesBehindUnit_32 : decode cX6_takesBehindUnit 32 = .ok (.iconst 1, 1) := by decide +kernel
theorem dX6_takesBehindUnit_33 : decode cX6_takesBehindUnit 33 = .ok (.ireturn, 1) := by decide +kernel
theorem dX6_takesBehindUnit_34 : decode cX6_takesBehindUnit 34 = .ok (.aload_n 0, 1) := by decide +kernel
theorem dX6_takesBehindUnit_35 : decode cX6_takesBehindUnit 35 = .ok (.getfield 32, 3) := by decide +kernel
theorem dX6_takesBehindUnit_38 : decode cX6_takesBehindUnit 38 = .ok (.ifCond .ne 43, 3) := by decide +kernel
theorem dX6_takesBehindUnit_41 : decode cX6_takesBehindUnit 41 = .ok (.iload_n 1, 1) := by decide +kernel
theorem dX6_takesBehindUnit_42 : decode cX6_takesBehindUnit 42 = .ok (.bipush 60, 2) := by decide +kernel
theorem dX6_takesBehindUnit_44 : decode cX6_takesBehindUnit 44 = .ok (.if_icmp .eq 15, 3) := by decide +kernel
theorem dX6_takesBehindUnit_47 : decode cX6_takesBehindUnit 47 = .ok (.iload_n 1, 1) := by decide +kernel
theorem dX6_takesBehindUnit_48 : decode cX6_takesBehindUnit 48 = .ok (.bipush 61, 2) := by decide +kernel
theorem dX6_takesBehindUnit_50 : decode cX6_takesBehindUnit 50 = .ok (.if_icmp .eq 9, 3) := by decide +kernel
theorem dX6_takesBehindUnit_53 : decode cX6_takesBehindUnit 53 = .ok (.iload_n 1, 1) := by decide +kernel
theorem dX6_takesBehindUnit_54 : decode cX6_takesBehindUnit 54 = .ok (.bipush 62, 2) := by decide +kernel
theorem dX6_takesBehindUnit_56 : decode cX6_takesBehindUnit 56 = .ok (.if_icmp .ne 25, 3) := by decide +kernel
theorem dX6_takesBehindUnit_59 : decode cX6_takesBehindUnit 59 = .ok (.aload_n 0, 1) := by decide +kernel
theorem dX6_takesBehindUnit_60 : decode cX6_takesBehindUnit 60 = .ok (.iload_n 1, 1) := by decide +kernel
theorem dX6_takesBehindUnit_61 : decode cX6_takesBehindUnit 61 = .ok (.putfield 35, 3) := by decide +kernel
theorem dX6_takesBehindUnit_64 : decode cX6_takesBehindUnit 64 = .ok (.aload_n 0, 1) := by decide +kernel
theorem dX6_takesBehindUnit_65 : decode cX6_takesBehindUnit 65 = .ok (.iconst 1, 1) := by decide +kernel
theorem dX6_takesBehindUnit_66 : decode cX6_takesBehindUnit 66 = .ok (.putfield 32, 3) := by decide +kernel
theorem dX6_takesBehindUnit_69 : decode cX6_takesBehindUnit 69 = .ok (.aload_n 0, 1) := by decide +kernel
theorem dX6_takesBehindUnit_70 : decode cX6_takesBehindUnit 70 = .ok (.iconst 0, 1) := by decide +kernel
theorem dX6_takesBehindUnit_71 : decode cX6_takesBehindUnit 71 = .ok (.putfield 39, 3) := by decide +kernel
theorem dX6_takesBehindUnit_74 : decode cX6_takesBehindUnit 74 = .ok (.aload_n 0, 1) := by decide +kernel
theorem dX6_takesBehindUnit_75 : decode cX6_takesBehindUnit 75 = .ok (.iconst 1, 1) := by decide +kernel
theorem dX6_takesBehindUnit_76 : decode cX6_takesBehindUnit 76 = .ok (.putfield 29, 3) := by decide +kernel
theorem dX6_takesBehindUnit_79 : decode cX6_takesBehindUnit 79 = .ok (.iconst 1, 1) := by decide +kernel
theorem dX6_takesBehindUnit_80 : decode cX6_takesBehindUnit 80 = .ok (.ireturn, 1) := by decide +kernel
theorem dX6_takesBehindUnit_81 : decode cX6_takesBehindUnit 81 = .ok (.iconst 0, 1) := by decide +kernel
theorem dX6_takesBehindUnit_82 : decode cX6_takesBehindUnit 82 = .ok (.ireturn, 1) := by decide +kernel
theorem dX6_takesBehindFactor_0 : decode cX6_takesBehindFactor 0 = .ok (.iload_n 1, 1) := by decide +kernel
theorem dX6_takesBehindFactor_1 : decode cX6_takesBehindFactor 1 = .ok (.bipush 38, 2) := by decide +kernel
theorem dX6_takesBehindFactor_3 : decode cX6_takesBehindFactor 3 = .ok (.if_icmp .ne 14, 3) := by decide +kernel
theorem dX6_takesBehindFactor_6 : decode cX6_takesBehindFactor 6 = .ok (.aload_n 0, 1) := by decide +kernel
theorem dX6_takesBehindFactor_7 : decode cX6_takesBehindFactor 7 = .ok (.bipush 38, 2) := by decide +kernel
theorem dX6_takesBehindFactor_9 : decode cX6_takesBehindFactor 9 = .ok (.bipush 8, 2) := by decide +kernel
theorem dX6_takesBehindFactor_11 : decode cX6_takesBehindFactor 11 = .ok (.invokevirtual 116, 3) := by decide +kernel
theorem dX6_takesBehindFactor_14 : decode cX6_takesBehindFactor 14 = .ok (.goto 103, 3) := by decide +kernel
theorem dX6_takesBehindFactor_17 : decode cX6_takesBehindFactor 17 = .ok (.iload_n 1, 1) := by decide +kernel
theorem dX6_takesBehindFactor_18 : decode cX6_takesBehindFactor 18 = .ok (.bipush 124, 2) := by decide +kernel
theorem dX6_takesBehindFactor_20 : decode cX6_takesBehindFactor 20 = .ok (.if_icmp .ne 10, 3) := by decide +kernel
theorem dX6_takesBehindFactor_23 : decode cX6_takesBehindFactor 23 = .ok (.aload_n 0, 1) := by decide +kernel
theorem dX6_takesBehindFactor_24 : decode cX6_takesBehindFactor 24 = .ok (.invokevirtual 68, 3) := by decide +kernel
theorem dX6_takesBehindFactor_27 : decode cX6_takesBehindFactor 27 = .ok (.goto 90, 3) := by decide +kernel
theorem dX6_takesBehindFactor_30 : decode cX6_takesBehindFactor 30 = .ok (.iload_n 1, 1) := by decide +kernel
theorem dX6_takesBehindFactor_31 : decode cX6_takesBehindFactor 31 = .ok (.bipush 41, 2) := by decide +kernel
theorem dX6_takesBehindFactor_33 : decode cX6_takesBehindFactor 33 = .ok (.if_icmp .ne 44, 3) := by decide +kernel
theorem dX6_takesBehindFactor_36 : decode cX6_takesBehindFactor 36 = .ok (.aload_n 0, 1) := by decide +kernel
theorem dX6_takesBehindFactor_37 : decode cX6_takesBehindFactor 37 = .ok (.getfield 26, 3) := by decide +kernel
theorem dX6_takesBehindFactor_40 : decode cX6_takesBehindFactor 40 = .ok (.ifCond .le 37, 3) := by decide +kernel
theorem dX6_takesBehindFactor_43 : decode cX6_takesBehindFactor 43 = .ok (.aload_n 0, 1) := by decide +kernel
theorem dX6_takesBehindFactor_44 : decode cX6_takesBehindFactor 44 = .ok (.invokevirtual 68, 3) := by decide +kernel
theorem dX6_takesBehindFactor_47 : decode cX6_takesBehindFactor 47 = .ok (.aload_n 0, 1) := by decide +kernel
theorem dX6_takesBehindFactor_48 : decode cX6_takesBehindFactor 48 = .ok (.dup, 1) := by decide +kernel
theorem dX6_takesBehindFactor_49 : decode cX6_takesBehindFactor 49 = .ok (.getfield 26, 3) := by decide +kernel
theorem dX6_takesBehindFactor_52 : decode cX6_takesBehindFactor 52 = .ok (.iconst 1, 1) := by decide +kernel
theorem dX6_takesBehindFactor_53 : decode cX6_takesBehindFactor 53 = .ok (.isub, 1) := by decide +kernel
theorem dX6_takesBehindFactor_54 : decode cX6_takesBehindFactor 54 = .ok (.putfield 26, 3) := by decide +kernel
theorem dX6_takesBehindFactor_57 : decode cX6_takesBehindFactor 57 = .ok (.aload_n 0, 1) := by decide +kernel
theorem dX6_takesBehindFactor_58 : decode cX6_takesBehindFactor 58 = .ok (.iconst 0, 1) := by decide +kernel
theorem dX6_takesBehindFactor_59 : decode cX6_takesBehindFactor 59 = .ok (.aload_n 0, 1) := by decide +kernel
theorem dX6_takesBehindFactor_60 : decode cX6_takesBehindFactor 60 = .ok (.getfield 22, 3) := by decide +kernel
theorem dX6_takesBehindFactor_63 : decode cX6_takesBehindFactor 63 = .ok (.iconst 1, 1) := by decide +kernel
theorem dX6_takesBehindFactor_64 : decode cX6_takesBehindFactor 64 = .ok (.isub, 1) := by decide +kernel
theorem dX6_takesBehindFactor_65 : decode cX6_takesBehindFactor 65 = .ok (.invokestatic 120, 3) := by decide +kernel
theorem dX6_takesBehindFactor_68 : decode cX6_takesBehindFactor 68 = .ok (.putfield 22, 3) := by decide +kernel
theorem dX6_takesBehindFactor_71 : decode cX6_takesBehindFactor 71 = .ok (.aload_n 0, 1) := by decide +kernel
theorem dX6_takesBehindFactor_72 : decode cX6_takesBehindFactor 72 = .ok (.invokevirtual 126, 3) := by decide +kernel
theorem dX6_takesBehindFactor_75 : decode cX6_takesBehindFactor 75 = .ok (.iconst 1, 1) := by decide +kernel
theorem dX6_takesBehindFactor_76 : decode cX6_takesBehindFactor 76 = .ok (.ireturn, 1) := by decide +kernel
theorem dX6_takesBehindFactor_77 : decode cX6_takesBehindFactor 77 = .ok (.iload_n 1, 1) := by decide +kernel
theorem dX6_takesBehindFactor_78 : decode cX6_takesBehindFactor 78 = .ok (.bipush 58, 2) := by decide +kernel
theorem dX6_takesBehindFactor_80 : decode cX6_takesBehindFactor 80 = .ok (.if_icmp .ne 35, 3) := by decide +kernel
theorem dX6_takesBehindFactor_83 : decode cX6_takesBehindFactor 83 = .ok (.aload_n 0, 1) := by decide +kernel
theorem dX6_takesBehindFactor_84 : decode cX6_takesBehindFactor 84 = .ok (.getfield 43, 3) := by decide +kernel
theorem dX6_takesBehindFactor_87 : decode cX6_takesBehindFactor 87 = .ok (.ifCond .eq 28, 3) := by decide +kernel
theorem dX6_takesBehindFactor_90 : decode cX6_takesBehindFactor 90 = .ok (.aload_n 0, 1) := by decide +kernel
theorem dX6_takesBehindFactor_91 : decode cX6_takesBehindFactor 91 = .ok (.getfield 26, 3) := by decide +kernel
theorem dX6_takesBehindFactor_94 : decode cX6_takesBehindFactor 94 = .ok (.ifCond .ne 21, 3) := by decide +kernel
theorem dX6_takesBehindFactor_97 : decode cX6_takesBehindFactor 97 = .ok (.aload_n 0, 1) := by decide +kernel
theorem dX6_takesBehindFactor_98 : decode cX6_takesBehindFactor 98 = .ok (.invokevirtual 68, 3) := by decide +kernel
theorem dX6_takesBehindFactor_101 : decode cX6_takesBehindFactor 101 = .ok (.aload_n 0, 1) := by decide +kernel
theorem dX6_takesBehindFactor_102 : decode cX6_takesBehindFactor 102 = .ok (.getfield 12, 3) := by decide +kernel
theorem dX6_takesBehindFactor_105 : decode cX6_takesBehindFactor 105 = .ok (.invokevirtual 71, 3) := by decide +kernel
theorem dX6_takesBehindFactor_108 : decode cX6_takesBehindFactor 108 = .ok (.aload_n 0, 1) := by decide +kernel
theorem dX6_takesBehindFactor_109 : decode cX6_takesBehindFactor 109 = .ok (.iconst 5, 1) := by decide +kernel
theorem dX6_takesBehindFactor_110 : decode cX6_takesBehindFactor 110 = .ok (.putfield 29, 3) := by decide +kernel
theorem dX6_takesBehindFactor_113 : decode cX6_takesBehindFactor 113 = .ok (.iconst 1, 1) := by decide +kernel
theorem dX6_takesBehindFactor_114 : decode cX6_takesBehindFactor 114 = .ok (.ireturn, 1) := by decide +kernel
theorem dX6_takesBehindFactor_115 : decode cX6_takesBehindFactor 115 = .ok (.iconst 0, 1) := by decide +kernel
theorem dX6_takesBehindFactor_116 : decode cX6_takesBehindFactor 116 = .ok (.ireturn, 1) := by decide +kernel
theorem dX6_takesBehindFactor_117 : decode cX6_takesBehindFactor 117 = .ok (.aload_n 0, 1) := by decide +kernel
theorem dX6_takesBehindFactor_118 : decode cX6_takesBehindFactor 118 = .ok (.iload_n 1, 1) := by decide +kernel
theorem dX6_takesBehindFactor_119 : decode cX6_takesBehindFactor 119 = .ok (.invokevirtual 101, 3) := by decide +kernel
theorem dX6_takesBehindFactor_122 : decode cX6_takesBehindFactor 122 = .ok (.aload_n 0, 1) := by decide +kernel
theorem dX6_takesBehindFactor_123 : decode cX6_takesBehindFactor 123 = .ok (.iconst 0, 1) := by decide +kernel
theorem dX6_takesBehindFactor_124 : decode cX6_takesBehindFactor 124 = .ok (.putfield 29, 3) := by decide +kernel
theorem dX6_takesBehindFactor_127 : decode cX6_takesBehindFactor 127 = .ok (.iconst 1, 1) := by decide +kernel
theorem dX6_takesBehindFactor_128 : decode cX6_takesBehindFactor 128 = .ok (.ireturn, 1) := by decide +kernel
theorem dX6_takesTarget_0 : decode cX6_takesTarget 0 = .ok (.iload_n 1, 1) := by decide +kernel
theorem dX6_takesTarget_1 : decode cX6_takesTarget 1 = .ok (.invokestatic 105, 3) := by decide +kernel
theorem dX6_takesTarget_4 : decode cX6_takesTarget 4 = .ok (.ifCond .ne 5, 3) := by decide +kernel
theorem dX6_takesTarget_7 : decode cX6_takesTarget 7 = .ok (.iconst 0, 1) := by decide +kernel
theorem dX6_takesTarget_8 : decode cX6_takesTarget 8 = .ok (.ireturn, 1) := by decide +kernel
theorem dX6_takesTarget_9 : decode cX6_takesTarget 9 = .ok (.aload_n 0, 1) := by decide +kernel
theorem dX6_takesTarget_10 : decode cX6_takesTarget 10 = .ok (.getfield 12, 3) := by decide +kernel
theorem dX6_takesTarget_13 : decode cX6_takesTarget 13 = .ok (.iload_n 1, 1) := by decide +kernel
theorem dX6_takesTarget_14 : decode cX6_takesTarget 14 = .ok (.bipush 97, 2) := by decide +kernel
theorem dX6_takesTarget_16 : decode cX6_takesTarget 16 = .ok (.isub, 1) := by decide +kernel
theorem dX6_takesTarget_17 : decode cX6_takesTarget 17 = .ok (.putfield 129, 3) := by decide +kernel
theorem dX6_takesTarget_20 : decode cX6_takesTarget 20 = .ok (.aload_n 0, 1) := by decide +kernel
theorem dX6_takesTarget_21 : decode cX6_takesTarget 21 = .ok (.bipush 6, 2) := by decide +kernel
theorem dX6_takesTarget_23 : decode cX6_takesTarget 23 = .ok (.putfield 29, 3) := by decide +kernel
theorem dX6_takesTarget_26 : decode cX6_takesTarget 26 = .ok (.iconst 1, 1) := by decide +kernel
theorem dX6_takesTarget_27 : decode cX6_takesTarget 27 = .ok (.ireturn, 1) := by decide +kernel
theorem dX6_takesEquals_0 : decode cX6_takesEquals 0 = .ok (.iload_n 1, 1) := by decide +kernel
theorem dX6_takesEquals_1 : decode cX6_takesEquals 1 = .ok (.bipush 61, 2) := by decide +kernel
theorem dX6_takesEquals_3 : decode cX6_takesEquals 3 = .ok (.if_icmp .eq 5, 3) := by decide +kernel
theorem dX6_takesEquals_6 : decode cX6_takesEquals 6 = .ok (.iconst 0, 1) := by decide +kernel
theorem dX6_takesEquals_7 : decode cX6_takesEquals 7 = .ok (.ireturn, 1) := by decide +kernel
theorem dX6_takesEquals_8 : decode cX6_takesEquals 8 = .ok (.aload_n 0, 1) := by decide +kernel
theorem dX6_takesEquals_9 : decode cX6_takesEquals 9 = .ok (.iconst 2, 1) := by decide +kernel
theorem dX6_takesEquals_10 : decode cX6_takesEquals 10 = .ok (.putfield 32, 3) := by decide +kernel
theorem dX6_takesEquals_13 : decode cX6_takesEquals 13 = .ok (.aload_n 0, 1) := by decide +kernel
theorem dX6_takesEquals_14 : decode cX6_takesEquals 14 = .ok (.iconst 0, 1) := by decide +kernel
theorem dX6_takesEquals_15 : decode cX6_takesEquals 15 = .ok (.putfield 39, 3) := by decide +kernel
theorem dX6_takesEquals_18 : decode cX6_takesEquals 18 = .ok (.aload_n 0, 1) := by decide +kernel
theorem dX6_takesEquals_19 : decode cX6_takesEquals 19 = .ok (.iconst 1, 1) := by decide +kernel
theorem dX6_takesEquals_20 : decode cX6_takesEquals 20 = .ok (.putfield 29, 3) := by decide +kernel
theorem dX6_takesEquals_23 : decode cX6_takesEquals 23 = .ok (.iconst 1, 1) := by decide +kernel
theorem dX6_takesEquals_24 : decode cX6_takesEquals 24 = .ok (.ireturn, 1) := by decide +kernel
theorem dX6_closeComparison_0 : decode cX6_closeComparison 0 = .ok (.aload_n 0, 1) := by decide +kernel
theorem dX6_closeComparison_1 : decode cX6_closeComparison 1 = .ok (.getfield 12, 3) := by decide +kernel
theorem dX6_closeComparison_4 : decode cX6_closeComparison 4 = .ok (.aload_n 0, 1) := by decide +kernel
theorem dX6_closeComparison_5 : decode cX6_closeComparison 5 = .ok (.getfield 35, 3) := by decide +kernel
theorem dX6_closeComparison_8 : decode cX6_closeComparison 8 = .ok (.bipush 60, 2) := by decide +kernel
theorem dX6_closeComparison_10 : decode cX6_closeComparison 10 = .ok (.if_icmp .ne 7, 3) := by decide +kernel
theorem dX6_closeComparison_13 : decode cX6_closeComparison 13 = .ok (.iconst 4, 1) := by decide +kernel
theorem dX6_closeComparison_14 : decode cX6_closeComparison 14 = .ok (.goto 18, 3) := by decide +kernel
theorem dX6_closeComparison_17 : decode cX6_closeComparison 17 = .ok (.aload_n 0, 1) := by decide +kernel
theorem dX6_closeComparison_18 : decode cX6_closeComparison 18 = .ok (.getfield 35, 3) := by decide +kernel
theorem dX6_closeComparison_21 : decode cX6_closeComparison 21 = .ok (.bipush 61, 2) := by decide +kernel
theorem dX6_closeComparison_23 : decode cX6_closeComparison 23 = .ok (.if_icmp .ne 7, 3) := by decide +kernel
theorem dX6_closeComparison_26 : decode cX6_closeComparison 26 = .ok (.iconst 5, 1) := by decide +kernel
theorem dX6_closeComparison_27 : decode cX6_closeComparison 27 = .ok (.goto 5, 3) := by decide +kernel
theorem dX6_closeComparison_30 : decode cX6_closeComparison 30 = .ok (.bipush 6, 2) := by decide +kernel
theorem dX6_closeComparison_32 : decode cX6_closeComparison 32 = .ok (.iconst 0, 1) := by decide +kernel
theorem dX6_closeComparison_33 : decode cX6_closeComparison 33 = .ok (.invokevirtual 108, 3) := by decide +kernel
theorem dX6_closeComparison_36 : decode cX6_closeComparison 36 = .ok (.aload_n 0, 1) := by decide +kernel
theorem dX6_closeComparison_37 : decode cX6_closeComparison 37 = .ok (.invokevirtual 126, 3) := by decide +kernel
theorem dX6_closeComparison_40 : decode cX6_closeComparison 40 = .ok (.return_, 1) := by decide +kernel
theorem dX6_closeFactor_0 : decode cX6_closeFactor 0 = .ok (.aload_n 0, 1) := by decide +kernel
theorem dX6_closeFactor_1 : decode cX6_closeFactor 1 = .ok (.getfield 22, 3) := by decide +kernel
theorem dX6_closeFactor_4 : decode cX6_closeFactor 4 = .ok (.ifCond .le 42, 3) := by decide +kernel
theorem dX6_closeFactor_7 : decode cX6_closeFactor 7 = .ok (.aload_n 0, 1) := by decide +kernel
theorem dX6_closeFactor_8 : decode cX6_closeFactor 8 = .ok (.getfield 18, 3) := by decide +kernel
theorem dX6_closeFactor_11 : decode cX6_closeFactor 11 = .ok (.aload_n 0, 1) := by decide +kernel
theorem dX6_closeFactor_12 : decode cX6_closeFactor 12 = .ok (.getfield 22, 3) := by decide +kernel
theorem dX6_closeFactor_15 : decode cX6_closeFactor 15 = .ok (.iconst 1, 1) := by decide +kernel
theorem dX6_closeFactor_16 : decode cX6_closeFactor 16 = .ok (.isub, 1) := by decide +kernel
theorem dX6_closeFactor_17 : decode cX6_closeFactor 17 = .ok (.caload, 1) := by decide +kernel
theorem dX6_closeFactor_18 : decode cX6_closeFactor 18 = .ok (.bipush 33, 2) := by decide +kernel
theorem dX6_closeFactor_20 : decode cX6_closeFactor 20 = .ok (.if_icmp .ne 26, 3) := by decide +kernel
theorem dX6_closeFactor_23 : decode cX6_closeFactor 23 = .ok (.aload_n 0, 1) := by decide +kernel
theorem dX6_closeFactor_24 : decode cX6_closeFactor 24 = .ok (.dup, 1) := by decide +kernel
theorem dX6_closeFactor_25 : decode cX6_closeFactor 25 = .ok (.getfield 22, 3) := by decide +kernel
theorem dX6_closeFactor_28 : decode cX6_closeFactor 28 = .ok (.iconst 1, 1) := by decide +kernel
theorem dX6_closeFactor_29 : decode cX6_closeFactor 29 = .ok (.isub, 1) := by decide +kernel
theorem dX6_closeFactor_30 : decode cX6_closeFactor 30 = .ok (.putfield 22, 3) := by decide +kernel
theorem dX6_closeFactor_33 : decode cX6_closeFactor 33 = .ok (.aload_n 0, 1) := by decide +kernel
theorem dX6_closeFactor_34 : decode cX6_closeFactor 34 = .ok (.getfield 12, 3) := by decide +kernel
theorem dX6_closeFactor_37 : decode cX6_closeFactor 37 = .ok (.bipush 7, 2) := by decide +kernel
theorem dX6_closeFactor_39 : decode cX6_closeFactor 39 = .ok (.iconst 0, 1) := by decide +kernel
theorem dX6_closeFactor_40 : decode cX6_closeFactor 40 = .ok (.invokevirtual 108, 3) := by decide +kernel
theorem dX6_closeFactor_43 : decode cX6_closeFactor 43 = .ok (.goto (-43), 3) := by decide +kernel
theorem dX6_closeFactor_46 : decode cX6_closeFactor 46 = .ok (.aload_n 0, 1) := by decide +kernel
theorem dX6_closeFactor_47 : decode cX6_closeFactor 47 = .ok (.iconst 4, 1) := by decide +kernel
theorem dX6_closeFactor_48 : decode cX6_closeFactor 48 = .ok (.putfield 29, 3) := by decide +kernel
theorem dX6_closeFactor_51 : decode cX6_closeFactor 51 = .ok (.return_, 1) := by decide +kernel
theorem dX6_closeTerms_0 : decode cX6_closeTerms 0 = .ok (.aload_n 0, 1) := by decide +kernel
theorem dX6_closeTerms_1 : decode cX6_closeTerms 1 = .ok (.bipush 38, 2) := by decide +kernel
theorem dX6_closeTerms_3 : decode cX6_closeTerms 3 = .ok (.bipush 8, 2) := by decide +kernel
theorem dX6_closeTerms_5 : decode cX6_closeTerms 5 = .ok (.invokevirtual 116, 3) := by decide +kernel
theorem dX6_closeTerms_8 : decode cX6_closeTerms 8 = .ok (.aload_n 0, 1) := by decide +kernel
theorem dX6_closeTerms_9 : decode cX6_closeTerms 9 = .ok (.bipush 124, 2) := by decide +kernel
theorem dX6_closeTerms_11 : decode cX6_closeTerms 11 = .ok (.bipush 9, 2) := by decide +kernel
theorem dX6_closeTerms_13 : decode cX6_closeTerms 13 = .ok (.invokevirtual 116, 3) := by decide +kernel
theorem dX6_closeTerms_16 : decode cX6_closeTerms 16 = .ok (.return_, 1) := by decide +kernel
theorem dX6_release_0 : decode cX6_release 0 = .ok (.aload_n 0, 1) := by decide +kernel
theorem dX6_release_1 : decode cX6_release 1 = .ok (.getfield 22, 3) := by decide +kernel
theorem dX6_release_4 : decode cX6_release 4 = .ok (.ifCond .le 37, 3) := by decide +kernel
theorem dX6_release_7 : decode cX6_release 7 = .ok (.aload_n 0, 1) := by decide +kernel
theorem dX6_release_8 : decode cX6_release 8 = .ok (.getfield 18, 3) := by decide +kernel
theorem dX6_release_11 : decode cX6_release 11 = .ok (.aload_n 0, 1) := by decide +kernel
theorem dX6_release_12 : decode cX6_release 12 = .ok (.getfield 22, 3) := by decide +kernel
theorem dX6_release_15 : decode cX6_release 15 = .ok (.iconst 1, 1) := by decide +kernel
theorem dX6_release_16 : decode cX6_release 16 = .ok (.isub, 1) := by decide +kernel
theorem dX6_release_17 : decode cX6_release 17 = .ok (.caload, 1) := by decide +kernel
theorem dX6_release_18 : decode cX6_release 18 = .ok (.iload_n 1, 1) := by decide +kernel
theorem dX6_release_19 : decode cX6_release 19 = .ok (.if_icmp .ne 22, 3) := by decide +kernel
theorem dX6_release_22 : decode cX6_release 22 = .ok (.aload_n 0, 1) := by decide +kernel
theorem dX6_release_23 : decode cX6_release 23 = .ok (.dup, 1) := by decide +kernel
theorem dX6_release_24 : decode cX6_release 24 = .ok (.getfield 22, 3) := by decide +kernel
theorem dX6_release_27 : decode cX6_release 27 = .ok (.iconst 1, 1) := by decide +kernel
theorem dX6_release_28 : decode cX6_release 28 = .ok (.isub, 1) := by decide +kernel
theorem dX6_release_29 : decode cX6_release 29 = .ok (.putfield 22, 3) := by decide +kernel
theorem dX6_release_32 : decode cX6_release 32 = .ok (.aload_n 0, 1) := by decide +kernel
theorem dX6_release_33 : decode cX6_release 33 = .ok (.getfield 12, 3) := by decide +kernel
theorem dX6_release_36 : decode cX6_release 36 = .ok (.iload_n 2, 1) := by decide +kernel
theorem dX6_release_37 : decode cX6_release 37 = .ok (.iconst 0, 1) := by decide +kernel
theorem dX6_release_38 : decode cX6_release 38 = .ok (.invokevirtual 108, 3) := by decide +kernel
theorem dX6_release_41 : decode cX6_release 41 = .ok (.return_, 1) := by decide +kernel
theorem dX6_keep_0 : decode cX6_keep 0 = .ok (.aload_n 0, 1) := by decide +kernel
theorem dX6_keep_1 : decode cX6_keep 1 = .ok (.getfield 22, 3) := by decide +kernel
theorem dX6_keep_4 : decode cX6_keep 4 = .ok (.bipush 60, 2) := by decide +kernel
theorem dX6_keep_6 : decode cX6_keep 6 = .ok (.if_icmp .ge 23, 3) := by decide +kernel
theorem dX6_keep_9 : decode cX6_keep 9 = .ok (.aload_n 0, 1) := by decide +kernel
theorem dX6_keep_10 : decode cX6_keep 10 = .ok (.getfield 18, 3) := by decide +kernel
theorem dX6_keep_13 : decode cX6_keep 13 = .ok (.aload_n 0, 1) := by decide +kernel
theorem dX6_keep_14 : decode cX6_keep 14 = .ok (.getfield 22, 3) := by decide +kernel
theorem dX6_keep_17 : decode cX6_keep 17 = .ok (.iload_n 1, 1) := by decide +kernel
theorem dX6_keep_18 : decode cX6_keep 18 = .ok (.castore, 1) := by decide +kernel
theorem dX6_keep_19 : decode cX6_keep 19 = .ok (.aload_n 0, 1) := by decide +kernel
theorem dX6_keep_20 : decode cX6_keep 20 = .ok (.dup, 1) := by decide +kernel
theorem dX6_keep_21 : decode cX6_keep 21 = .ok (.getfield 22, 3) := by decide +kernel
theorem dX6_keep_24 : decode cX6_keep 24 = .ok (.iconst 1, 1) := by decide +kernel
theorem dX6_keep_25 : decode cX6_keep 25 = .ok (.iadd, 1) := by decide +kernel
theorem dX6_keep_26 : decode cX6_keep 26 = .ok (.putfield 22, 3) := by decide +kernel
theorem dX6_keep_29 : decode cX6_keep 29 = .ok (.return_, 1) := by decide +kernel
theorem dX6_isLetter_0 : decode cX6_isLetter 0 = .ok (.iload_n 0, 1) := by decide +kernel
theorem dX6_isLetter_1 : decode cX6_isLetter 1 = .ok (.bipush 97, 2) := by decide +kernel
theorem dX6_isLetter_3 : decode cX6_isLetter 3 = .ok (.if_icmp .lt 13, 3) := by decide +kernel
theorem dX6_isLetter_6 : decode cX6_isLetter 6 = .ok (.iload_n 0, 1) := by decide +kernel
theorem dX6_isLetter_7 : decode cX6_isLetter 7 = .ok (.bipush 104, 2) := by decide +kernel
theorem dX6_isLetter_9 : decode cX6_isLetter 9 = .ok (.if_icmp .gt 7, 3) := by decide +kernel
theorem dX6_isLetter_12 : decode cX6_isLetter 12 = .ok (.iconst 1, 1) := by decide +kernel
theorem dX6_isLetter_13 : decode cX6_isLetter 13 = .ok (.goto 4, 3) := by decide +kernel
theorem dX6_isLetter_16 : decode cX6_isLetter 16 = .ok (.iconst 0, 1) := by decide +kernel
theorem dX6_isLetter_17 : decode cX6_isLetter 17 = .ok (.ireturn, 1) := by decide +kernel
theorem dX6_isDigit_0 : decode cX6_isDigit 0 = .ok (.iload_n 0, 1) := by decide +kernel
theorem dX6_isDigit_1 : decode cX6_isDigit 1 = .ok (.bipush 48, 2) := by decide +kernel
theorem dX6_isDigit_3 : decode cX6_isDigit 3 = .ok (.if_icmp .lt 13, 3) := by decide +kernel
theorem dX6_isDigit_6 : decode cX6_isDigit 6 = .ok (.iload_n 0, 1) := by decide +kernel
theorem dX6_isDigit_7 : decode cX6_isDigit 7 = .ok (.bipush 57, 2) := by decide +kernel
theorem dX6_isDigit_9 : decode cX6_isDigit 9 = .ok (.if_icmp .gt 7, 3) := by decide +kernel
theorem dX6_isDigit_12 : decode cX6_isDigit 12 = .ok (.iconst 1, 1) := by decide +kernel
theorem dX6_isDigit_13 : decode cX6_isDigit 13 = .ok (.goto 4, 3) := by decide +kernel
theorem dX6_isDigit_16 : decode cX6_isDigit 16 = .ok (.iconst 0, 1) := by decide +kernel
theorem dX6_isDigit_17 : decode cX6_isDigit 17 = .ok (.ireturn, 1) := by decide +kernel
theorem dX7_init_0 : decode cX7_init 0 = .ok (.aload_n 0, 1) := by decide +kernel
theorem dX7_init_1 : decode cX7_init 1 = .ok (.invokespecial 3, 3) := by decide +kernel
theorem dX7_init_4 : decode cX7_init 4 = .ok (.aload_n 0, 1) := by decide +kernel
theorem dX7_init_5 : decode cX7_init 5 = .ok (.bipush 6, 2) := by decide +kernel
theorem dX7_init_7 : decode cX7_init 7 = .ok (.anewarray 9, 3) := by decide +kernel
theorem dX7_init_10 : decode cX7_init 10 = .ok (.putfield 11, 3) := by decide +kernel
theorem dX7_init_13 : decode cX7_init 13 = .ok (.aload_n 0, 1) := by decide +kernel
theorem dX7_init_14 : decode cX7_init 14 = .ok (.iconst 0, 1) := by decide +kernel
theorem dX7_init_15 : decode cX7_init 15 = .ok (.putfield 17, 3) := by decide +kernel
theorem dX7_init_18 : decode cX7_init 18 = .ok (.aload_n 0, 1) := by decide +kernel
theorem dX7_init_19 : decode cX7_init 19 = .ok (.iconst 0, 1) := by decide +kernel
theorem dX7_init_20 : decode cX7_init 20 = .ok (.putfield 21, 3) := by decide +kernel
theorem dX7_init_23 : decode cX7_init 23 = .ok (.aload_n 0, 1) := by decide +kernel
theorem dX7_init_24 : decode cX7_init 24 = .ok (.bipush 8, 2) := by decide +kernel
theorem dX7_init_26 : decode cX7_init 26 = .ok (.newarray .int, 2) := by decide +kernel
theorem dX7_init_28 : decode cX7_init 28 = .ok (.putfield 24, 3) := by decide +kernel
theorem dX7_init_31 : decode cX7_init 31 = .ok (.iconst 0, 1) := by decide +kernel
theorem dX7_init_32 : decode cX7_init 32 = .ok (.istore_n 1, 1) := by decide +kernel
theorem dX7_init_33 : decode cX7_init 33 = .ok (.iload_n 1, 1) := by decide +kernel
theorem dX7_init_34 : decode cX7_init 34 = .ok (.bipush 6, 2) := by decide +kernel
theorem dX7_init_36 : decode cX7_init 36 = .ok (.if_icmp .ge 22, 3) := by decide +kernel
theorem dX7_init_39 : decode cX7_init 39 = .ok (.aload_n 0, 1) := by decide +kernel
theorem dX7_init_40 : decode cX7_init 40 = .ok (.getfield 11, 3) := by decide +kernel
theorem dX7_init_43 : decode cX7_init 43 = .ok (.iload_n 1, 1) := by decide +kernel
theorem dX7_init_44 : decode cX7_init 44 = .ok (.new 9, 3) := by decide +kernel
theorem dX7_init_47 : decode cX7_init 47 = .ok (.dup, 1) := by decide +kernel
theorem dX7_init_48 : decode cX7_init 48 = .ok (.invokespecial 28, 3) := by decide +kernel
theorem dX7_init_51 : decode cX7_init 51 = .ok (.aastore, 1) := by decide +kernel
theorem dX7_init_52 : decode cX7_init 52 = .ok (.iinc 1 1, 3) := by decide +kernel
theorem dX7_init_55 : decode cX7_init 55 = .ok (.goto (-22), 3) := by decide +kernel
theorem dX7_init_58 : decode cX7_init 58 = .ok (.return_, 1) := by decide +kernel
theorem dX7_has_0 : decode cX7_has 0 = .ok (.iload_n 1, 1) := by decide +kernel
theorem dX7_has_1 : decode cX7_has 1 = .ok (.ifCond .lt 15, 3) := by decide +kernel
theorem dX7_has_4 : decode cX7_has 4 = .ok (.iload_n 1, 1) := by decide +kernel
theorem dX7_has_5 : decode cX7_has 5 = .ok (.aload_n 0, 1) := by decide +kernel
theorem dX7_has_6 : decode cX7_has 6 = .ok (.getfield 17, 3) := by decide +kernel
theorem dX7_has_9 : decode cX7_has 9 = .ok (.if_icmp .ge 7, 3) := by decide +kernel
theorem dX7_has_12 : decode cX7_has 12 = .ok (.iconst 1, 1) := by decide +kernel
theorem dX7_has_13 : decode cX7_has 13 = .ok (.goto 4, 3) := by decide +kernel
theorem dX7_has_16 : decode cX7_has 16 = .ok (.iconst 0, 1) := by decide +kernel
theorem dX7_has_17 : decode cX7_has 17 = .ok (.ireturn, 1) := by decide +kernel
theorem dX7_failingIn_0 : decode cX7_failingIn 0 = .ok (.lload_n 1, 1) := by decide +kernel
theorem dX7_failingIn_1 : decode cX7_failingIn 1 = .ok (.aload_n 0, 1) := by decide +kernel
theorem dX7_failingIn_2 : decode cX7_failingIn 2 = .ok (.getfield 24, 3) := by decide +kernel
theorem dX7_failingIn_5 : decode cX7_failingIn 5 = .ok (.invokestatic 29, 3) := by decide +kernel
theorem dX7_failingIn_8 : decode cX7_failingIn 8 = .ok (.iconst 0, 1) := by decide +kernel
theorem dX7_failingIn_9 : decode cX7_failingIn 9 = .ok (.istore_n 3, 1) := by decide +kernel
theorem dX7_failingIn_10 : decode cX7_failingIn 10 = .ok (.iconst 0, 1) := by decide +kernel
theorem dX7_failingIn_11 : decode cX7_failingIn 11 = .ok (.istore 4, 2) := by decide +kernel
theorem dX7_failingIn_13 : decode cX7_failingIn 13 = .ok (.iload 4, 2) := by decide +kernel
theorem dX7_failingIn_15 : decode cX7_failingIn 15 = .ok (.aload_n 0, 1) := by decide +kernel
theorem dX7_failingIn_16 : decode cX7_failingIn 16 = .ok (.getfield 17, 3) := by decide +kernel
theorem dX7_failingIn_19 : decode cX7_failingIn 19 = .ok (.if_icmp .ge 37, 3) := by decide +kernel
theorem dX7_failingIn_22 : decode cX7_failingIn 22 = .ok (.iload_n 3, 1) := by decide +kernel
theorem dX7_failingIn_23 : decode cX7_failingIn 23 = .ok (.aload_n 0, 1) := by decide +kernel
theorem dX7_failingIn_24 : decode cX7_failingIn 24 = .ok (.getfield 11, 3) := by decide +kernel
theorem dX7_failingIn_27 : decode cX7_failingIn 27 = .ok (.iload 4, 2) := by decide +kernel
theorem dX7_failingIn_29 : decode cX7_failingIn 29 = .ok (.aaload, 1) := by decide +kernel
theorem dX7_failingIn_30 : decode cX7_failingIn 30 = .ok (.aload_n 0, 1) := by decide +kernel
theorem dX7_failingIn_31 : decode cX7_failingIn 31 = .ok (.getfield 24, 3) := by decide +kernel
theorem dX7_failingIn_34 : decode cX7_failingIn 34 = .ok (.invokevirtual 33, 3) := by decide +kernel
theorem dX7_failingIn_37 : decode cX7_failingIn 37 = .ok (.ifCond .eq 7, 3) := by decide +kernel
theorem dX7_failingIn_40 : decode cX7_failingIn 40 = .ok (.iconst 0, 1) := by decide +kernel
theorem dX7_failingIn_41 : decode cX7_failingIn 41 = .ok (.goto 7, 3) := by decide +kernel
theorem dX7_failingIn_44 : decode cX7_failingIn 44 = .ok (.iconst 1, 1) := by decide +kernel
theorem dX7_failingIn_45 : decode cX7_failingIn 45 = .ok (.iload 4, 2) := by decide +kernel
theorem dX7_failingIn_47 : decode cX7_failingIn 47 = .ok (.ishl, 1) := by decide +kernel
theorem dX7_failingIn_48 : decode cX7_failingIn 48 = .ok (.ior, 1) := by decide +kernel
theorem dX7_failingIn_49 : decode cX7_failingIn 49 = .ok (.istore_n 3, 1) := by decide +kernel
theorem dX7_failingIn_50 : decode cX7_failingIn 50 = .ok (.iinc 4 1, 3) := by decide +kernel
theorem dX7_failingIn_53 : decode cX7_failingIn 53 = .ok (.goto (-40), 3) := by decide +kernel
theorem dX7_failingIn_56 : decode cX7_failingIn 56 = .ok (.iload_n 3, 1) := by decide +kernel
theorem dX7_failingIn_57 : decode cX7_failingIn 57 = .ok (.ireturn, 1) := by decide +kernel
theorem dX8_init_0 : decode cX8_init 0 = .ok (.aload_n 0, 1) := by decide +kernel
theorem dX8_init_1 : decode cX8_init 1 = .ok (.invokespecial 3, 3) := by decide +kernel
theorem dX8_init_4 : decode cX8_init 4 = .ok (.aload_n 0, 1) := by decide +kernel
theorem dX8_init_5 : decode cX8_init 5 = .ok (.bipush 60, 2) := by decide +kernel
theorem dX8_init_7 : decode cX8_init 7 = .ok (.newarray .int, 2) := by decide +kernel
theorem dX8_init_9 : decode cX8_init 9 = .ok (.putfield 9, 3) := by decide +kernel
theorem dX8_init_12 : decode cX8_init 12 = .ok (.aload_n 0, 1) := by decide +kernel
theorem dX8_init_13 : decode cX8_init 13 = .ok (.iconst 0, 1) := by decide +kernel
theorem dX8_init_14 : decode cX8_init 14 = .ok (.putfield 15, 3) := by decide +kernel
theorem dX8_init_17 : decode cX8_init 17 = .ok (.aload_n 0, 1) := by decide +kernel
theorem dX8_init_18 : decode cX8_init 18 = .ok (.iconst 0, 1) := by decide +kernel
theorem dX8_init_19 : decode cX8_init 19 = .ok (.putfield 19, 3) := by decide +kernel
theorem dX8_init_22 : decode cX8_init 22 = .ok (.aload_n 0, 1) := by decide +kernel
theorem dX8_init_23 : decode cX8_init 23 = .ok (.iconst 0, 1) := by decide +kernel
theorem dX8_init_24 : decode cX8_init 24 = .ok (.putfield 22, 3) := by decide +kernel
theorem dX8_init_27 : decode cX8_init 27 = .ok (.return_, 1) := by decide +kernel
theorem dX8_clear_0 : decode cX8_clear 0 = .ok (.aload_n 0, 1) := by decide +kernel
theorem dX8_clear_1 : decode cX8_clear 1 = .ok (.iconst 0, 1) := by decide +kernel
theorem dX8_clear_2 : decode cX8_clear 2 = .ok (.putfield 15, 3) := by decide +kernel
theorem dX8_clear_5 : decode cX8_clear 5 = .ok (.aload_n 0, 1) := by decide +kernel
theorem dX8_clear_6 : decode cX8_clear 6 = .ok (.iconst 0, 1) := by decide +kernel
theorem dX8_clear_7 : decode cX8_clear 7 = .ok (.putfield 19, 3) := by decide +kernel
theorem dX8_clear_10 : decode cX8_clear 10 = .ok (.aload_n 0, 1) := by decide +kernel
theorem dX8_clear_11 : decode cX8_clear 11 = .ok (.iconst 0, 1) := by decide +kernel
theorem dX8_clear_12 : decode cX8_clear 12 = .ok (.putfield 22, 3) := by decide +kernel
theorem dX8_clear_15 : decode cX8_clear 15 = .ok (.return_, 1) := by decide +kernel
theorem dX8_emit_0 : decode cX8_emit 0 = .ok (.aload_n 0, 1) := by decide +kernel
theorem dX8_emit_1 : decode cX8_emit 1 = .ok (.getfield 15, 3) := by decide +kernel
theorem dX8_emit_4 : decode cX8_emit 4 = .ok (.bipush 60, 2) := by decide +kernel
theorem dX8_emit_6 : decode cX8_emit 6 = .ok (.if_icmp .ge 28, 3) := by decide +kernel
theorem dX8_emit_9 : decode cX8_emit 9 = .ok (.aload_n 0, 1) := by decide +kernel
theorem dX8_emit_10 : decode cX8_emit 10 = .ok (.getfield 9, 3) := by decide +kernel
theorem dX8_emit_13 : decode cX8_emit 13 = .ok (.aload_n 0, 1) := by decide +kernel
theorem dX8_emit_14 : decode cX8_emit 14 = .ok (.getfield 15, 3) := by decide +kernel
theorem dX8_emit_17 : decode cX8_emit 17 = .ok (.iload_n 1, 1) := by decide +kernel
theorem dX8_emit_18 : decode cX8_emit 18 = .ok (.bipush 8, 2) := by decide +kernel
theorem dX8_emit_20 : decode cX8_emit 20 = .ok (.ishl, 1) := by decide +kernel
theorem dX8_emit_21 : decode cX8_emit 21 = .ok (.iload_n 2, 1) := by decide +kernel
theorem dX8_emit_22 : decode cX8_emit 22 = .ok (.ior, 1) := by decide +kernel
theorem dX8_emit_23 : decode cX8_emit 23 = .ok (.iastore, 1) := by decide +kernel
theorem dX8_emit_24 : decode cX8_emit 24 = .ok (.aload_n 0, 1) := by decide +kernel
theorem dX8_emit_25 : decode cX8_emit 25 = .ok (.dup, 1) := by decide +kernel
theorem dX8_emit_26 : decode cX8_emit 26 = .ok (.getfield 15, 3) := by decide +kernel
theorem dX8_emit_29 : decode cX8_emit 29 = .ok (.iconst 1, 1) := by decide +kernel
theorem dX8_emit_30 : decode cX8_emit 30 = .ok (.iadd, 1) := by decide +kernel
theorem dX8_emit_31 : decode cX8_emit 31 = .ok (.putfield 15, 3) := by decide +kernel
theorem dX8_emit_34 : decode cX8_emit 34 = .ok (.return_, 1) := by decide +kernel
theorem dX8_widen_0 : decode cX8_widen 0 = .ok (.aload_n 0, 1) := by decide +kernel
theorem dX8_widen_1 : decode cX8_widen 1 = .ok (.getfield 15, 3) := by decide +kernel
theorem dX8_widen_4 : decode cX8_widen 4 = .ok (.ifCond .le 37, 3) := by decide +kernel
theorem dX8_widen_7 : decode cX8_widen 7 = .ok (.aload_n 0, 1) := by decide +kernel
theorem dX8_widen_8 : decode cX8_widen 8 = .ok (.getfield 9, 3) := by decide +kernel
theorem dX8_widen_11 : decode cX8_widen 11 = .ok (.aload_n 0, 1) := by decide +kernel
theorem dX8_widen_12 : decode cX8_widen 12 = .ok (.getfield 15, 3) := by decide +kernel
theorem dX8_widen_15 : decode cX8_widen 15 = .ok (.iconst 1, 1) := by decide +kernel
theorem dX8_widen_16 : decode cX8_widen 16 = .ok (.isub, 1) := by decide +kernel
theorem dX8_widen_17 : decode cX8_widen 17 = .ok (.dup2, 1) := by decide +kernel
theorem dX8_widen_18 : decode cX8_widen 18 = .ok (.iaload, 1) := by decide +kernel
theorem dX8_widen_19 : decode cX8_widen 19 = .ok (.bipush 9, 2) := by decide +kernel
theorem dX8_widen_21 : decode cX8_widen 21 = .ok (.aload_n 0, 1) := by decide +kernel
theorem dX8_widen_22 : decode cX8_widen 22 = .ok (.getfield 9, 3) := by decide +kernel
theorem dX8_widen_25 : decode cX8_widen 25 = .ok (.aload_n 0, 1) := by decide +kernel
theorem dX8_widen_26 : decode cX8_widen 26 = .ok (.getfield 15, 3) := by decide +kernel
theorem dX8_widen_29 : decode cX8_widen 29 = .ok (.iconst 1, 1) := by decide +kernel
theorem dX8_widen_30 : decode cX8_widen 30 = .ok (.isub, 1) := by decide +kernel
theorem dX8_widen_31 : decode cX8_widen 31 = .ok (.iaload, 1) := by decide +kernel
theorem dX8_widen_32 : decode cX8_widen 32 = .ok (.sipush 255, 3) := by decide +kernel
theorem dX8_widen_35 : decode cX8_widen 35 = .ok (.iand, 1) := by decide +kernel
theorem dX8_widen_36 : decode cX8_widen 36 = .ok (.imul, 1) := by decide +kernel
theorem dX8_widen_37 : decode cX8_widen 37 = .ok (.iload_n 1, 1) := by decide +kernel
theorem dX8_widen_38 : decode cX8_widen 38 = .ok (.iadd, 1) := by decide +kernel
theorem dX8_widen_39 : decode cX8_widen 39 = .ok (.iadd, 1) := by decide +kernel
theorem dX8_widen_40 : decode cX8_widen 40 = .ok (.iastore, 1) := by decide +kernel
theorem dX8_widen_41 : decode cX8_widen 41 = .ok (.return_, 1) := by decide +kernel
theorem dX8_endRule_0 : decode cX8_endRule 0 = .ok (.aload_n 0, 1) := by decide +kernel
theorem dX8_endRule_1 : decode cX8_endRule 1 = .ok (.aload_n 0, 1) := by decide +kernel
theorem dX8_endRule_2 : decode cX8_endRule 2 = .ok (.getfield 15, 3) := by decide +kernel
theorem dX8_endRule_5 : decode cX8_endRule 5 = .ok (.putfield 19, 3) := by decide +kernel
theorem dX8_endRule_8 : decode cX8_endRule 8 = .ok (.return_, 1) := by decide +kernel
theorem dX8_copy_0 : decode cX8_copy 0 = .ok (.aload_n 1, 1) := by decide +kernel
theorem dX8_copy_1 : decode cX8_copy 1 = .ok (.getfield 9, 3) := by decide +kernel
theorem dX8_copy_4 : decode cX8_copy 4 = .ok (.iconst 0, 1) := by decide +kernel
theorem dX8_copy_5 : decode cX8_copy 5 = .ok (.aload_n 0, 1) := by decide +kernel
theorem dX8_copy_6 : decode cX8_copy 6 = .ok (.getfield 9, 3) := by decide +kernel
theorem dX8_copy_9 : decode cX8_copy 9 = .ok (.iconst 0, 1) := by decide +kernel
theorem dX8_copy_10 : decode cX8_copy 10 = .ok (.bipush 60, 2) := by decide +kernel
theorem dX8_copy_12 : decode cX8_copy 12 = .ok (.invokestatic 25, 3) := by decide +kernel
theorem dX8_copy_15 : decode cX8_copy 15 = .ok (.aload_n 0, 1) := by decide +kernel
theorem dX8_copy_16 : decode cX8_copy 16 = .ok (.aload_n 1, 1) := by decide +kernel
theorem dX8_copy_17 : decode cX8_copy 17 = .ok (.getfield 15, 3) := by decide +kernel
theorem dX8_copy_20 : decode cX8_copy 20 = .ok (.putfield 15, 3) := by decide +kernel
theorem dX8_copy_23 : decode cX8_copy 23 = .ok (.aload_n 0, 1) := by decide +kernel
theorem dX8_copy_24 : decode cX8_copy 24 = .ok (.aload_n 1, 1) := by decide +kernel
theorem dX8_copy_25 : decode cX8_copy 25 = .ok (.getfield 19, 3) := by decide +kernel
theorem dX8_copy_28 : decode cX8_copy 28 = .ok (.putfield 19, 3) := by decide +kernel
theorem dX8_copy_31 : decode cX8_copy 31 = .ok (.aload_n 0, 1) := by decide +kernel
theorem dX8_copy_32 : decode cX8_copy 32 = .ok (.aload_n 1, 1) := by decide +kernel
theorem dX8_copy_33 : decode cX8_copy 33 = .ok (.getfield 22, 3) := by decide +kernel
theorem dX8_copy_36 : decode cX8_copy 36 = .ok (.putfield 22, 3) := by decide +kernel
theorem dX8_copy_39 : decode cX8_copy 39 = .ok (.return_, 1) := by decide +kernel
theorem dX8_isTrue_0 : decode cX8_isTrue 0 = .ok (.lconst 0, 1) := by decide +kernel
theorem dX8_isTrue_1 : decode cX8_isTrue 1 = .ok (.lstore_n 2, 1) := by decide +kernel
theorem dX8_isTrue_2 : decode cX8_isTrue 2 = .ok (.iconst 0, 1) := by decide +kernel
theorem dX8_isTrue_3 : decode cX8_isTrue 3 = .ok (.istore 4, 2) := by decide +kernel
theorem dX8_isTrue_5 : decode cX8_isTrue 5 = .ok (.iconst 0, 1) := by decide +kernel
theorem dX8_isTrue_6 : decode cX8_isTrue 6 = .ok (.istore 5, 2) := by decide +kernel
theorem dX8_isTrue_8 : decode cX8_isTrue 8 = .ok (.iload 5, 2) := by decide +kernel
theorem dX8_isTrue_10 : decode cX8_isTrue 10 = .ok (.aload_n 0, 1) := by decide +kernel
theorem dX8_isTrue_11 : decode cX8_isTrue 11 = .ok (.getfield 19, 3) := by decide +kernel
theorem dX8_isTrue_14 : decode cX8_isTrue 14 = .ok (.if_icmp .ge 204, 3) := by decide +kernel
theorem dX8_isTrue_17 : decode cX8_isTrue 17 = .ok (.aload_n 0, 1) := by decide +kernel
theorem dX8_isTrue_18 : decode cX8_isTrue 18 = .ok (.getfield 9, 3) := by decide +kernel
theorem dX8_isTrue_21 : decode cX8_isTrue 21 = .ok (.iload 5, 2) := by decide +kernel
theorem dX8_isTrue_23 : decode cX8_isTrue 23 = .ok (.iaload, 1) := by decide +kernel
theorem dX8_isTrue_24 : decode cX8_isTrue 24 = .ok (.bipush 8, 2) := by decide +kernel
theorem dX8_isTrue_26 : decode cX8_isTrue 26 = .ok (.ishr, 1) := by decide +kernel
theorem dX8_isTrue_27 : decode cX8_isTrue 27 = .ok (.istore 6, 2) := by decide +kernel
theorem dX8_isTrue_29 : decode cX8_isTrue 29 = .ok (.iload 6, 2) := by decide +kernel
theorem dX8_isTrue_31 : decode cX8_isTrue 31 = .ok (.iconst 4, 1) := by decide +kernel
theorem dX8_isTrue_32 : decode cX8_isTrue 32 = .ok (.if_icmp .ge 60, 3) := by decide +kernel
theorem dX8_isTrue_35 : decode cX8_isTrue 35 = .ok (.iload 6, 2) := by decide +kernel
theorem dX8_isTrue_37 : decode cX8_isTrue 37 = .ok (.iconst 2, 1) := by decide +kernel
theorem dX8_isTrue_38 : decode cX8_isTrue 38 = .ok (.if_icmp .ge 17, 3) := by decide +kernel
theorem dX8_isTrue_41 : decode cX8_isTrue 41 = .ok (.aload_n 0, 1) := by decide +kernel
theorem dX8_isTrue_42 : decode cX8_isTrue 42 = .ok (.getfield 9, 3) := by decide +kernel
theorem dX8_isTrue_45 : decode cX8_isTrue 45 = .ok (.iload 5, 2) := by decide +kernel
theorem dX8_isTrue_47 : decode cX8_isTrue 47 = .ok (.iaload, 1) := by decide +kernel
theorem dX8_isTrue_48 : decode cX8_isTrue 48 = .ok (.sipush 255, 3) := by decide +kernel
theorem dX8_isTrue_51 : decode cX8_isTrue 51 = .ok (.iand, 1) := by decide +kernel
theorem dX8_isTrue_52 : decode cX8_isTrue 52 = .ok (.goto 15, 3) := by decide +kernel
theorem dX8_isTrue_55 : decode cX8_isTrue 55 = .ok (.aload_n 1, 1) := by decide +kernel
theorem dX8_isTrue_56 : decode cX8_isTrue 56 = .ok (.aload_n 0, 1) := by decide +kernel
theorem dX8_isTrue_57 : decode cX8_isTrue 57 = .ok (.getfield 9, 3) := by decide +kernel
theorem dX8_isTrue_60 : decode cX8_isTrue 60 = .ok (.iload 5, 2) := by decide +kernel
theorem dX8_isTrue_62 : decode cX8_isTrue 62 = .ok (.iaload, 1) := by decide +kernel
theorem dX8_isTrue_63 : decode cX8_isTrue 63 = .ok (.bipush 7, 2) := by decide +kernel
theorem dX8_isTrue_65 : decode cX8_isTrue 65 = .ok (.iand, 1) := by decide +kernel
theorem dX8_isTrue_66 : decode cX8_isTrue 66 = .ok (.iaload, 1) := by decide +kernel
theorem dX8_isTrue_67 : decode cX8_isTrue 67 = .ok (.istore 7, 2) := by decide +kernel
theorem dX8_isTrue_69 : decode cX8_isTrue 69 = .ok (.iload 4, 2) := by decide +kernel
theorem dX8_isTrue_71 : decode cX8_isTrue 71 = .ok (.iload 6, 2) := by decide +kernel
theorem dX8_isTrue_73 : decode cX8_isTrue 73 = .ok (.iconst 1, 1) := by decide +kernel
theorem dX8_isTrue_74 : decode cX8_isTrue 74 = .ok (.iand, 1) := by decide +kernel
theorem dX8_isTrue_75 : decode cX8_isTrue 75 = .ok (.ifCond .ne 8, 3) := by decide +kernel
theorem dX8_isTrue_78 : decode cX8_isTrue 78 = .ok (.iload 7, 2) := by decide +kernel
theorem dX8_isTrue_80 : decode cX8_isTrue 80 = .ok (.goto 6, 3) := by decide +kernel
theorem dX8_isTrue_83 : decode cX8_isTrue 83 = .ok (.iload 7, 2) := by decide +kernel
theorem dX8_isTrue_85 : decode cX8_isTrue 85 = .ok (.ineg, 1) := by decide +kernel
theorem dX8_isTrue_86 : decode cX8_isTrue 86 = .ok (.iadd, 1) := by decide +kernel
theorem dX8_isTrue_87 : decode cX8_isTrue 87 = .ok (.istore 4, 2) := by decide +kernel
theorem dX8_isTrue_89 : decode cX8_isTrue 89 = .ok (.goto 123, 3) := by decide +kernel
theorem dX8_isTrue_92 : decode cX8_isTrue 92 = .ok (.iload 6, 2) := by decide +kernel
theorem dX8_isTrue_94 : decode cX8_isTrue 94 = .ok (.bipush 6, 2) := by decide +kernel
theorem dX8_isTrue_96 : decode cX8_isTrue 96 = .ok (.if_icmp .gt 74, 3) := by decide +kernel
theorem dX8_isTrue_99 : decode cX8_isTrue 99 = .ok (.iload 6, 2) := by decide +kernel
theorem dX8_isTrue_101 : decode cX8_isTrue 101 = .ok (.iconst 4, 1) := by decide +kernel
theorem dX8_isTrue_102 : decode cX8_isTrue 102 = .ok (.if_icmp .ne 16, 3) := by decide +kernel
theorem dX8_isTrue_105 : decode cX8_isTrue 105 = .ok (.iload 4, 2) := by decide +kernel
theorem dX8_isTrue_107 : decode cX8_isTrue 107 = .ok (.ifCond .ge 7, 3) := by decide +kernel
theorem dX8_isTrue_110 : decode cX8_isTrue 110 = .ok (.iconst 1, 1) := by decide +kernel
theorem dX8_isTrue_111 : decode cX8_isTrue 111 = .ok (.goto 36, 3) := by decide +kernel
theorem dX8_isTrue_114 : decode cX8_isTrue 114 = .ok (.iconst 0, 1) := by decide +kernel
theorem dX8_isTrue_115 : decode cX8_isTrue 115 = .ok (.goto 32, 3) := by decide +kernel
theorem dX8_isTrue_118 : decode cX8_isTrue 118 = .ok (.iload 6, 2) := by decide +kernel
theorem dX8_isTrue_120 : decode cX8_isTrue 120 = .ok (.iconst 5, 1) := by decide +kernel
theorem dX8_isTrue_121 : decode cX8_isTrue 121 = .ok (.if_icmp .ne 16, 3) := by decide +kernel
theorem dX8_isTrue_124 : decode cX8_isTrue 124 = .ok (.iload 4, 2) := by decide +kernel
theorem dX8_isTrue_126 : decode cX8_isTrue 126 = .ok (.ifCond .ne 7, 3) := by decide +kernel
theorem dX8_isTrue_129 : decode cX8_isTrue 129 = .ok (.iconst 1, 1) := by decide +kernel
theorem dX8_isTrue_130 : decode cX8_isTrue 130 = .ok (.goto 17, 3) := by decide +kernel
theorem dX8_isTrue_133 : decode cX8_isTrue 133 = .ok (.iconst 0, 1) := by decide +kernel
theorem dX8_isTrue_134 : decode cX8_isTrue 134 = .ok (.goto 13, 3) := by decide +kernel
theorem dX8_isTrue_137 : decode cX8_isTrue 137 = .ok (.iload 4, 2) := by decide +kernel
theorem dX8_isTrue_139 : decode cX8_isTrue 139 = .ok (.ifCond .le 7, 3) := by decide +kernel
theorem dX8_isTrue_142 : decode cX8_isTrue 142 = .ok (.iconst 1, 1) := by decide +kernel
theorem dX8_isTrue_143 : decode cX8_isTrue 143 = .ok (.goto 4, 3) := by decide +kernel
theorem dX8_isTrue_146 : decode cX8_isTrue 146 = .ok (.iconst 0, 1) := by decide +kernel
theorem dX8_isTrue_147 : decode cX8_isTrue 147 = .ok (.istore 7, 2) := by decide +kernel
theorem dX8_isTrue_149 : decode cX8_isTrue 149 = .ok (.lload_n 2, 1) := by decide +kernel
theorem dX8_isTrue_150 : decode cX8_isTrue 150 = .ok (.iconst 1, 1) := by decide +kernel
theorem dX8_isTrue_151 : decode cX8_isTrue 151 = .ok (.lshl, 1) := by decide +kernel
theorem dX8_isTrue_152 : decode cX8_isTrue 152 = .ok (.iload 7, 2) := by decide +kernel
theorem dX8_isTrue_154 : decode cX8_isTrue 154 = .ok (.ifCond .eq 7, 3) := by decide +kernel
theorem dX8_isTrue_157 : decode cX8_isTrue 157 = .ok (.lconst 1, 1) := by decide +kernel
theorem dX8_isTrue_158 : decode cX8_isTrue 158 = .ok (.goto 4, 3) := by decide +kernel
theorem dX8_isTrue_161 : decode cX8_isTrue 161 = .ok (.lconst 0, 1) := by decide +kernel
theorem dX8_isTrue_162 : decode cX8_isTrue 162 = .ok (.lor, 1) := by decide +kernel
theorem dX8_isTrue_163 : decode cX8_isTrue 163 = .ok (.lstore_n 2, 1) := by decide +kernel
theorem dX8_isTrue_164 : decode cX8_isTrue 164 = .ok (.iconst 0, 1) := by decide +kernel
theorem dX8_isTrue_165 : decode cX8_isTrue 165 = .ok (.istore 4, 2) := by decide +kernel
theorem dX8_isTrue_167 : decode cX8_isTrue 167 = .ok (.goto 45, 3) := by decide +kernel
theorem dX8_isTrue_170 : decode cX8_isTrue 170 = .ok (.iload 6, 2) := by decide +kernel
theorem dX8_isTrue_172 : decode cX8_isTrue 172 = .ok (.bipush 7, 2) := by decide +kernel
theorem dX8_isTrue_174 : decode cX8_isTrue 174 = .ok (.if_icmp .ne 10, 3) := by decide +kernel
theorem dX8_isTrue_177 : decode cX8_isTrue 177 = .ok (.lload_n 2, 1) := by decide +kernel
theorem dX8_isTrue_178 : decode cX8_isTrue 178 = .ok (.lconst 1, 1) := by decide +kernel
theorem dX8_isTrue_179 : decode cX8_isTrue 179 = .ok (.lxor, 1) := by decide +kernel
theorem dX8_isTrue_180 : decode cX8_isTrue 180 = .ok (.lstore_n 2, 1) := by decide +kernel
theorem dX8_isTrue_181 : decode cX8_isTrue 181 = .ok (.goto 31, 3) := by decide +kernel
theorem dX8_isTrue_184 : decode cX8_isTrue 184 = .ok (.iload 6, 2) := by decide +kernel
theorem dX8_isTrue_186 : decode cX8_isTrue 186 = .ok (.bipush 8, 2) := by decide +kernel
theorem dX8_isTrue_188 : decode cX8_isTrue 188 = .ok (.if_icmp .ne 16, 3) := by decide +kernel
theorem dX8_isTrue_191 : decode cX8_isTrue 191 = .ok (.lload_n 2, 1) := by decide +kernel
theorem dX8_isTrue_192 : decode cX8_isTrue 192 = .ok (.iconst 1, 1) := by decide +kernel
theorem dX8_isTrue_193 : decode cX8_isTrue 193 = .ok (.lushr, 1) := by decide +kernel
theorem dX8_isTrue_194 : decode cX8_isTrue 194 = .ok (.lload_n 2, 1) := by decide +kernel
theorem dX8_isTrue_195 : decode cX8_isTrue 195 = .ok (.ldc2_w 31, 3) := by decide +kernel
theorem dX8_isTrue_198 : decode cX8_isTrue 198 = .ok (.lor, 1) := by decide +kernel
theorem dX8_isTrue_199 : decode cX8_isTrue 199 = .ok (.land, 1) := by decide +kernel
theorem dX8_isTrue_200 : decode cX8_isTrue 200 = .ok (.lstore_n 2, 1) := by decide +kernel
theorem dX8_isTrue_201 : decode cX8_isTrue 201 = .ok (.goto 11, 3) := by decide +kernel
theorem dX8_isTrue_204 : decode cX8_isTrue 204 = .ok (.lload_n 2, 1) := by decide +kernel
theorem dX8_isTrue_205 : decode cX8_isTrue 205 = .ok (.iconst 1, 1) := by decide +kernel
theorem dX8_isTrue_206 : decode cX8_isTrue 206 = .ok (.lushr, 1) := by decide +kernel
theorem dX8_isTrue_207 : decode cX8_isTrue 207 = .ok (.lload_n 2, 1) := by decide +kernel
theorem dX8_isTrue_208 : decode cX8_isTrue 208 = .ok (.lconst 1, 1) := by decide +kernel
theorem dX8_isTrue_209 : decode cX8_isTrue 209 = .ok (.land, 1) := by decide +kernel
theorem dX8_isTrue_210 : decode cX8_isTrue 210 = .ok (.lor, 1) := by decide +kernel
theorem dX8_isTrue_211 : decode cX8_isTrue 211 = .ok (.lstore_n 2, 1) := by decide +kernel
theorem dX8_isTrue_212 : decode cX8_isTrue 212 = .ok (.iinc 5 1, 3) := by decide +kernel
theorem dX8_isTrue_215 : decode cX8_isTrue 215 = .ok (.goto (-207), 3) := by decide +kernel
theorem dX8_isTrue_218 : decode cX8_isTrue 218 = .ok (.lload_n 2, 1) := by decide +kernel
theorem dX8_isTrue_219 : decode cX8_isTrue 219 = .ok (.lconst 1, 1) := by decide +kernel
theorem dX8_isTrue_220 : decode cX8_isTrue 220 = .ok (.land, 1) := by decide +kernel
theorem dX8_isTrue_221 : decode cX8_isTrue 221 = .ok (.lconst 0, 1) := by decide +kernel
theorem dX8_isTrue_222 : decode cX8_isTrue 222 = .ok (.lcmp, 1) := by decide +kernel
theorem dX8_isTrue_223 : decode cX8_isTrue 223 = .ok (.ifCond .eq 7, 3) := by decide +kernel
theorem dX8_isTrue_226 : decode cX8_isTrue 226 = .ok (.iconst 1, 1) := by decide +kernel
theorem dX8_isTrue_227 : decode cX8_isTrue 227 = .ok (.goto 4, 3) := by decide +kernel
theorem dX8_isTrue_230 : decode cX8_isTrue 230 = .ok (.iconst 0, 1) := by decide +kernel
theorem dX8_isTrue_231 : decode cX8_isTrue 231 = .ok (.ireturn, 1) := by decide +kernel
theorem dX8_sum_0 : decode cX8_sum 0 = .ok (.iconst 0, 1) := by decide +kernel
theorem dX8_sum_1 : decode cX8_sum 1 = .ok (.istore_n 2, 1) := by decide +kernel
theorem dX8_sum_2 : decode cX8_sum 2 = .ok (.aload_n 0, 1) := by decide +kernel
theorem dX8_sum_3 : decode cX8_sum 3 = .ok (.getfield 19, 3) := by decide +kernel
theorem dX8_sum_6 : decode cX8_sum 6 = .ok (.istore_n 3, 1) := by decide +kernel
theorem dX8_sum_7 : decode cX8_sum 7 = .ok (.iload_n 3, 1) := by decide +kernel
theorem dX8_sum_8 : decode cX8_sum 8 = .ok (.aload_n 0, 1) := by decide +kernel
theorem dX8_sum_9 : decode cX8_sum 9 = .ok (.getfield 15, 3) := by decide +kernel
theorem dX8_sum_12 : decode cX8_sum 12 = .ok (.if_icmp .ge 70, 3) := by decide +kernel
theorem dX8_sum_15 : decode cX8_sum 15 = .ok (.aload_n 0, 1) := by decide +kernel
theorem dX8_sum_16 : decode cX8_sum 16 = .ok (.getfield 9, 3) := by decide +kernel
theorem dX8_sum_19 : decode cX8_sum 19 = .ok (.iload_n 3, 1) := by decide +kernel
theorem dX8_sum_20 : decode cX8_sum 20 = .ok (.iaload, 1) := by decide +kernel
theorem dX8_sum_21 : decode cX8_sum 21 = .ok (.bipush 8, 2) := by decide +kernel
theorem dX8_sum_23 : decode cX8_sum 23 = .ok (.ishr, 1) := by decide +kernel
theorem dX8_sum_24 : decode cX8_sum 24 = .ok (.istore 4, 2) := by decide +kernel
theorem dX8_sum_26 : decode cX8_sum 26 = .ok (.iload 4, 2) := by decide +kernel
theorem dX8_sum_28 : decode cX8_sum 28 = .ok (.iconst 2, 1) := by decide +kernel
theorem dX8_sum_29 : decode cX8_sum 29 = .ok (.if_icmp .ge 16, 3) := by decide +kernel
theorem dX8_sum_32 : decode cX8_sum 32 = .ok (.aload_n 0, 1) := by decide +kernel
theorem dX8_sum_33 : decode cX8_sum 33 = .ok (.getfield 9, 3) := by decide +kernel
theorem dX8_sum_36 : decode cX8_sum 36 = .ok (.iload_n 3, 1) := by decide +kernel
theorem dX8_sum_37 : decode cX8_sum 37 = .ok (.iaload, 1) := by decide +kernel
theorem dX8_sum_38 : decode cX8_sum 38 = .ok (.sipush 255, 3) := by decide +kernel
theorem dX8_sum_41 : decode cX8_sum 41 = .ok (.iand, 1) := by decide +kernel
theorem dX8_sum_42 : decode cX8_sum 42 = .ok (.goto 14, 3) := by decide +kernel
theorem dX8_sum_45 : decode cX8_sum 45 = .ok (.aload_n 1, 1) := by decide +kernel
theorem dX8_sum_46 : decode cX8_sum 46 = .ok (.aload_n 0, 1) := by decide +kernel
theorem dX8_sum_47 : decode cX8_sum 47 = .ok (.getfield 9, 3) := by decide +kernel
theorem dX8_sum_50 : decode cX8_sum 50 = .ok (.iload_n 3, 1) := by decide +kernel
theorem dX8_sum_51 : decode cX8_sum 51 = .ok (.iaload, 1) := by decide +kernel
theorem dX8_sum_52 : decode cX8_sum 52 = .ok (.bipush 7, 2) := by decide +kernel
theorem dX8_sum_54 : decode cX8_sum 54 = .ok (.iand, 1) := by decide +kernel
theorem dX8_sum_55 : decode cX8_sum 55 = .ok (.iaload, 1) := by decide +kernel
theorem dX8_sum_56 : decode cX8_sum 56 = .ok (.istore 5, 2) := by decide +kernel
theorem dX8_sum_58 : decode cX8_sum 58 = .ok (.iload_n 2, 1) := by decide +kernel
theorem dX8_sum_59 : decode cX8_sum 59 = .ok (.iload 4, 2) := by decide +kernel
theorem dX8_sum_61 : decode cX8_sum 61 = .ok (.iconst 1, 1) := by decide +kernel
theorem dX8_sum_62 : decode cX8_sum 62 = .ok (.iand, 1) := by decide +kernel
theorem dX8_sum_63 : decode cX8_sum 63 = .ok (.ifCond .ne 8, 3) := by decide +kernel
theorem dX8_sum_66 : decode cX8_sum 66 = .ok (.iload 5, 2) := by decide +kernel
theorem dX8_sum_68 : decode cX8_sum 68 = .ok (.goto 6, 3) := by decide +kernel
theorem dX8_sum_71 : decode cX8_sum 71 = .ok (.iload 5, 2) := by decide +kernel
theorem dX8_sum_73 : decode cX8_sum 73 = .ok (.ineg, 1) := by decide +kernel
theorem dX8_sum_74 : decode cX8_sum 74 = .ok (.iadd, 1) := by decide +kernel
theorem dX8_sum_75 : decode cX8_sum 75 = .ok (.istore_n 2, 1) := by decide +kernel
theorem dX8_sum_76 : decode cX8_sum 76 = .ok (.iinc 3 1, 3) := by decide +kernel
theorem dX8_sum_79 : decode cX8_sum 79 = .ok (.goto (-72), 3) := by decide +kernel
theorem dX8_sum_82 : decode cX8_sum 82 = .ok (.iload_n 2, 1) := by decide +kernel
theorem dX8_sum_83 : decode cX8_sum 83 = .ok (.ireturn, 1) := by decide +kernel
theorem dX9_init_0 : decode cX9_init 0 = .ok (.aload_n 0, 1) := by decide +kernel
theorem dX9_init_1 : decode cX9_init 1 = .ok (.invokespecial 3, 3) := by decide +kernel
theorem dX9_init_4 : decode cX9_init 4 = .ok (.aload_n 0, 1) := by decide +kernel
theorem dX9_init_5 : decode cX9_init 5 = .ok (.new 9, 3) := by decide +kernel
theorem dX9_init_8 : decode cX9_init 8 = .ok (.dup, 1) := by decide +kernel
theorem dX9_init_9 : decode cX9_init 9 = .ok (.invokespecial 11, 3) := by decide +kernel
theorem dX9_init_12 : decode cX9_init 12 = .ok (.putfield 12, 3) := by decide +kernel
theorem dX9_init_15 : decode cX9_init 15 = .ok (.aload_n 0, 1) := by decide +kernel
theorem dX9_init_16 : decode cX9_init 16 = .ok (.new 18, 3) := by decide +kernel
theorem dX9_init_19 : decode cX9_init 19 = .ok (.dup, 1) := by decide +kernel
theorem dX9_init_20 : decode cX9_init 20 = .ok (.invokespecial 20, 3) := by decide +kernel
theorem dX9_init_23 : decode cX9_init 23 = .ok (.putfield 21, 3) := by decide +kernel
theorem dX9_init_26 : decode cX9_init 26 = .ok (.aload_n 0, 1) := by decide +kernel
theorem dX9_init_27 : decode cX9_init 27 = .ok (.new 25, 3) := by decide +kernel
theorem dX9_init_30 : decode cX9_init 30 = .ok (.dup, 1) := by decide +kernel
theorem dX9_init_31 : decode cX9_init 31 = .ok (.invokespecial 27, 3) := by decide +kernel
theorem dX9_init_34 : decode cX9_init 34 = .ok (.putfield 28, 3) := by decide +kernel
theorem dX9_init_37 : decode cX9_init 37 = .ok (.aload_n 0, 1) := by decide +kernel
theorem dX9_init_38 : decode cX9_init 38 = .ok (.sipush 4096, 3) := by decide +kernel
theorem dX9_init_41 : decode cX9_init 41 = .ok (.newarray .int, 2) := by decide +kernel
theorem dX9_init_43 : decode cX9_init 43 = .ok (.putfield 32, 3) := by decide +kernel
theorem dX9_init_46 : decode cX9_init 46 = .ok (.aload_n 0, 1) := by decide +kernel
theorem dX9_init_47 : decode cX9_init 47 = .ok (.iconst 1, 1) := by decide +kernel
theorem dX9_init_48 : decode cX9_init 48 = .ok (.putfield 36, 3) := by decide +kernel
theorem dX9_init_51 : decode cX9_init 51 = .ok (.return_, 1) := by decide +kernel
theorem dX9_forget_0 : decode cX9_forget 0 = .ok (.aload_n 0, 1) := by decide +kernel
theorem dX9_forget_1 : decode cX9_forget 1 = .ok (.dup, 1) := by decide +kernel
theorem dX9_forget_2 : decode cX9_forget 2 = .ok (.getfield 36, 3) := by decide +kernel
theorem dX9_forget_5 : decode cX9_forget 5 = .ok (.iconst 1, 1) := by decide +kernel
theorem dX9_forget_6 : decode cX9_forget 6 = .ok (.iadd, 1) := by decide +kernel
theorem dX9_forget_7 : decode cX9_forget 7 = .ok (.putfield 36, 3) := by decide +kernel
theorem dX9_forget_10 : decode cX9_forget 10 = .ok (.return_, 1) := by decide +kernel
theorem dX9_of_0 : decode cX9_of 0 = .ok (.iload_n 1, 1) := by decide +kernel
theorem dX9_of_1 : decode cX9_of 1 = .ok (.sipush 4095, 3) := by decide +kernel
theorem dX9_of_4 : decode cX9_of 4 = .ok (.iand, 1) := by decide +kernel
theorem dX9_of_5 : decode cX9_of 5 = .ok (.istore_n 2, 1) := by decide +kernel
theorem dX9_of_6 : decode cX9_of 6 = .ok (.aload_n 0, 1) := by decide +kernel
theorem dX9_of_7 : decode cX9_of 7 = .ok (.getfield 32, 3) := by decide +kernel
theorem dX9_of_10 : decode cX9_of 10 = .ok (.iload_n 2, 1) := by decide +kernel
theorem dX9_of_11 : decode cX9_of 11 = .ok (.iaload, 1) := by decide +kernel
theorem dX9_of_12 : decode cX9_of 12 = .ok (.bipush 8, 2) := by decide +kernel
theorem dX9_of_14 : decode cX9_of 14 = .ok (.ishr, 1) := by decide +kernel
theorem dX9_of_15 : decode cX9_of 15 = .ok (.aload_n 0, 1) := by decide +kernel
theorem dX9_of_16 : decode cX9_of 16 = .ok (.getfield 36, 3) := by decide +kernel
theorem dX9_of_19 : decode cX9_of 19 = .ok (.if_icmp .eq 121, 3) := by decide +kernel
theorem dX9_of_22 : decode cX9_of 22 = .ok (.aload_n 0, 1) := by decide +kernel
theorem dX9_of_23 : decode cX9_of 23 = .ok (.getfield 12, 3) := by decide +kernel
theorem dX9_of_26 : decode cX9_of 26 = .ok (.iload_n 2, 1) := by decide +kernel
theorem dX9_of_27 : decode cX9_of 27 = .ok (.invokevirtual 40, 3) := by decide +kernel
theorem dX9_of_30 : decode cX9_of 30 = .ok (.sipush 4095, 3) := by decide +kernel
theorem dX9_of_33 : decode cX9_of 33 = .ok (.iand, 1) := by decide +kernel
theorem dX9_of_34 : decode cX9_of 34 = .ok (.istore_n 3, 1) := by decide +kernel
theorem dX9_of_35 : decode cX9_of 35 = .ok (.aload_n 0, 1) := by decide +kernel
theorem dX9_of_36 : decode cX9_of 36 = .ok (.getfield 32, 3) := by decide +kernel
theorem dX9_of_39 : decode cX9_of 39 = .ok (.iload_n 3, 1) := by decide +kernel
theorem dX9_of_40 : decode cX9_of 40 = .ok (.iaload, 1) := by decide +kernel
theorem dX9_of_41 : decode cX9_of 41 = .ok (.bipush 8, 2) := by decide +kernel
theorem dX9_of_43 : decode cX9_of 43 = .ok (.ishr, 1) := by decide +kernel
theorem dX9_of_44 : decode cX9_of 44 = .ok (.aload_n 0, 1) := by decide +kernel
theorem dX9_of_45 : decode cX9_of 45 = .ok (.getfield 36, 3) := by decide +kernel
theorem dX9_of_48 : decode cX9_of 48 = .ok (.if_icmp .eq 80, 3) := by decide +kernel
theorem dX9_of_51 : decode cX9_of 51 = .ok (.aload_n 0, 1) := by decide +kernel
theorem dX9_of_52 : decode cX9_of 52 = .ok (.getfield 12, 3) := by decide +kernel
theorem dX9_of_55 : decode cX9_of 55 = .ok (.iload_n 3, 1) := by decide +kernel
theorem dX9_of_56 : decode cX9_of 56 = .ok (.invokevirtual 44, 3) := by decide +kernel
theorem dX9_of_59 : decode cX9_of 59 = .ok (.lstore 4, 2) := by decide +kernel
theorem dX9_of_61 : decode cX9_of 61 = .ok (.aload_n 0, 1) := by decide +kernel
theorem dX9_of_62 : decode cX9_of 62 = .ok (.getfield 28, 3) := by decide +kernel
theorem dX9_of_65 : decode cX9_of 65 = .ok (.lload 4, 2) := by decide +kernel
theorem dX9_of_67 : decode cX9_of 67 = .ok (.iconst 0, 1) := by decide +kernel
theorem dX9_of_68 : decode cX9_of 68 = .ok (.aload_n 0, 1) := by decide +kernel
theorem dX9_of_69 : decode cX9_of 69 = .ok (.getfield 28, 3) := by decide +kernel
theorem dX9_of_72 : decode cX9_of 72 = .ok (.getfield 48, 3) := by decide +kernel
theorem dX9_of_75 : decode cX9_of 75 = .ok (.invokevirtual 51, 3) := by decide +kernel
theorem dX9_of_78 : decode cX9_of 78 = .ok (.lstore 6, 2) := by decide +kernel
theorem dX9_of_80 : decode cX9_of 80 = .ok (.aload_n 0, 1) := by decide +kernel
theorem dX9_of_81 : decode cX9_of 81 = .ok (.getfield 21, 3) := by decide +kernel
theorem dX9_of_84 : decode cX9_of 84 = .ok (.lload 6, 2) := by decide +kernel
theorem dX9_of_86 : decode cX9_of 86 = .ok (.invokevirtual 55, 3) := by decide +kernel
theorem dX9_of_89 : decode cX9_of 89 = .ok (.aload_n 0, 1) := by decide +kernel
theorem dX9_of_90 : decode cX9_of 90 = .ok (.getfield 28, 3) := by decide +kernel
theorem dX9_of_93 : decode cX9_of 93 = .ok (.lload 4, 2) := by decide +kernel
theorem dX9_of_95 : decode cX9_of 95 = .ok (.lload 6, 2) := by decide +kernel
theorem dX9_of_97 : decode cX9_of 97 = .ok (.invokevirtual 59, 3) := by decide +kernel
theorem dX9_of_100 : decode cX9_of 100 = .ok (.ifCond .eq 7, 3) := by decide +kernel
theorem dX9_of_103 : decode cX9_of 103 = .ok (.iconst 0, 1) := by decide +kernel
theorem dX9_of_104 : decode cX9_of 104 = .ok (.goto 5, 3) := by decide +kernel
theorem dX9_of_107 : decode cX9_of 107 = .ok (.bipush 64, 2) := by decide +kernel
theorem dX9_of_109 : decode cX9_of 109 = .ok (.ior, 1) := by decide +kernel
theorem dX9_of_110 : decode cX9_of 110 = .ok (.istore 8, 2) := by decide +kernel
theorem dX9_of_112 : decode cX9_of 112 = .ok (.aload_n 0, 1) := by decide +kernel
theorem dX9_of_113 : decode cX9_of 113 = .ok (.getfield 32, 3) := by decide +kernel
theorem dX9_of_116 : decode cX9_of 116 = .ok (.iload_n 3, 1) := by decide +kernel
theorem dX9_of_117 : decode cX9_of 117 = .ok (.aload_n 0, 1) := by decide +kernel
theorem dX9_of_118 : decode cX9_of 118 = .ok (.getfield 36, 3) := by decide +kernel
theorem dX9_of_121 : decode cX9_of 121 = .ok (.bipush 8, 2) := by decide +kernel
theorem dX9_of_123 : decode cX9_of 123 = .ok (.ishl, 1) := by decide +kernel
theorem dX9_of_124 : decode cX9_of 124 = .ok (.iload 8, 2) := by decide +kernel
theorem dX9_of_126 : decode cX9_of 126 = .ok (.ior, 1) := by decide +kernel
theorem dX9_of_127 : decode cX9_of 127 = .ok (.iastore, 1) := by decide +kernel
theorem dX9_of_128 : decode cX9_of 128 = .ok (.aload_n 0, 1) := by decide +kernel
theorem dX9_of_129 : decode cX9_of 129 = .ok (.getfield 32, 3) := by decide +kernel
theorem dX9_of_132 : decode cX9_of 132 = .ok (.iload_n 2, 1) := by decide +kernel
theorem dX9_of_133 : decode cX9_of 133 = .ok (.aload_n 0, 1) := by decide +kernel
theorem dX9_of_134 : decode cX9_of 134 = .ok (.getfield 32, 3) := by decide +kernel
theorem dX9_of_137 : decode cX9_of 137 = .ok (.iload_n 3, 1) := by decide +kernel
theorem dX9_of_138 : decode cX9_of 138 = .ok (.iaload, 1) := by decide +kernel
theorem dX9_of_139 : decode cX9_of 139 = .ok (.iastore, 1) := by decide +kernel
theorem dX9_of_140 : decode cX9_of 140 = .ok (.aload_n 0, 1) := by decide +kernel
theorem dX9_of_141 : decode cX9_of 141 = .ok (.getfield 32, 3) := by decide +kernel
theorem dX9_of_144 : decode cX9_of 144 = .ok (.iload_n 2, 1) := by decide +kernel
theorem dX9_of_145 : decode cX9_of 145 = .ok (.iaload, 1) := by decide +kernel
theorem dX9_of_146 : decode cX9_of 146 = .ok (.sipush 255, 3) := by decide +kernel
theorem dX9_of_149 : decode cX9_of 149 = .ok (.iand, 1) := by decide +kernel
theorem dX9_of_150 : decode cX9_of 150 = .ok (.ireturn, 1) := by decide +kernel
theorem dX9_ofEach_0 : decode cX9_ofEach 0 = .ok (.iconst 1, 1) := by decide +kernel
theorem dX9_ofEach_1 : decode cX9_ofEach 1 = .ok (.iload_n 2, 1) := by decide +kernel
theorem dX9_ofEach_2 : decode cX9_ofEach 2 = .ok (.invokestatic 63, 3) := by decide +kernel
theorem dX9_ofEach_5 : decode cX9_ofEach 5 = .ok (.ishl, 1) := by decide +kernel
theorem dX9_ofEach_6 : decode cX9_ofEach 6 = .ok (.istore_n 3, 1) := by decide +kernel
theorem dX9_ofEach_7 : decode cX9_ofEach 7 = .ok (.iconst 0, 1) := by decide +kernel
theorem dX9_ofEach_8 : decode cX9_ofEach 8 = .ok (.istore 4, 2) := by decide +kernel
theorem dX9_ofEach_10 : decode cX9_ofEach 10 = .ok (.iconst 0, 1) := by decide +kernel
theorem dX9_ofEach_11 : decode cX9_ofEach 11 = .ok (.istore 5, 2) := by decide +kernel
theorem dX9_ofEach_13 : decode cX9_ofEach 13 = .ok (.iconst 0, 1) := by decide +kernel
theorem dX9_ofEach_14 : decode cX9_ofEach 14 = .ok (.istore 6, 2) := by decide +kernel
theorem dX9_ofEach_16 : decode cX9_ofEach 16 = .ok (.iload 6, 2) := by decide +kernel
theorem dX9_ofEach_18 : decode cX9_ofEach 18 = .ok (.iload_n 3, 1) := by decide +kernel
theorem dX9_ofEach_19 : decode cX9_ofEach 19 = .ok (.if_icmp .ge 30, 3) := by decide +kernel
theorem dX9_ofEach_22 : decode cX9_ofEach 22 = .ok (.iload 4, 2) := by decide +kernel
theorem dX9_ofEach_24 : decode cX9_ofEach 24 = .ok (.aload_n 0, 1) := by decide +kernel
theorem dX9_ofEach_25 : decode cX9_ofEach 25 = .ok (.iload_n 1, 1) := by decide +kernel
theorem dX9_ofEach_26 : decode cX9_ofEach 26 = .ok (.iload 5, 2) := by decide +kernel
theorem dX9_ofEach_28 : decode cX9_ofEach 28 = .ok (.ior, 1) := by decide +kernel
theorem dX9_ofEach_29 : decode cX9_ofEach 29 = .ok (.invokevirtual 68, 3) := by decide +kernel
theorem dX9_ofEach_32 : decode cX9_ofEach 32 = .ok (.ior, 1) := by decide +kernel
theorem dX9_ofEach_33 : decode cX9_ofEach 33 = .ok (.istore 4, 2) := by decide +kernel
theorem dX9_ofEach_35 : decode cX9_ofEach 35 = .ok (.iload 5, 2) := by decide +kernel
theorem dX9_ofEach_37 : decode cX9_ofEach 37 = .ok (.iload_n 2, 1) := by decide +kernel
theorem dX9_ofEach_38 : decode cX9_ofEach 38 = .ok (.invokestatic 71, 3) := by decide +kernel
theorem dX9_ofEach_41 : decode cX9_ofEach 41 = .ok (.istore 5, 2) := by decide +kernel
theorem dX9_ofEach_43 : decode cX9_ofEach 43 = .ok (.iinc 6 1, 3) := by decide +kernel
theorem dX9_ofEach_46 : decode cX9_ofEach 46 = .ok (.goto (-30), 3) := by decide +kernel
theorem dX9_ofEach_49 : decode cX9_ofEach 49 = .ok (.iload 4, 2) := by decide +kernel
theorem dX9_ofEach_51 : decode cX9_ofEach 51 = .ok (.ireturn, 1) := by decide +kernel
theorem dX9_firstBroken_0 : decode cX9_firstBroken 0 = .ok (.aload_n 0, 1) := by decide +kernel
theorem dX9_firstBroken_1 : decode cX9_firstBroken 1 = .ok (.getfield 21, 3) := by decide +kernel
theorem dX9_firstBroken_4 : decode cX9_firstBroken 4 = .ok (.getfield 75, 3) := by decide +kernel
theorem dX9_firstBroken_7 : decode cX9_firstBroken 7 = .ok (.bipush 64, 2) := by decide +kernel
theorem dX9_firstBroken_9 : decode cX9_firstBroken 9 = .ok (.ior, 1) := by decide +kernel
theorem dX9_firstBroken_10 : decode cX9_firstBroken 10 = .ok (.istore_n 2, 1) := by decide +kernel
theorem dX9_firstBroken_11 : decode cX9_firstBroken 11 = .ok (.iconst 0, 1) := by decide +kernel
theorem dX9_firstBroken_12 : decode cX9_firstBroken 12 = .ok (.istore_n 3, 1) := by decide +kernel
theorem dX9_firstBroken_13 : decode cX9_firstBroken 13 = .ok (.iconst 0, 1) := by decide +kernel
theorem dX9_firstBroken_14 : decode cX9_firstBroken 14 = .ok (.istore 4, 2) := by decide +kernel
theorem dX9_firstBroken_16 : decode cX9_firstBroken 16 = .ok (.aload_n 0, 1) := by decide +kernel
theorem dX9_firstBroken_17 : decode cX9_firstBroken 17 = .ok (.iconst 0, 1) := by decide +kernel
theorem dX9_firstBroken_18 : decode cX9_firstBroken 18 = .ok (.invokevirtual 68, 3) := by decide +kernel
theorem dX9_firstBroken_21 : decode cX9_firstBroken 21 = .ok (.istore 5, 2) := by decide +kernel
theorem dX9_firstBroken_23 : decode cX9_firstBroken 23 = .ok (.iconst 0, 1) := by decide +kernel
theorem dX9_firstBroken_24 : decode cX9_firstBroken 24 = .ok (.istore 6, 2) := by decide +kernel
theorem dX9_firstBroken_26 : decode cX9_firstBroken 26 = .ok (.iload 6, 2) := by decide +kernel
theorem dX9_firstBroken_28 : decode cX9_firstBroken 28 = .ok (.aload_n 0, 1) := by decide +kernel
theorem dX9_firstBroken_29 : decode cX9_firstBroken 29 = .ok (.getfield 12, 3) := by decide +kernel
theorem dX9_firstBroken_32 : decode cX9_firstBroken 32 = .ok (.getfield 78, 3) := by decide +kernel
theorem dX9_firstBroken_35 : decode cX9_firstBroken 35 = .ok (.if_icmp .ge 137, 3) := by decide +kernel
theorem dX9_firstBroken_38 : decode cX9_firstBroken 38 = .ok (.iload 5, 2) := by decide +kernel
theorem dX9_firstBroken_40 : decode cX9_firstBroken 40 = .ok (.iload_n 2, 1) := by decide +kernel
theorem dX9_firstBroken_41 : decode cX9_firstBroken 41 = .ok (.iand, 1) := by decide +kernel
theorem dX9_firstBroken_42 : decode cX9_firstBroken 42 = .ok (.ifCond .ne 130, 3) := by decide +kernel
theorem dX9_firstBroken_45 : decode cX9_firstBroken 45 = .ok (.aload_n 0, 1) := by decide +kernel
theorem dX9_firstBroken_46 : decode cX9_firstBroken 46 = .ok (.getfield 12, 3) := by decide +kernel
theorem dX9_firstBroken_49 : decode cX9_firstBroken 49 = .ok (.getfield 79, 3) := by decide +kernel
theorem dX9_firstBroken_52 : decode cX9_firstBroken 52 = .ok (.iload 6, 2) := by decide +kernel
theorem dX9_firstBroken_54 : decode cX9_firstBroken 54 = .ok (.aaload, 1) := by decide +kernel
theorem dX9_firstBroken_55 : decode cX9_firstBroken 55 = .ok (.astore 7, 2) := by decide +kernel
theorem dX9_firstBroken_57 : decode cX9_firstBroken 57 = .ok (.iload_n 1, 1) := by decide +kernel
theorem dX9_firstBroken_58 : decode cX9_firstBroken 58 = .ok (.iconst 1, 1) := by decide +kernel
theorem dX9_firstBroken_59 : decode cX9_firstBroken 59 = .ok (.iload 6, 2) := by decide +kernel
theorem dX9_firstBroken_61 : decode cX9_firstBroken 61 = .ok (.ishl, 1) := by decide +kernel
theorem dX9_firstBroken_62 : decode cX9_firstBroken 62 = .ok (.iand, 1) := by decide +kernel
theorem dX9_firstBroken_63 : decode cX9_firstBroken 63 = .ok (.istore 8, 2) := by decide +kernel
theorem dX9_firstBroken_65 : decode cX9_firstBroken 65 = .ok (.iload 8, 2) := by decide +kernel
theorem dX9_firstBroken_67 : decode cX9_firstBroken 67 = .ok (.ifCond .eq 28, 3) := by decide +kernel
theorem dX9_firstBroken_70 : decode cX9_firstBroken 70 = .ok (.iload 5, 2) := by decide +kernel
theorem dX9_firstBroken_72 : decode cX9_firstBroken 72 = .ok (.aload_n 0, 1) := by decide +kernel
theorem dX9_firstBroken_73 : decode cX9_firstBroken 73 = .ok (.iload_n 3, 1) := by decide +kernel
theorem dX9_firstBroken_74 : decode cX9_firstBroken 74 = .ok (.iload 8, 2) := by decide +kernel
theorem dX9_firstBroken_76 : decode cX9_firstBroken 76 = .ok (.ior, 1) := by decide +kernel
theorem dX9_firstBroken_77 : decode cX9_firstBroken 77 = .ok (.iload 4, 2) := by decide +kernel
theorem dX9_firstBroken_79 : decode cX9_firstBroken 79 = .ok (.invokevirtual 83, 3) := by decide +kernel
theorem dX9_firstBroken_82 : decode cX9_firstBroken 82 = .ok (.ior, 1) := by decide +kernel
theorem dX9_firstBroken_83 : decode cX9_firstBroken 83 = .ok (.istore 5, 2) := by decide +kernel
theorem dX9_firstBroken_85 : decode cX9_firstBroken 85 = .ok (.iload 4, 2) := by decide +kernel
theorem dX9_firstBroken_87 : decode cX9_firstBroken 87 = .ok (.iload 8, 2) := by decide +kernel
theorem dX9_firstBroken_89 : decode cX9_firstBroken 89 = .ok (.ior, 1) := by decide +kernel
theorem dX9_firstBroken_90 : decode cX9_firstBroken 90 = .ok (.istore 4, 2) := by decide +kernel
theorem dX9_firstBroken_92 : decode cX9_firstBroken 92 = .ok (.goto 62, 3) := by decide +kernel
theorem dX9_firstBroken_95 : decode cX9_firstBroken 95 = .ok (.aload 7, 2) := by decide +kernel
theorem dX9_firstBroken_97 : decode cX9_firstBroken 97 = .ok (.invokevirtual 86, 3) := by decide +kernel
theorem dX9_firstBroken_100 : decode cX9_firstBroken 100 = .ok (.ifCond .eq 35, 3) := by decide +kernel
theorem dX9_firstBroken_103 : decode cX9_firstBroken 103 = .ok (.iload_n 3, 1) := by decide +kernel
theorem dX9_firstBroken_104 : decode cX9_firstBroken 104 = .ok (.iload 4, 2) := by decide +kernel
theorem dX9_firstBroken_106 : decode cX9_firstBroken 106 = .ok (.ior, 1) := by decide +kernel
theorem dX9_firstBroken_107 : decode cX9_firstBroken 107 = .ok (.istore_n 3, 1) := by decide +kernel
theorem dX9_firstBroken_108 : decode cX9_firstBroken 108 = .ok (.iconst 0, 1) := by decide +kernel
theorem dX9_firstBroken_109 : decode cX9_firstBroken 109 = .ok (.istore 4, 2) := by decide +kernel
theorem dX9_firstBroken_111 : decode cX9_firstBroken 111 = .ok (.aload 7, 2) := by decide +kernel
theorem dX9_firstBroken_113 : decode cX9_firstBroken 113 = .ok (.getfield 92, 3) := by decide +kernel
theorem dX9_firstBroken_116 : decode cX9_firstBroken 116 = .ok (.iconst 3, 1) := by decide +kernel
theorem dX9_firstBroken_117 : decode cX9_firstBroken 117 = .ok (.if_icmp .ne 11, 3) := by decide +kernel
theorem dX9_firstBroken_120 : decode cX9_firstBroken 120 = .ok (.aload_n 0, 1) := by decide +kernel
theorem dX9_firstBroken_121 : decode cX9_firstBroken 121 = .ok (.iload_n 3, 1) := by decide +kernel
theorem dX9_firstBroken_122 : decode cX9_firstBroken 122 = .ok (.invokevirtual 68, 3) := by decide +kernel
theorem dX9_firstBroken_125 : decode cX9_firstBroken 125 = .ok (.goto 5, 3) := by decide +kernel
theorem dX9_firstBroken_128 : decode cX9_firstBroken 128 = .ok (.iload 5, 2) := by decide +kernel
theorem dX9_firstBroken_130 : decode cX9_firstBroken 130 = .ok (.istore 5, 2) := by decide +kernel
theorem dX9_firstBroken_132 : decode cX9_firstBroken 132 = .ok (.goto 22, 3) := by decide +kernel
theorem dX9_firstBroken_135 : decode cX9_firstBroken 135 = .ok (.aload 7, 2) := by decide +kernel
theorem dX9_firstBroken_137 : decode cX9_firstBroken 137 = .ok (.getfield 92, 3) := by decide +kernel
theorem dX9_firstBroken_140 : decode cX9_firstBroken 140 = .ok (.iconst 4, 1) := by decide +kernel
theorem dX9_firstBroken_141 : decode cX9_firstBroken 141 = .ok (.if_icmp .ne 13, 3) := by decide +kernel
theorem dX9_firstBroken_144 : decode cX9_firstBroken 144 = .ok (.iload_n 2, 1) := by decide +kernel
theorem dX9_firstBroken_145 : decode cX9_firstBroken 145 = .ok (.iconst 1, 1) := by decide +kernel
theorem dX9_firstBroken_146 : decode cX9_firstBroken 146 = .ok (.aload 7, 2) := by decide +kernel
theorem dX9_firstBroken_148 : decode cX9_firstBroken 148 = .ok (.getfield 95, 3) := by decide +kernel
theorem dX9_firstBroken_151 : decode cX9_firstBroken 151 = .ok (.ishl, 1) := by decide +kernel
theorem dX9_firstBroken_152 : decode cX9_firstBroken 152 = .ok (.ior, 1) := by decide +kernel
theorem dX9_firstBroken_153 : decode cX9_firstBroken 153 = .ok (.istore_n 2, 1) := by decide +kernel
theorem dX9_firstBroken_154 : decode cX9_firstBroken 154 = .ok (.iload 5, 2) := by decide +kernel
theorem dX9_firstBroken_156 : decode cX9_firstBroken 156 = .ok (.iload_n 2, 1) := by decide +kernel
theorem dX9_firstBroken_157 : decode cX9_firstBroken 157 = .ok (.iand, 1) := by decide +kernel
theorem dX9_firstBroken_158 : decode cX9_firstBroken 158 = .ok (.ifCond .eq 8, 3) := by decide +kernel
theorem dX9_firstBroken_161 : decode cX9_firstBroken 161 = .ok (.iload 6, 2) := by decide +kernel
theorem dX9_firstBroken_163 : decode cX9_firstBroken 163 = .ok (.iconst 1, 1) := by decide +kernel
theorem dX9_firstBroken_164 : decode cX9_firstBroken 164 = .ok (.iadd, 1) := by decide +kernel
theorem dX9_firstBroken_165 : decode cX9_firstBroken 165 = .ok (.ireturn, 1) := by decide +kernel
theorem dX9_firstBroken_166 : decode cX9_firstBroken 166 = .ok (.iinc 6 1, 3) := by decide +kernel
theorem dX9_firstBroken_169 : decode cX9_firstBroken 169 = .ok (.goto (-143), 3) := by decide +kernel
theorem dX9_firstBroken_172 : decode cX9_firstBroken 172 = .ok (.iload 5, 2) := by decide +kernel
theorem dX9_firstBroken_174 : decode cX9_firstBroken 174 = .ok (.iload_n 2, 1) := by decide +kernel
theorem dX9_firstBroken_175 : decode cX9_firstBroken 175 = .ok (.iand, 1) := by decide +kernel
theorem dX9_firstBroken_176 : decode cX9_firstBroken 176 = .ok (.ifCond .eq 7, 3) := by decide +kernel
theorem dX9_firstBroken_179 : decode cX9_firstBroken 179 = .ok (.iconst 0, 1) := by decide +kernel
theorem dX9_firstBroken_180 : decode cX9_firstBroken 180 = .ok (.goto 4, 3) := by decide +kernel
theorem dX9_firstBroken_183 : decode cX9_firstBroken 183 = .ok (.iconst (-1), 1) := by decide +kernel
theorem dX9_firstBroken_184 : decode cX9_firstBroken 184 = .ok (.ireturn, 1) := by decide +kernel
end
section
theorem dX10_init_0 : decode cX10_init 0 = .ok (.aload_n 0, 1) := by decide +kernel
theorem dX10_init_1 : decode cX10_init 1 = .ok (.invokespecial 3, 3) := by decide +kernel
theorem dX10_init_4 : decode cX10_init 4 = .ok (.aload_n 0, 1) := by decide +kernel
theorem dX10_init_5 : decode cX10_init 5 = .ok (.new 9, 3) := by decide +kernel
theorem dX10_init_8 : decode cX10_init 8 = .ok (.dup, 1) := by decide +kernel
theorem dX10_init_9 : decode cX10_init 9 = .ok (.invokespecial 11, 3) := by decide +kernel
theorem dX10_init_12 : decode cX10_init 12 = .ok (.putfield 12, 3) := by decide +kernel
theorem dX10_init_15 : decode cX10_init 15 = .ok (.aload_n 0, 1) := by decide +kernel
theorem dX10_init_16 : decode cX10_init 16 = .ok (.aload_n 0, 1) := by decide +kernel
theorem dX10_init_17 : decode cX10_init 17 = .ok (.getfield 12, 3) := by decide +kernel
theorem dX10_init_20 : decode cX10_init 20 = .ok (.getfield 16, 3) := by decide +kernel
theorem dX10_init_23 : decode cX10_init 23 = .ok (.putfield 20, 3) := by decide +kernel
theorem dX10_init_26 : decode cX10_init 26 = .ok (.aload_n 0, 1) := by decide +kernel
theorem dX10_init_27 : decode cX10_init 27 = .ok (.aload_n 0, 1) := by decide +kernel
theorem dX10_init_28 : decode cX10_init 28 = .ok (.getfield 12, 3) := by decide +kernel
theorem dX10_init_31 : decode cX10_init 31 = .ok (.getfield 21, 3) := by decide +kernel
theorem dX10_init_34 : decode cX10_init 34 = .ok (.putfield 25, 3) := by decide +kernel
theorem dX10_init_37 : decode cX10_init 37 = .ok (.aload_n 0, 1) := by decide +kernel
theorem dX10_init_38 : decode cX10_init 38 = .ok (.aload_n 0, 1) := by decide +kernel
theorem dX10_init_39 : decode cX10_init 39 = .ok (.getfield 12, 3) := by decide +kernel
theorem dX10_init_42 : decode cX10_init 42 = .ok (.getfield 26, 3) := by decide +kernel
theorem dX10_init_45 : decode cX10_init 45 = .ok (.putfield 30, 3) := by decide +kernel
theorem dX10_init_48 : decode cX10_init 48 = .ok (.aload_n 0, 1) := by decide +kernel
theorem dX10_init_49 : decode cX10_init 49 = .ok (.new 31, 3) := by decide +kernel
theorem dX10_init_52 : decode cX10_init 52 = .ok (.dup, 1) := by decide +kernel
theorem dX10_init_53 : decode cX10_init 53 = .ok (.invokespecial 33, 3) := by decide +kernel
theorem dX10_init_56 : decode cX10_init 56 = .ok (.putfield 34, 3) := by decide +kernel
theorem dX10_init_59 : decode cX10_init 59 = .ok (.aload_n 0, 1) := by decide +kernel
theorem dX10_init_60 : decode cX10_init 60 = .ok (.new 38, 3) := by decide +kernel
theorem dX10_init_63 : decode cX10_init 63 = .ok (.dup, 1) := by decide +kernel
theorem dX10_init_64 : decode cX10_init 64 = .ok (.invokespecial 40, 3) := by decide +kernel
theorem dX10_init_67 : decode cX10_init 67 = .ok (.putfield 41, 3) := by decide +kernel
theorem dX10_init_70 : decode cX10_init 70 = .ok (.aload_n 0, 1) := by decide +kernel
theorem dX10_init_71 : decode cX10_init 71 = .ok (.new 45, 3) := by decide +kernel
theorem dX10_init_74 : decode cX10_init 74 = .ok (.dup, 1) := by decide +kernel
theorem dX10_init_75 : decode cX10_init 75 = .ok (.invokespecial 47, 3) := by decide +kernel
theorem dX10_init_78 : decode cX10_init 78 = .ok (.putfield 48, 3) := by decide +kernel
theorem dX10_init_81 : decode cX10_init 81 = .ok (.aload_n 0, 1) := by decide +kernel
theorem dX10_init_82 : decode cX10_init 82 = .ok (.new 52, 3) := by decide +kernel
theorem dX10_init_85 : decode cX10_init 85 = .ok (.dup, 1) := by decide +kernel
theorem dX10_init_86 : decode cX10_init 86 = .ok (.invokespecial 54, 3) := by decide +kernel
theorem dX10_init_89 : decode cX10_init 89 = .ok (.putfield 55, 3) := by decide +kernel
theorem dX10_init_92 : decode cX10_init 92 = .ok (.aload_n 0, 1) := by decide +kernel
theorem dX10_init_93 : decode cX10_init 93 = .ok (.iconst 1, 1) := by decide +kernel
theorem dX10_init_94 : decode cX10_init 94 = .ok (.putfield 59, 3) := by decide +kernel
theorem dX10_init_97 : decode cX10_init 97 = .ok (.aload_n 0, 1) := by decide +kernel
theorem dX10_init_98 : decode cX10_init 98 = .ok (.iconst 5, 1) := by decide +kernel
theorem dX10_init_99 : decode cX10_init 99 = .ok (.putfield 63, 3) := by decide +kernel
theorem dX10_init_102 : decode cX10_init 102 = .ok (.aload_n 0, 1) := by decide +kernel
theorem dX10_init_103 : decode cX10_init 103 = .ok (.iconst 0, 1) := by decide +kernel
theorem dX10_init_104 : decode cX10_init 104 = .ok (.putfield 66, 3) := by decide +kernel
theorem dX10_init_107 : decode cX10_init 107 = .ok (.return_, 1) := by decide +kernel
theorem dX10_sector_0 : decode cX10_sector 0 = .ok (.iload_n 1, 1) := by decide +kernel
theorem dX10_sector_1 : decode cX10_sector 1 = .ok (.invokestatic 69, 3) := by decide +kernel
theorem dX10_sector_4 : decode cX10_sector 4 = .ok (.ifCond .ne 6, 3) := by decide +kernel
theorem dX10_sector_7 : decode cX10_sector 7 = .ok (.bipush (-101), 2) := by decide +kernel
theorem dX10_sector_9 : decode cX10_sector 9 = .ok (.ireturn, 1) := by decide +kernel
theorem dX10_sector_10 : decode cX10_sector 10 = .ok (.iload_n 2, 1) := by decide +kernel
theorem dX10_sector_11 : decode cX10_sector 11 = .ok (.invokestatic 73, 3) := by decide +kernel
theorem dX10_sector_14 : decode cX10_sector 14 = .ok (.ifCond .ne 6, 3) := by decide +kernel
theorem dX10_sector_17 : decode cX10_sector 17 = .ok (.bipush (-102), 2) := by decide +kernel
theorem dX10_sector_19 : decode cX10_sector 19 = .ok (.ireturn, 1) := by decide +kernel
theorem dX10_sector_20 : decode cX10_sector 20 = .ok (.aload_n 0, 1) := by decide +kernel
theorem dX10_sector_21 : decode cX10_sector 21 = .ok (.getfield 20, 3) := by decide +kernel
theorem dX10_sector_24 : decode cX10_sector 24 = .ok (.getfield 76, 3) := by decide +kernel
theorem dX10_sector_27 : decode cX10_sector 27 = .ok (.iload_n 1, 1) := by decide +kernel
theorem dX10_sector_28 : decode cX10_sector 28 = .ok (.invokestatic 82, 3) := by decide +kernel
theorem dX10_sector_31 : decode cX10_sector 31 = .ok (.istore_n 3, 1) := by decide +kernel
theorem dX10_sector_32 : decode cX10_sector 32 = .ok (.aload_n 0, 1) := by decide +kernel
theorem dX10_sector_33 : decode cX10_sector 33 = .ok (.getfield 20, 3) := by decide +kernel
theorem dX10_sector_36 : decode cX10_sector 36 = .ok (.aload_n 0, 1) := by decide +kernel
theorem dX10_sector_37 : decode cX10_sector 37 = .ok (.getfield 20, 3) := by decide +kernel
theorem dX10_sector_40 : decode cX10_sector 40 = .ok (.getfield 76, 3) := by decide +kernel
theorem dX10_sector_43 : decode cX10_sector 43 = .ok (.iload_n 1, 1) := by decide +kernel
theorem dX10_sector_44 : decode cX10_sector 44 = .ok (.iload_n 2, 1) := by decide +kernel
theorem dX10_sector_45 : decode cX10_sector 45 = .ok (.invokestatic 86, 3) := by decide +kernel
theorem dX10_sector_48 : decode cX10_sector 48 = .ok (.putfield 76, 3) := by decide +kernel
theorem dX10_sector_51 : decode cX10_sector 51 = .ok (.aload_n 0, 1) := by decide +kernel
theorem dX10_sector_52 : decode cX10_sector 52 = .ok (.invokevirtual 90, 3) := by decide +kernel
theorem dX10_sector_55 : decode cX10_sector 55 = .ok (.iload_n 3, 1) := by decide +kernel
theorem dX10_sector_56 : decode cX10_sector 56 = .ok (.ireturn, 1) := by decide +kernel
theorem dX10_write_0 : decode cX10_write 0 = .ok (.iload_n 1, 1) := by decide +kernel
theorem dX10_write_1 : decode cX10_write 1 = .ok (.invokestatic 69, 3) := by decide +kernel
theorem dX10_write_4 : decode cX10_write 4 = .ok (.ifCond .ne 6, 3) := by decide +kernel
theorem dX10_write_7 : decode cX10_write 7 = .ok (.bipush (-101), 2) := by decide +kernel
theorem dX10_write_9 : decode cX10_write 9 = .ok (.ireturn, 1) := by decide +kernel
theorem dX10_write_10 : decode cX10_write 10 = .ok (.iload_n 2, 1) := by decide +kernel
theorem dX10_write_11 : decode cX10_write 11 = .ok (.invokestatic 73, 3) := by decide +kernel
theorem dX10_write_14 : decode cX10_write 14 = .ok (.ifCond .ne 6, 3) := by decide +kernel
theorem dX10_write_17 : decode cX10_write 17 = .ok (.bipush (-102), 2) := by decide +kernel
theorem dX10_write_19 : decode cX10_write 19 = .ok (.ireturn, 1) := by decide +kernel
theorem dX10_write_20 : decode cX10_write 20 = .ok (.aload_n 0, 1) := by decide +kernel
theorem dX10_write_21 : decode cX10_write 21 = .ok (.iconst 0, 1) := by decide +kernel
theorem dX10_write_22 : decode cX10_write 22 = .ok (.iload_n 1, 1) := by decide +kernel
theorem dX10_write_23 : decode cX10_write 23 = .ok (.iload_n 2, 1) := by decide +kernel
theorem dX10_write_24 : decode cX10_write 24 = .ok (.iconst (-1), 1) := by decide +kernel
theorem dX10_write_25 : decode cX10_write 25 = .ok (.iconst (-1), 1) := by decide +kernel
theorem dX10_write_26 : decode cX10_write 26 = .ok (.invokevirtual 93, 3) := by decide +kernel
theorem dX10_write_29 : decode cX10_write 29 = .ok (.ireturn, 1) := by decide +kernel
theorem dX10_whole_0 : decode cX10_whole 0 = .ok (.iload_n 1, 1) := by decide +kernel
theorem dX10_whole_1 : decode cX10_whole 1 = .ok (.invokestatic 69, 3) := by decide +kernel
theorem dX10_whole_4 : decode cX10_whole 4 = .ok (.ifCond .eq 15, 3) := by decide +kernel
theorem dX10_whole_7 : decode cX10_whole 7 = .ok (.iload_n 3, 1) := by decide +kernel
theorem dX10_whole_8 : decode cX10_whole 8 = .ok (.invokestatic 69, 3) := by decide +kernel
theorem dX10_whole_11 : decode cX10_whole 11 = .ok (.ifCond .eq 8, 3) := by decide +kernel
theorem dX10_whole_14 : decode cX10_whole 14 = .ok (.iload_n 1, 1) := by decide +kernel
theorem dX10_whole_15 : decode cX10_whole 15 = .ok (.iload_n 3, 1) := by decide +kernel
theorem dX10_whole_16 : decode cX10_whole 16 = .ok (.if_icmp .ne 6, 3) := by decide +kernel
theorem dX10_whole_19 : decode cX10_whole 19 = .ok (.bipush (-101), 2) := by decide +kernel
theorem dX10_whole_21 : decode cX10_whole 21 = .ok (.ireturn, 1) := by decide +kernel
theorem dX10_whole_22 : decode cX10_whole 22 = .ok (.iload_n 2, 1) := by decide +kernel
theorem dX10_whole_23 : decode cX10_whole 23 = .ok (.invokestatic 73, 3) := by decide +kernel
theorem dX10_whole_26 : decode cX10_whole 26 = .ok (.ifCond .eq 11, 3) := by decide +kernel
theorem dX10_whole_29 : decode cX10_whole 29 = .ok (.iload 4, 2) := by decide +kernel
theorem dX10_whole_31 : decode cX10_whole 31 = .ok (.invokestatic 73, 3) := by decide +kernel
theorem dX10_whole_34 : decode cX10_whole 34 = .ok (.ifCond .ne 6, 3) := by decide +kernel
theorem dX10_whole_37 : decode cX10_whole 37 = .ok (.bipush (-102), 2) := by decide +kernel
theorem dX10_whole_39 : decode cX10_whole 39 = .ok (.ireturn, 1) := by decide +kernel
theorem dX10_whole_40 : decode cX10_whole 40 = .ok (.aload_n 0, 1) := by decide +kernel
theorem dX10_whole_41 : decode cX10_whole 41 = .ok (.iconst 1, 1) := by decide +kernel
theorem dX10_whole_42 : decode cX10_whole 42 = .ok (.iload_n 1, 1) := by decide +kernel
theorem dX10_whole_43 : decode cX10_whole 43 = .ok (.iload_n 2, 1) := by decide +kernel
theorem dX10_whole_44 : decode cX10_whole 44 = .ok (.iload_n 3, 1) := by decide +kernel
theorem dX10_whole_45 : decode cX10_whole 45 = .ok (.iload 4, 2) := by decide +kernel
theorem dX10_whole_47 : decode cX10_whole 47 = .ok (.invokevirtual 93, 3) := by decide +kernel
theorem dX10_whole_50 : decode cX10_whole 50 = .ok (.ireturn, 1) := by decide +kernel
theorem dX10_barrier_0 : decode cX10_barrier 0 = .ok (.aload_n 0, 1) := by decide +kernel
theorem dX10_barrier_1 : decode cX10_barrier 1 = .ok (.iconst 2, 1) := by decide +kernel
theorem dX10_barrier_2 : decode cX10_barrier 2 = .ok (.iconst (-1), 1) := by decide +kernel
theorem dX10_barrier_3 : decode cX10_barrier 3 = .ok (.iconst (-1), 1) := by decide +kernel
theorem dX10_barrier_4 : decode cX10_barrier 4 = .ok (.iconst (-1), 1) := by decide +kernel
theorem dX10_barrier_5 : decode cX10_barrier 5 = .ok (.iconst (-1), 1) := by decide +kernel
theorem dX10_barrier_6 : decode cX10_barrier 6 = .ok (.invokevirtual 93, 3) := by decide +kernel
theorem dX10_barrier_9 : decode cX10_barrier 9 = .ok (.ireturn, 1) := by decide +kernel
theorem dX10_flush_0 : decode cX10_flush 0 = .ok (.aload_n 0, 1) := by decide +kernel
theorem dX10_flush_1 : decode cX10_flush 1 = .ok (.iconst 3, 1) := by decide +kernel
theorem dX10_flush_2 : decode cX10_flush 2 = .ok (.iconst (-1), 1) := by decide +kernel
theorem dX10_flush_3 : decode cX10_flush 3 = .ok (.iconst (-1), 1) := by decide +kernel
theorem dX10_flush_4 : decode cX10_flush 4 = .ok (.iconst (-1), 1) := by decide +kernel
theorem dX10_flush_5 : decode cX10_flush 5 = .ok (.iconst (-1), 1) := by decide +kernel
theorem dX10_flush_6 : decode cX10_flush 6 = .ok (.invokevirtual 93, 3) := by decide +kernel
theorem dX10_flush_9 : decode cX10_flush 9 = .ok (.ireturn, 1) := by decide +kernel
theorem dX10_tell_0 : decode cX10_tell 0 = .ok (.aload_n 0, 1) := by decide +kernel
theorem dX10_tell_1 : decode cX10_tell 1 = .ok (.getfield 25, 3) := by decide +kernel
theorem dX10_tell_4 : decode cX10_tell 4 = .ok (.iload_n 1, 1) := by decide +kernel
theorem dX10_tell_5 : decode cX10_tell 5 = .ok (.invokevirtual 97, 3) := by decide +kernel
theorem dX10_tell_8 : decode cX10_tell 8 = .ok (.ifCond .ne 6, 3) := by decide +kernel
theorem dX10_tell_11 : decode cX10_tell 11 = .ok (.bipush (-101), 2) := by decide +kernel
theorem dX10_tell_13 : decode cX10_tell 13 = .ok (.ireturn, 1) := by decide +kernel
theorem dX10_tell_14 : decode cX10_tell 14 = .ok (.aload_n 0, 1) := by decide +kernel
theorem dX10_tell_15 : decode cX10_tell 15 = .ok (.iconst 4, 1) := by decide +kernel
theorem dX10_tell_16 : decode cX10_tell 16 = .ok (.iload_n 1, 1) := by decide +kernel
theorem dX10_tell_17 : decode cX10_tell 17 = .ok (.iconst (-1), 1) := by decide +kernel
theorem dX10_tell_18 : decode cX10_tell 18 = .ok (.iconst (-1), 1) := by decide +kernel
theorem dX10_tell_19 : decode cX10_tell 19 = .ok (.iconst (-1), 1) := by decide +kernel
theorem dX10_tell_20 : decode cX10_tell 20 = .ok (.invokevirtual 93, 3) := by decide +kernel
theorem dX10_tell_23 : decode cX10_tell 23 = .ok (.ireturn, 1) := by decide +kernel
theorem dX10_undo_0 : decode cX10_undo 0 = .ok (.aload_n 0, 1) := by decide +kernel
theorem dX10_undo_1 : decode cX10_undo 1 = .ok (.getfield 20, 3) := by decide +kernel
theorem dX10_undo_4 : decode cX10_undo 4 = .ok (.getfield 102, 3) := by decide +kernel
theorem dX10_undo_7 : decode cX10_undo 7 = .ok (.ifCond .gt 6, 3) := by decide +kernel
theorem dX10_undo_10 : decode cX10_undo 10 = .ok (.bipush (-103), 2) := by decide +kernel
theorem dX10_undo_12 : decode cX10_undo 12 = .ok (.ireturn, 1) := by decide +kernel
theorem dX10_undo_13 : decode cX10_undo 13 = .ok (.aload_n 0, 1) := by decide +kernel
theorem dX10_undo_14 : decode cX10_undo 14 = .ok (.getfield 20, 3) := by decide +kernel
theorem dX10_undo_17 : decode cX10_undo 17 = .ok (.dup, 1) := by decide +kernel
theorem dX10_undo_18 : decode cX10_undo 18 = .ok (.getfield 102, 3) := by decide +kernel
theorem dX10_undo_21 : decode cX10_undo 21 = .ok (.iconst 1, 1) := by decide +kernel
theorem dX10_undo_22 : decode cX10_undo 22 = .ok (.isub, 1) := by decide +kernel
theorem dX10_undo_23 : decode cX10_undo 23 = .ok (.putfield 102, 3) := by decide +kernel
theorem dX10_undo_26 : decode cX10_undo 26 = .ok (.aload_n 0, 1) := by decide +kernel
theorem dX10_undo_27 : decode cX10_undo 27 = .ok (.invokevirtual 90, 3) := by decide +kernel
theorem dX10_undo_30 : decode cX10_undo 30 = .ok (.aload_n 0, 1) := by decide +kernel
theorem dX10_undo_31 : decode cX10_undo 31 = .ok (.getfield 20, 3) := by decide +kernel
theorem dX10_undo_34 : decode cX10_undo 34 = .ok (.getfield 102, 3) := by decide +kernel
theorem dX10_undo_37 : decode cX10_undo 37 = .ok (.ireturn, 1) := by decide +kernel
theorem dX10_swap_0 : decode cX10_swap 0 = .ok (.aload_n 0, 1) := by decide +kernel
theorem dX10_swap_1 : decode cX10_swap 1 = .ok (.getfield 20, 3) := by decide +kernel
theorem dX10_swap_4 : decode cX10_swap 4 = .ok (.iload_n 1, 1) := by decide +kernel
theorem dX10_swap_5 : decode cX10_swap 5 = .ok (.invokevirtual 105, 3) := by decide +kernel
theorem dX10_swap_8 : decode cX10_swap 8 = .ok (.ifCond .eq 14, 3) := by decide +kernel
theorem dX10_swap_11 : decode cX10_swap 11 = .ok (.aload_n 0, 1) := by decide +kernel
theorem dX10_swap_12 : decode cX10_swap 12 = .ok (.getfield 20, 3) := by decide +kernel
theorem dX10_swap_15 : decode cX10_swap 15 = .ok (.iload_n 2, 1) := by decide +kernel
theorem dX10_swap_16 : decode cX10_swap 16 = .ok (.invokevirtual 105, 3) := by decide +kernel
theorem dX10_swap_19 : decode cX10_swap 19 = .ok (.ifCond .ne 6, 3) := by decide +kernel
theorem dX10_swap_22 : decode cX10_swap 22 = .ok (.bipush (-101), 2) := by decide +kernel
theorem dX10_swap_24 : decode cX10_swap 24 = .ok (.ireturn, 1) := by decide +kernel
theorem dX10_swap_25 : decode cX10_swap 25 = .ok (.aload_n 0, 1) := by decide +kernel
theorem dX10_swap_26 : decode cX10_swap 26 = .ok (.getfield 20, 3) := by decide +kernel
theorem dX10_swap_29 : decode cX10_swap 29 = .ok (.iload_n 1, 1) := by decide +kernel
theorem dX10_swap_30 : decode cX10_swap 30 = .ok (.iload_n 2, 1) := by decide +kernel
theorem dX10_swap_31 : decode cX10_swap 31 = .ok (.invokevirtual 106, 3) := by decide +kernel
theorem dX10_swap_34 : decode cX10_swap 34 = .ok (.aload_n 0, 1) := by decide +kernel
theorem dX10_swap_35 : decode cX10_swap 35 = .ok (.invokevirtual 90, 3) := by decide +kernel
theorem dX10_swap_38 : decode cX10_swap 38 = .ok (.iconst 1, 1) := by decide +kernel
theorem dX10_swap_39 : decode cX10_swap 39 = .ok (.ireturn, 1) := by decide +kernel
theorem dX10_act_0 : decode cX10_act 0 = .ok (.aload_n 0, 1) := by decide +kernel
theorem dX10_act_1 : decode cX10_act 1 = .ok (.getfield 20, 3) := by decide +kernel
theorem dX10_act_4 : decode cX10_act 4 = .ok (.iload_n 1, 1) := by decide +kernel
theorem dX10_act_5 : decode cX10_act 5 = .ok (.invokevirtual 105, 3) := by decide +kernel
theorem dX10_act_8 : decode cX10_act 8 = .ok (.ifCond .ne 6, 3) := by decide +kernel
theorem dX10_act_11 : decode cX10_act 11 = .ok (.bipush (-101), 2) := by decide +kernel
theorem dX10_act_13 : decode cX10_act 13 = .ok (.ireturn, 1) := by decide +kernel
theorem dX10_act_14 : decode cX10_act 14 = .ok (.iload_n 2, 1) := by decide +kernel
theorem dX10_act_15 : decode cX10_act 15 = .ok (.ifCond .lt 8, 3) := by decide +kernel
theorem dX10_act_18 : decode cX10_act 18 = .ok (.iload_n 2, 1) := by decide +kernel
theorem dX10_act_19 : decode cX10_act 19 = .ok (.iconst 4, 1) := by decide +kernel
theorem dX10_act_20 : decode cX10_act 20 = .ok (.if_icmp .le 6, 3) := by decide +kernel
theorem dX10_act_23 : decode cX10_act 23 = .ok (.bipush (-102), 2) := by decide +kernel
theorem dX10_act_25 : decode cX10_act 25 = .ok (.ireturn, 1) := by decide +kernel
theorem dX10_act_26 : decode cX10_act 26 = .ok (.aload_n 0, 1) := by decide +kernel
theorem dX10_act_27 : decode cX10_act 27 = .ok (.getfield 20, 3) := by decide +kernel
theorem dX10_act_30 : decode cX10_act 30 = .ok (.getfield 110, 3) := by decide +kernel
theorem dX10_act_33 : decode cX10_act 33 = .ok (.iload_n 1, 1) := by decide +kernel
theorem dX10_act_34 : decode cX10_act 34 = .ok (.aaload, 1) := by decide +kernel
theorem dX10_act_35 : decode cX10_act 35 = .ok (.iload_n 2, 1) := by decide +kernel
theorem dX10_act_36 : decode cX10_act 36 = .ok (.invokevirtual 114, 3) := by decide +kernel
theorem dX10_act_39 : decode cX10_act 39 = .ok (.ireturn, 1) := by decide +kernel
theorem dX10_end_0 : decode cX10_end 0 = .ok (.aload_n 0, 1) := by decide +kernel
theorem dX10_end_1 : decode cX10_end 1 = .ok (.getfield 20, 3) := by decide +kernel
theorem dX10_end_4 : decode cX10_end 4 = .ok (.aload_n 0, 1) := by decide +kernel
theorem dX10_end_5 : decode cX10_end 5 = .ok (.getfield 20, 3) := by decide +kernel
theorem dX10_end_8 : decode cX10_end 8 = .ok (.invokevirtual 120, 3) := by decide +kernel
theorem dX10_end_11 : decode cX10_end 11 = .ok (.invokevirtual 124, 3) := by decide +kernel
theorem dX10_end_14 : decode cX10_end 14 = .ok (.invokestatic 128, 3) := by decide +kernel
theorem dX10_end_17 : decode cX10_end 17 = .ok (.lreturn, 1) := by decide +kernel
theorem dX10_addAct_0 : decode cX10_addAct 0 = .ok (.aload_n 0, 1) := by decide +kernel
theorem dX10_addAct_1 : decode cX10_addAct 1 = .ok (.getfield 20, 3) := by decide +kernel
theorem dX10_addAct_4 : decode cX10_addAct 4 = .ok (.getfield 102, 3) := by decide +kernel
theorem dX10_addAct_7 : decode cX10_addAct 7 = .ok (.bipush 12, 2) := by decide +kernel
theorem dX10_addAct_9 : decode cX10_addAct 9 = .ok (.if_icmp .lt 6, 3) := by decide +kernel
theorem dX10_addAct_12 : decode cX10_addAct 12 = .ok (.bipush (-104), 2) := by decide +kernel
theorem dX10_addAct_14 : decode cX10_addAct 14 = .ok (.ireturn, 1) := by decide +kernel
theorem dX10_addAct_15 : decode cX10_addAct 15 = .ok (.aload_n 0, 1) := by decide +kernel
theorem dX10_addAct_16 : decode cX10_addAct 16 = .ok (.getfield 20, 3) := by decide +kernel
theorem dX10_addAct_19 : decode cX10_addAct 19 = .ok (.getfield 110, 3) := by decide +kernel
theorem dX10_addAct_22 : decode cX10_addAct 22 = .ok (.aload_n 0, 1) := by decide +kernel
theorem dX10_addAct_23 : decode cX10_addAct 23 = .ok (.getfield 20, 3) := by decide +kernel
theorem dX10_addAct_26 : decode cX10_addAct 26 = .ok (.getfield 102, 3) := by decide +kernel
theorem dX10_addAct_29 : decode cX10_addAct 29 = .ok (.aaload, 1) := by decide +kernel
theorem dX10_addAct_30 : decode cX10_addAct 30 = .ok (.iload_n 1, 1) := by decide +kernel
theorem dX10_addAct_31 : decode cX10_addAct 31 = .ok (.iload_n 2, 1) := by decide +kernel
theorem dX10_addAct_32 : decode cX10_addAct 32 = .ok (.iload_n 3, 1) := by decide +kernel
theorem dX10_addAct_33 : decode cX10_addAct 33 = .ok (.iload 4, 2) := by decide +kernel
theorem dX10_addAct_35 : decode cX10_addAct 35 = .ok (.iload 5, 2) := by decide +kernel
theorem dX10_addAct_37 : decode cX10_addAct 37 = .ok (.invokevirtual 132, 3) := by decide +kernel
theorem dX10_addAct_40 : decode cX10_addAct 40 = .ok (.aload_n 0, 1) := by decide +kernel
theorem dX10_addAct_41 : decode cX10_addAct 41 = .ok (.getfield 20, 3) := by decide +kernel
theorem dX10_addAct_44 : decode cX10_addAct 44 = .ok (.dup, 1) := by decide +kernel
theorem dX10_addAct_45 : decode cX10_addAct 45 = .ok (.getfield 102, 3) := by decide +kernel
theorem dX10_addAct_48 : decode cX10_addAct 48 = .ok (.iconst 1, 1) := by decide +kernel
theorem dX10_addAct_49 : decode cX10_addAct 49 = .ok (.iadd, 1) := by decide +kernel
theorem dX10_addAct_50 : decode cX10_addAct 50 = .ok (.putfield 102, 3) := by decide +kernel
theorem dX10_addAct_53 : decode cX10_addAct 53 = .ok (.aload_n 0, 1) := by decide +kernel
theorem dX10_addAct_54 : decode cX10_addAct 54 = .ok (.invokevirtual 90, 3) := by decide +kernel
theorem dX10_addAct_57 : decode cX10_addAct 57 = .ok (.aload_n 0, 1) := by decide +kernel
theorem dX10_addAct_58 : decode cX10_addAct 58 = .ok (.getfield 20, 3) := by decide +kernel
theorem dX10_addAct_61 : decode cX10_addAct 61 = .ok (.getfield 102, 3) := by decide +kernel
theorem dX10_addAct_64 : decode cX10_addAct 64 = .ok (.iconst 1, 1) := by decide +kernel
theorem dX10_addAct_65 : decode cX10_addAct 65 = .ok (.isub, 1) := by decide +kernel
theorem dX10_addAct_66 : decode cX10_addAct 66 = .ok (.ireturn, 1) := by decide +kernel
theorem dX10_letters_0 : decode cX10_letters 0 = .ok (.lload_n 1, 1) := by decide +kernel
theorem dX10_letters_1 : decode cX10_letters 1 = .ok (.invokestatic 136, 3) := by decide +kernel
theorem dX10_letters_4 : decode cX10_letters 4 = .ok (.istore_n 3, 1) := by decide +kernel
theorem dX10_letters_5 : decode cX10_letters 5 = .ok (.iload_n 3, 1) := by decide +kernel
theorem dX10_letters_6 : decode cX10_letters 6 = .ok (.ifCond .ge 6, 3) := by decide +kernel
theorem dX10_letters_9 : decode cX10_letters 9 = .ok (.bipush (-102), 2) := by decide +kernel
theorem dX10_letters_11 : decode cX10_letters 11 = .ok (.ireturn, 1) := by decide +kernel
theorem dX10_letters_12 : decode cX10_letters 12 = .ok (.aload_n 0, 1) := by decide +kernel
theorem dX10_letters_13 : decode cX10_letters 13 = .ok (.getfield 34, 3) := by decide +kernel
theorem dX10_letters_16 : decode cX10_letters 16 = .ok (.getfield 140, 3) := by decide +kernel
theorem dX10_letters_19 : decode cX10_letters 19 = .ok (.iload_n 3, 1) := by decide +kernel
theorem dX10_letters_20 : decode cX10_letters 20 = .ok (.iadd, 1) := by decide +kernel
theorem dX10_letters_21 : decode cX10_letters 21 = .ok (.bipush 60, 2) := by decide +kernel
theorem dX10_letters_23 : decode cX10_letters 23 = .ok (.if_icmp .le 6, 3) := by decide +kernel
theorem dX10_letters_26 : decode cX10_letters 26 = .ok (.bipush (-104), 2) := by decide +kernel
theorem dX10_letters_28 : decode cX10_letters 28 = .ok (.ireturn, 1) := by decide +kernel
theorem dX10_letters_29 : decode cX10_letters 29 = .ok (.aload_n 0, 1) := by decide +kernel
theorem dX10_letters_30 : decode cX10_letters 30 = .ok (.getfield 34, 3) := by decide +kernel
theorem dX10_letters_33 : decode cX10_letters 33 = .ok (.lload_n 1, 1) := by decide +kernel
theorem dX10_letters_34 : decode cX10_letters 34 = .ok (.iload_n 3, 1) := by decide +kernel
theorem dX10_letters_35 : decode cX10_letters 35 = .ok (.invokevirtual 141, 3) := by decide +kernel
theorem dX10_letters_38 : decode cX10_letters 38 = .ok (.aload_n 0, 1) := by decide +kernel
theorem dX10_letters_39 : decode cX10_letters 39 = .ok (.getfield 34, 3) := by decide +kernel
theorem dX10_letters_42 : decode cX10_letters 42 = .ok (.getfield 140, 3) := by decide +kernel
theorem dX10_letters_45 : decode cX10_letters 45 = .ok (.ireturn, 1) := by decide +kernel
theorem dX10_blank_0 : decode cX10_blank 0 = .ok (.aload_n 0, 1) := by decide +kernel
theorem dX10_blank_1 : decode cX10_blank 1 = .ok (.getfield 34, 3) := by decide +kernel
theorem dX10_blank_4 : decode cX10_blank 4 = .ok (.getfield 140, 3) := by decide +kernel
theorem dX10_blank_7 : decode cX10_blank 7 = .ok (.istore_n 1, 1) := by decide +kernel
theorem dX10_blank_8 : decode cX10_blank 8 = .ok (.aload_n 0, 1) := by decide +kernel
theorem dX10_blank_9 : decode cX10_blank 9 = .ok (.getfield 34, 3) := by decide +kernel
theorem dX10_blank_12 : decode cX10_blank 12 = .ok (.iconst 0, 1) := by decide +kernel
theorem dX10_blank_13 : decode cX10_blank 13 = .ok (.putfield 140, 3) := by decide +kernel
theorem dX10_blank_16 : decode cX10_blank 16 = .ok (.iload_n 1, 1) := by decide +kernel
theorem dX10_blank_17 : decode cX10_blank 17 = .ok (.ireturn, 1) := by decide +kernel
theorem dX10_good_0 : decode cX10_good 0 = .ok (.iload_n 1, 1) := by decide +kernel
theorem dX10_good_1 : decode cX10_good 1 = .ok (.ifCond .eq 11, 3) := by decide +kernel
theorem dX10_good_4 : decode cX10_good 4 = .ok (.iload_n 1, 1) := by decide +kernel
theorem dX10_good_5 : decode cX10_good 5 = .ok (.iconst 1, 1) := by decide +kernel
theorem dX10_good_6 : decode cX10_good 6 = .ok (.if_icmp .eq 6, 3) := by decide +kernel
theorem dX10_good_9 : decode cX10_good 9 = .ok (.bipush (-102), 2) := by decide +kernel
theorem dX10_good_11 : decode cX10_good 11 = .ok (.ireturn, 1) := by decide +kernel
theorem dX10_good_12 : decode cX10_good 12 = .ok (.aload_n 0, 1) := by decide +kernel
theorem dX10_good_13 : decode cX10_good 13 = .ok (.getfield 41, 3) := by decide +kernel
theorem dX10_good_16 : decode cX10_good 16 = .ok (.aload_n 0, 1) := by decide +kernel
theorem dX10_good_17 : decode cX10_good 17 = .ok (.getfield 34, 3) := by decide +kernel
theorem dX10_good_20 : decode cX10_good 20 = .ok (.iload_n 1, 1) := by decide +kernel
theorem dX10_good_21 : decode cX10_good 21 = .ok (.iconst 1, 1) := by decide +kernel
theorem dX10_good_22 : decode cX10_good 22 = .ok (.if_icmp .ne 7, 3) := by decide +kernel
theorem dX10_good_25 : decode cX10_good 25 = .ok (.iconst 1, 1) := by decide +kernel
theorem dX10_good_26 : decode cX10_good 26 = .ok (.goto 4, 3) := by decide +kernel
theorem dX10_good_29 : decode cX10_good 29 = .ok (.iconst 0, 1) := by decide +kernel
theorem dX10_good_30 : decode cX10_good 30 = .ok (.invokevirtual 145, 3) := by decide +kernel
theorem dX10_good_33 : decode cX10_good 33 = .ok (.ireturn, 1) := by decide +kernel
theorem dX10_rule_0 : decode cX10_rule 0 = .ok (.aload_n 0, 1) := by decide +kernel
theorem dX10_rule_1 : decode cX10_rule 1 = .ok (.getfield 41, 3) := by decide +kernel
theorem dX10_rule_4 : decode cX10_rule 4 = .ok (.aload_n 0, 1) := by decide +kernel
theorem dX10_rule_5 : decode cX10_rule 5 = .ok (.getfield 34, 3) := by decide +kernel
theorem dX10_rule_8 : decode cX10_rule 8 = .ok (.iconst 0, 1) := by decide +kernel
theorem dX10_rule_9 : decode cX10_rule 9 = .ok (.invokevirtual 145, 3) := by decide +kernel
theorem dX10_rule_12 : decode cX10_rule 12 = .ok (.aload_n 0, 1) := by decide +kernel
theorem dX10_rule_13 : decode cX10_rule 13 = .ok (.getfield 34, 3) := by decide +kernel
theorem dX10_rule_16 : decode cX10_rule 16 = .ok (.getfield 140, 3) := by decide +kernel
theorem dX10_rule_19 : decode cX10_rule 19 = .ok (.if_icmp .lt 13, 3) := by decide +kernel
theorem dX10_rule_22 : decode cX10_rule 22 = .ok (.aload_n 0, 1) := by decide +kernel
theorem dX10_rule_23 : decode cX10_rule 23 = .ok (.getfield 41, 3) := by decide +kernel
theorem dX10_rule_26 : decode cX10_rule 26 = .ok (.invokevirtual 149, 3) := by decide +kernel
theorem dX10_rule_29 : decode cX10_rule 29 = .ok (.ifCond .ne 6, 3) := by decide +kernel
theorem dX10_rule_32 : decode cX10_rule 32 = .ok (.bipush (-103), 2) := by decide +kernel
theorem dX10_rule_34 : decode cX10_rule 34 = .ok (.ireturn, 1) := by decide +kernel
theorem dX10_rule_35 : decode cX10_rule 35 = .ok (.aload_n 0, 1) := by decide +kernel
theorem dX10_rule_36 : decode cX10_rule 36 = .ok (.getfield 25, 3) := by decide +kernel
theorem dX10_rule_39 : decode cX10_rule 39 = .ok (.getfield 153, 3) := by decide +kernel
theorem dX10_rule_42 : decode cX10_rule 42 = .ok (.bipush 6, 2) := by decide +kernel
theorem dX10_rule_44 : decode cX10_rule 44 = .ok (.if_icmp .lt 6, 3) := by decide +kernel
theorem dX10_rule_47 : decode cX10_rule 47 = .ok (.bipush (-104), 2) := by decide +kernel
theorem dX10_rule_49 : decode cX10_rule 49 = .ok (.ireturn, 1) := by decide +kernel
theorem dX10_rule_50 : decode cX10_rule 50 = .ok (.aload_n 0, 1) := by decide +kernel
theorem dX10_rule_51 : decode cX10_rule 51 = .ok (.getfield 25, 3) := by decide +kernel
theorem dX10_rule_54 : decode cX10_rule 54 = .ok (.getfield 154, 3) := by decide +kernel
theorem dX10_rule_57 : decode cX10_rule 57 = .ok (.aload_n 0, 1) := by decide +kernel
theorem dX10_rule_58 : decode cX10_rule 58 = .ok (.getfield 25, 3) := by decide +kernel
theorem dX10_rule_61 : decode cX10_rule 61 = .ok (.getfield 153, 3) := by decide +kernel
theorem dX10_rule_64 : decode cX10_rule 64 = .ok (.aaload, 1) := by decide +kernel
theorem dX10_rule_65 : decode cX10_rule 65 = .ok (.aload_n 0, 1) := by decide +kernel
theorem dX10_rule_66 : decode cX10_rule 66 = .ok (.getfield 41, 3) := by decide +kernel
theorem dX10_rule_69 : decode cX10_rule 69 = .ok (.getfield 158, 3) := by decide +kernel
theorem dX10_rule_72 : decode cX10_rule 72 = .ok (.invokevirtual 162, 3) := by decide +kernel
theorem dX10_rule_75 : decode cX10_rule 75 = .ok (.aload_n 0, 1) := by decide +kernel
theorem dX10_rule_76 : decode cX10_rule 76 = .ok (.getfield 25, 3) := by decide +kernel
theorem dX10_rule_79 : decode cX10_rule 79 = .ok (.dup, 1) := by decide +kernel
theorem dX10_rule_80 : decode cX10_rule 80 = .ok (.getfield 153, 3) := by decide +kernel
theorem dX10_rule_83 : decode cX10_rule 83 = .ok (.iconst 1, 1) := by decide +kernel
theorem dX10_rule_84 : decode cX10_rule 84 = .ok (.iadd, 1) := by decide +kernel
theorem dX10_rule_85 : decode cX10_rule 85 = .ok (.putfield 153, 3) := by decide +kernel
theorem dX10_rule_88 : decode cX10_rule 88 = .ok (.aload_n 0, 1) := by decide +kernel
theorem dX10_rule_89 : decode cX10_rule 89 = .ok (.getfield 34, 3) := by decide +kernel
theorem dX10_rule_92 : decode cX10_rule 92 = .ok (.iconst 0, 1) := by decide +kernel
theorem dX10_rule_93 : decode cX10_rule 93 = .ok (.putfield 140, 3) := by decide +kernel
theorem dX10_rule_96 : decode cX10_rule 96 = .ok (.aload_n 0, 1) := by decide +kernel
theorem dX10_rule_97 : decode cX10_rule 97 = .ok (.getfield 12, 3) := by decide +kernel
theorem dX10_rule_100 : decode cX10_rule 100 = .ok (.invokevirtual 168, 3) := by decide +kernel
theorem dX10_rule_103 : decode cX10_rule 103 = .ok (.aload_n 0, 1) := by decide +kernel
theorem dX10_rule_104 : decode cX10_rule 104 = .ok (.getfield 25, 3) := by decide +kernel
theorem dX10_rule_107 : decode cX10_rule 107 = .ok (.getfield 153, 3) := by decide +kernel
theorem dX10_rule_110 : decode cX10_rule 110 = .ok (.iconst 1, 1) := by decide +kernel
theorem dX10_rule_111 : decode cX10_rule 111 = .ok (.isub, 1) := by decide +kernel
theorem dX10_rule_112 : decode cX10_rule 112 = .ok (.ireturn, 1) := by decide +kernel
theorem dX10_step_0 : decode cX10_step 0 = .ok (.aload_n 0, 1) := by decide +kernel
theorem dX10_step_1 : decode cX10_step 1 = .ok (.getfield 41, 3) := by decide +kernel
theorem dX10_step_4 : decode cX10_step 4 = .ok (.aload_n 0, 1) := by decide +kernel
theorem dX10_step_5 : decode cX10_step 5 = .ok (.getfield 34, 3) := by decide +kernel
theorem dX10_step_8 : decode cX10_step 8 = .ok (.iconst 1, 1) := by decide +kernel
theorem dX10_step_9 : decode cX10_step 9 = .ok (.invokevirtual 145, 3) := by decide +kernel
theorem dX10_step_12 : decode cX10_step 12 = .ok (.aload_n 0, 1) := by decide +kernel
theorem dX10_step_13 : decode cX10_step 13 = .ok (.getfield 34, 3) := by decide +kernel
theorem dX10_step_16 : decode cX10_step 16 = .ok (.getfield 140, 3) := by decide +kernel
theorem dX10_step_19 : decode cX10_step 19 = .ok (.if_icmp .lt 13, 3) := by decide +kernel
theorem dX10_step_22 : decode cX10_step 22 = .ok (.aload_n 0, 1) := by decide +kernel
theorem dX10_step_23 : decode cX10_step 23 = .ok (.getfield 41, 3) := by decide +kernel
theorem dX10_step_26 : decode cX10_step 26 = .ok (.invokevirtual 149, 3) := by decide +kernel
theorem dX10_step_29 : decode cX10_step 29 = .ok (.ifCond .ne 6, 3) := by decide +kernel
theorem dX10_step_32 : decode cX10_step 32 = .ok (.bipush (-103), 2) := by decide +kernel
theorem dX10_step_34 : decode cX10_step 34 = .ok (.ireturn, 1) := by decide +kernel
theorem dX10_step_35 : decode cX10_step 35 = .ok (.aload_n 0, 1) := by decide +kernel
theorem dX10_step_36 : decode cX10_step 36 = .ok (.getfield 30, 3) := by decide +kernel
theorem dX10_step_39 : decode cX10_step 39 = .ok (.getfield 171, 3) := by decide +kernel
theorem dX10_step_42 : decode cX10_step 42 = .ok (.bipush 8, 2) := by decide +kernel
theorem dX10_step_44 : decode cX10_step 44 = .ok (.if_icmp .lt 6, 3) := by decide +kernel
theorem dX10_step_47 : decode cX10_step 47 = .ok (.bipush (-104), 2) := by decide +kernel
theorem dX10_step_49 : decode cX10_step 49 = .ok (.ireturn, 1) := by decide +kernel
theorem dX10_step_50 : decode cX10_step 50 = .ok (.aload_n 0, 1) := by decide +kernel
theorem dX10_step_51 : decode cX10_step 51 = .ok (.getfield 30, 3) := by decide +kernel
theorem dX10_step_54 : decode cX10_step 54 = .ok (.getfield 174, 3) := by decide +kernel
theorem dX10_step_57 : decode cX10_step 57 = .ok (.aload_n 0, 1) := by decide +kernel
theorem dX10_step_58 : decode cX10_step 58 = .ok (.getfield 30, 3) := by decide +kernel
theorem dX10_step_61 : decode cX10_step 61 = .ok (.getfield 171, 3) := by decide +kernel
theorem dX10_step_64 : decode cX10_step 64 = .ok (.aaload, 1) := by decide +kernel
theorem dX10_step_65 : decode cX10_step 65 = .ok (.aload_n 0, 1) := by decide +kernel
theorem dX10_step_66 : decode cX10_step 66 = .ok (.getfield 41, 3) := by decide +kernel
theorem dX10_step_69 : decode cX10_step 69 = .ok (.getfield 158, 3) := by decide +kernel
theorem dX10_step_72 : decode cX10_step 72 = .ok (.invokevirtual 162, 3) := by decide +kernel
theorem dX10_step_75 : decode cX10_step 75 = .ok (.aload_n 0, 1) := by decide +kernel
theorem dX10_step_76 : decode cX10_step 76 = .ok (.getfield 30, 3) := by decide +kernel
theorem dX10_step_79 : decode cX10_step 79 = .ok (.dup, 1) := by decide +kernel
theorem dX10_step_80 : decode cX10_step 80 = .ok (.getfield 171, 3) := by decide +kernel
theorem dX10_step_83 : decode cX10_step 83 = .ok (.iconst 1, 1) := by decide +kernel
theorem dX10_step_84 : decode cX10_step 84 = .ok (.iadd, 1) := by decide +kernel
theorem dX10_step_85 : decode cX10_step 85 = .ok (.putfield 171, 3) := by decide +kernel
theorem dX10_step_88 : decode cX10_step 88 = .ok (.aload_n 0, 1) := by decide +kernel
theorem dX10_step_89 : decode cX10_step 89 = .ok (.getfield 34, 3) := by decide +kernel
theorem dX10_step_92 : decode cX10_step 92 = .ok (.iconst 0, 1) := by decide +kernel
theorem dX10_step_93 : decode cX10_step 93 = .ok (.putfield 140, 3) := by decide +kernel
theorem dX10_step_96 : decode cX10_step 96 = .ok (.aload_n 0, 1) := by decide +kernel
theorem dX10_step_97 : decode cX10_step 97 = .ok (.getfield 12, 3) := by decide +kernel
theorem dX10_step_100 : decode cX10_step 100 = .ok (.invokevirtual 168, 3) := by decide +kernel
theorem dX10_step_103 : decode cX10_step 103 = .ok (.aload_n 0, 1) := by decide +kernel
theorem dX10_step_104 : decode cX10_step 104 = .ok (.getfield 30, 3) := by decide +kernel
theorem dX10_step_107 : decode cX10_step 107 = .ok (.getfield 171, 3) := by decide +kernel
theorem dX10_step_110 : decode cX10_step 110 = .ok (.iconst 1, 1) := by decide +kernel
theorem dX10_step_111 : decode cX10_step 111 = .ok (.isub, 1) := by decide +kernel
theorem dX10_step_112 : decode cX10_step 112 = .ok (.ireturn, 1) := by decide +kernel
theorem dX10_bare_0 : decode cX10_bare 0 = .ok (.aload_n 0, 1) := by decide +kernel
theorem dX10_bare_1 : decode cX10_bare 1 = .ok (.getfield 30, 3) := by decide +kernel
theorem dX10_bare_4 : decode cX10_bare 4 = .ok (.getfield 171, 3) := by decide +kernel
theorem dX10_bare_7 : decode cX10_bare 7 = .ok (.istore_n 1, 1) := by decide +kernel
theorem dX10_bare_8 : decode cX10_bare 8 = .ok (.aload_n 0, 1) := by decide +kernel
theorem dX10_bare_9 : decode cX10_bare 9 = .ok (.getfield 30, 3) := by decide +kernel
theorem dX10_bare_12 : decode cX10_bare 12 = .ok (.iconst 0, 1) := by decide +kernel
theorem dX10_bare_13 : decode cX10_bare 13 = .ok (.putfield 171, 3) := by decide +kernel
theorem dX10_bare_16 : decode cX10_bare 16 = .ok (.aload_n 0, 1) := by decide +kernel
theorem dX10_bare_17 : decode cX10_bare 17 = .ok (.getfield 12, 3) := by decide +kernel
theorem dX10_bare_20 : decode cX10_bare 20 = .ok (.invokevirtual 168, 3) := by decide +kernel
theorem dX10_bare_23 : decode cX10_bare 23 = .ok (.iload_n 1, 1) := by decide +kernel
theorem dX10_bare_24 : decode cX10_bare 24 = .ok (.ireturn, 1) := by decide +kernel
theorem dX10_always_0 : decode cX10_always 0 = .ok (.aload_n 0, 1) := by decide +kernel
theorem dX10_always_1 : decode cX10_always 1 = .ok (.getfield 25, 3) := by decide +kernel
theorem dX10_always_4 : decode cX10_always 4 = .ok (.iload_n 1, 1) := by decide +kernel
theorem dX10_always_5 : decode cX10_always 5 = .ok (.invokevirtual 97, 3) := by decide +kernel
theorem dX10_always_8 : decode cX10_always 8 = .ok (.ifCond .ne 6, 3) := by decide +kernel
theorem dX10_always_11 : decode cX10_always 11 = .ok (.bipush (-101), 2) := by decide +kernel
theorem dX10_always_13 : decode cX10_always 13 = .ok (.ireturn, 1) := by decide +kernel
theorem dX10_always_14 : decode cX10_always 14 = .ok (.aload_n 0, 1) := by decide +kernel
theorem dX10_always_15 : decode cX10_always 15 = .ok (.getfield 25, 3) := by decide +kernel
theorem dX10_always_18 : decode cX10_always 18 = .ok (.getfield 177, 3) := by decide +kernel
theorem dX10_always_21 : decode cX10_always 21 = .ok (.iload_n 1, 1) := by decide +kernel
theorem dX10_always_22 : decode cX10_always 22 = .ok (.ishr, 1) := by decide +kernel
theorem dX10_always_23 : decode cX10_always 23 = .ok (.iconst 1, 1) := by decide +kernel
theorem dX10_always_24 : decode cX10_always 24 = .ok (.iand, 1) := by decide +kernel
theorem dX10_always_25 : decode cX10_always 25 = .ok (.istore_n 3, 1) := by decide +kernel
theorem dX10_always_26 : decode cX10_always 26 = .ok (.aload_n 0, 1) := by decide +kernel
theorem dX10_always_27 : decode cX10_always 27 = .ok (.getfield 25, 3) := by decide +kernel
theorem dX10_always_30 : decode cX10_always 30 = .ok (.iload_n 2, 1) := by decide +kernel
theorem dX10_always_31 : decode cX10_always 31 = .ok (.ifCond .eq 17, 3) := by decide +kernel
theorem dX10_always_34 : decode cX10_always 34 = .ok (.aload_n 0, 1) := by decide +kernel
theorem dX10_always_35 : decode cX10_always 35 = .ok (.getfield 25, 3) := by decide +kernel
theorem dX10_always_38 : decode cX10_always 38 = .ok (.getfield 177, 3) := by decide +kernel
theorem dX10_always_41 : decode cX10_always 41 = .ok (.iconst 1, 1) := by decide +kernel
theorem dX10_always_42 : decode cX10_always 42 = .ok (.iload_n 1, 1) := by decide +kernel
theorem dX10_always_43 : decode cX10_always 43 = .ok (.ishl, 1) := by decide +kernel
theorem dX10_always_44 : decode cX10_always 44 = .ok (.ior, 1) := by decide +kernel
theorem dX10_always_45 : decode cX10_always 45 = .ok (.goto 16, 3) := by decide +kernel
theorem dX10_always_48 : decode cX10_always 48 = .ok (.aload_n 0, 1) := by decide +kernel
theorem dX10_always_49 : decode cX10_always 49 = .ok (.getfield 25, 3) := by decide +kernel
theorem dX10_always_52 : decode cX10_always 52 = .ok (.getfield 177, 3) := by decide +kernel
theorem dX10_always_55 : decode cX10_always 55 = .ok (.iconst 1, 1) := by decide +kernel
theorem dX10_always_56 : decode cX10_always 56 = .ok (.iload_n 1, 1) := by decide +kernel
theorem dX10_always_57 : decode cX10_always 57 = .ok (.ishl, 1) := by decide +kernel
theorem dX10_always_58 : decode cX10_always 58 = .ok (.iconst (-1), 1) := by decide +kernel
theorem dX10_always_59 : decode cX10_always 59 = .ok (.ixor, 1) := by decide +kernel
theorem dX10_always_60 : decode cX10_always 60 = .ok (.iand, 1) := by decide +kernel
theorem dX10_always_61 : decode cX10_always 61 = .ok (.putfield 177, 3) := by decide +kernel
theorem dX10_always_64 : decode cX10_always 64 = .ok (.iload_n 3, 1) := by decide +kernel
theorem dX10_always_65 : decode cX10_always 65 = .ok (.ireturn, 1) := by decide +kernel
theorem dX10_holds_0 : decode cX10_holds 0 = .ok (.aload_n 0, 1) := by decide +kernel
theorem dX10_holds_1 : decode cX10_holds 1 = .ok (.getfield 25, 3) := by decide +kernel
theorem dX10_holds_4 : decode cX10_holds 4 = .ok (.iload_n 1, 1) := by decide +kernel
theorem dX10_holds_5 : decode cX10_holds 5 = .ok (.invokevirtual 97, 3) := by decide +kernel
theorem dX10_holds_8 : decode cX10_holds 8 = .ok (.ifCond .ne 6, 3) := by decide +kernel
theorem dX10_holds_11 : decode cX10_holds 11 = .ok (.bipush (-101), 2) := by decide +kernel
theorem dX10_holds_13 : decode cX10_holds 13 = .ok (.ireturn, 1) := by decide +kernel
theorem dX10_holds_14 : decode cX10_holds 14 = .ok (.lload_n 2, 1) := by decide +kernel
theorem dX10_holds_15 : decode cX10_holds 15 = .ok (.invokestatic 180, 3) := by decide +kernel
theorem dX10_holds_18 : decode cX10_holds 18 = .ok (.ifCond .ne 6, 3) := by decide +kernel
theorem dX10_holds_21 : decode cX10_holds 21 = .ok (.bipush (-102), 2) := by decide +kernel
theorem dX10_holds_23 : decode cX10_holds 23 = .ok (.ireturn, 1) := by decide +kernel
theorem dX10_holds_24 : decode cX10_holds 24 = .ok (.aload_n 0, 1) := by decide +kernel
theorem dX10_holds_25 : decode cX10_holds 25 = .ok (.getfield 25, 3) := by decide +kernel
theorem dX10_holds_28 : decode cX10_holds 28 = .ok (.lload_n 2, 1) := by decide +kernel
theorem dX10_holds_29 : decode cX10_holds 29 = .ok (.invokestatic 184, 3) := by decide +kernel
theorem dX10_holds_32 : decode cX10_holds 32 = .ok (.invokevirtual 187, 3) := by decide +kernel
theorem dX10_holds_35 : decode cX10_holds 35 = .ok (.iload_n 1, 1) := by decide +kernel
theorem dX10_holds_36 : decode cX10_holds 36 = .ok (.ishr, 1) := by decide +kernel
theorem dX10_holds_37 : decode cX10_holds 37 = .ok (.iconst 1, 1) := by decide +kernel
theorem dX10_holds_38 : decode cX10_holds 38 = .ok (.iand, 1) := by decide +kernel
theorem dX10_holds_39 : decode cX10_holds 39 = .ok (.iconst 1, 1) := by decide +kernel
theorem dX10_holds_40 : decode cX10_holds 40 = .ok (.ixor, 1) := by decide +kernel
theorem dX10_holds_41 : decode cX10_holds 41 = .ok (.ireturn, 1) := by decide +kernel
theorem dX10_found_0 : decode cX10_found 0 = .ok (.aload_n 0, 1) := by decide +kernel
theorem dX10_found_1 : decode cX10_found 1 = .ok (.getfield 20, 3) := by decide +kernel
theorem dX10_found_4 : decode cX10_found 4 = .ok (.iload_n 1, 1) := by decide +kernel
theorem dX10_found_5 : decode cX10_found 5 = .ok (.invokevirtual 190, 3) := by decide +kernel
theorem dX10_found_8 : decode cX10_found 8 = .ok (.ifCond .ne 6, 3) := by decide +kernel
theorem dX10_found_11 : decode cX10_found 11 = .ok (.bipush (-102), 2) := by decide +kernel
theorem dX10_found_13 : decode cX10_found 13 = .ok (.ireturn, 1) := by decide +kernel
theorem dX10_found_14 : decode cX10_found 14 = .ok (.aload_n 0, 1) := by decide +kernel
theorem dX10_found_15 : decode cX10_found 15 = .ok (.getfield 48, 3) := by decide +kernel
theorem dX10_found_18 : decode cX10_found 18 = .ok (.aload_n 0, 1) := by decide +kernel
theorem dX10_found_19 : decode cX10_found 19 = .ok (.getfield 20, 3) := by decide +kernel
theorem dX10_found_22 : decode cX10_found 22 = .ok (.iload_n 1, 1) := by decide +kernel
theorem dX10_found_23 : decode cX10_found 23 = .ok (.invokevirtual 193, 3) := by decide +kernel
theorem dX10_found_26 : decode cX10_found 26 = .ok (.aload_n 0, 1) := by decide +kernel
theorem dX10_found_27 : decode cX10_found 27 = .ok (.getfield 48, 3) := by decide +kernel
theorem dX10_found_30 : decode cX10_found 30 = .ok (.getfield 197, 3) := by decide +kernel
theorem dX10_found_33 : decode cX10_found 33 = .ok (.ireturn, 1) := by decide +kernel
theorem dX10_plate_0 : decode cX10_plate 0 = .ok (.aload_n 0, 1) := by decide +kernel
theorem dX10_plate_1 : decode cX10_plate 1 = .ok (.getfield 20, 3) := by decide +kernel
theorem dX10_plate_4 : decode cX10_plate 4 = .ok (.iload_n 1, 1) := by decide +kernel
theorem dX10_plate_5 : decode cX10_plate 5 = .ok (.invokevirtual 190, 3) := by decide +kernel
theorem dX10_plate_8 : decode cX10_plate 8 = .ok (.ifCond .ne 7, 3) := by decide +kernel
theorem dX10_plate_11 : decode cX10_plate 11 = .ok (.ldc2_w 198, 3) := by decide +kernel
theorem dX10_plate_14 : decode cX10_plate 14 = .ok (.lreturn, 1) := by decide +kernel
theorem dX10_plate_15 : decode cX10_plate 15 = .ok (.aload_n 0, 1) := by decide +kernel
theorem dX10_plate_16 : decode cX10_plate 16 = .ok (.getfield 48, 3) := by decide +kernel
theorem dX10_plate_19 : decode cX10_plate 19 = .ok (.aload_n 0, 1) := by decide +kernel
theorem dX10_plate_20 : decode cX10_plate 20 = .ok (.getfield 20, 3) := by decide +kernel
theorem dX10_plate_23 : decode cX10_plate 23 = .ok (.iload_n 1, 1) := by decide +kernel
theorem dX10_plate_24 : decode cX10_plate 24 = .ok (.invokevirtual 193, 3) := by decide +kernel
theorem dX10_plate_27 : decode cX10_plate 27 = .ok (.iload_n 2, 1) := by decide +kernel
theorem dX10_plate_28 : decode cX10_plate 28 = .ok (.ifCond .lt 29, 3) := by decide +kernel
theorem dX10_plate_31 : decode cX10_plate 31 = .ok (.iload_n 2, 1) := by decide +kernel
theorem dX10_plate_32 : decode cX10_plate 32 = .ok (.aload_n 0, 1) := by decide +kernel
theorem dX10_plate_33 : decode cX10_plate 33 = .ok (.getfield 48, 3) := by decide +kernel
theorem dX10_plate_36 : decode cX10_plate 36 = .ok (.getfield 197, 3) := by decide +kernel
theorem dX10_plate_39 : decode cX10_plate 39 = .ok (.if_icmp .ge 18, 3) := by decide +kernel
theorem dX10_plate_42 : decode cX10_plate 42 = .ok (.aload_n 0, 1) := by decide +kernel
theorem dX10_plate_43 : decode cX10_plate 43 = .ok (.getfield 48, 3) := by decide +kernel
theorem dX10_plate_46 : decode cX10_plate 46 = .ok (.getfield 200, 3) := by decide +kernel
theorem dX10_plate_49 : decode cX10_plate 49 = .ok (.iload_n 2, 1) := by decide +kernel
theorem dX10_plate_50 : decode cX10_plate 50 = .ok (.laload, 1) := by decide +kernel
theorem dX10_plate_51 : decode cX10_plate 51 = .ok (.invokestatic 128, 3) := by decide +kernel
theorem dX10_plate_54 : decode cX10_plate 54 = .ok (.goto 6, 3) := by decide +kernel
theorem dX10_plate_57 : decode cX10_plate 57 = .ok (.ldc2_w 204, 3) := by decide +kernel
theorem dX10_plate_60 : decode cX10_plate 60 = .ok (.lreturn, 1) := by decide +kernel
theorem dX10_heal_0 : decode cX10_heal 0 = .ok (.lload_n 1, 1) := by decide +kernel
theorem dX10_heal_1 : decode cX10_heal 1 = .ok (.invokestatic 180, 3) := by decide +kernel
theorem dX10_heal_4 : decode cX10_heal 4 = .ok (.ifCond .ne 7, 3) := by decide +kernel
theorem dX10_heal_7 : decode cX10_heal 7 = .ok (.ldc2_w 198, 3) := by decide +kernel
theorem dX10_heal_10 : decode cX10_heal 10 = .ok (.lreturn, 1) := by decide +kernel
theorem dX10_heal_11 : decode cX10_heal 11 = .ok (.aload_n 0, 1) := by decide +kernel
theorem dX10_heal_12 : decode cX10_heal 12 = .ok (.getfield 30, 3) := by decide +kernel
theorem dX10_heal_15 : decode cX10_heal 15 = .ok (.lload_n 1, 1) := by decide +kernel
theorem dX10_heal_16 : decode cX10_heal 16 = .ok (.invokestatic 184, 3) := by decide +kernel
theorem dX10_heal_19 : decode cX10_heal 19 = .ok (.invokevirtual 206, 3) := by decide +kernel
theorem dX10_heal_22 : decode cX10_heal 22 = .ok (.invokestatic 128, 3) := by decide +kernel
theorem dX10_heal_25 : decode cX10_heal 25 = .ok (.lreturn, 1) := by decide +kernel
theorem dX10_cut_0 : decode cX10_cut 0 = .ok (.lload_n 1, 1) := by decide +kernel
theorem dX10_cut_1 : decode cX10_cut 1 = .ok (.invokestatic 180, 3) := by decide +kernel
theorem dX10_cut_4 : decode cX10_cut 4 = .ok (.ifCond .ne 7, 3) := by decide +kernel
theorem dX10_cut_7 : decode cX10_cut 7 = .ok (.ldc2_w 198, 3) := by decide +kernel
theorem dX10_cut_10 : decode cX10_cut 10 = .ok (.lreturn, 1) := by decide +kernel
theorem dX10_cut_11 : decode cX10_cut 11 = .ok (.iload_n 3, 1) := by decide +kernel
theorem dX10_cut_12 : decode cX10_cut 12 = .ok (.ifCond .lt 14, 3) := by decide +kernel
theorem dX10_cut_15 : decode cX10_cut 15 = .ok (.iload_n 3, 1) := by decide +kernel
theorem dX10_cut_16 : decode cX10_cut 16 = .ok (.aload_n 0, 1) := by decide +kernel
theorem dX10_cut_17 : decode cX10_cut 17 = .ok (.getfield 30, 3) := by decide +kernel
theorem dX10_cut_20 : decode cX10_cut 20 = .ok (.getfield 171, 3) := by decide +kernel
theorem dX10_cut_23 : decode cX10_cut 23 = .ok (.if_icmp .le 7, 3) := by decide +kernel
theorem dX10_cut_26 : decode cX10_cut 26 = .ok (.ldc2_w 204, 3) := by decide +kernel
theorem dX10_cut_29 : decode cX10_cut 29 = .ok (.lreturn, 1) := by decide +kernel
theorem dX10_cut_30 : decode cX10_cut 30 = .ok (.aload_n 0, 1) := by decide +kernel
theorem dX10_cut_31 : decode cX10_cut 31 = .ok (.getfield 30, 3) := by decide +kernel
theorem dX10_cut_34 : decode cX10_cut 34 = .ok (.aload_n 0, 1) := by decide +kernel
theorem dX10_cut_35 : decode cX10_cut 35 = .ok (.getfield 30, 3) := by decide +kernel
theorem dX10_cut_38 : decode cX10_cut 38 = .ok (.lload_n 1, 1) := by decide +kernel
theorem dX10_cut_39 : decode cX10_cut 39 = .ok (.invokestatic 184, 3) := by decide +kernel
theorem dX10_cut_42 : decode cX10_cut 42 = .ok (.iconst 0, 1) := by decide +kernel
theorem dX10_cut_43 : decode cX10_cut 43 = .ok (.iload_n 3, 1) := by decide +kernel
theorem dX10_cut_44 : decode cX10_cut 44 = .ok (.invokevirtual 209, 3) := by decide +kernel
theorem dX10_cut_47 : decode cX10_cut 47 = .ok (.invokevirtual 206, 3) := by decide +kernel
theorem dX10_cut_50 : decode cX10_cut 50 = .ok (.invokestatic 128, 3) := by decide +kernel
theorem dX10_cut_53 : decode cX10_cut 53 = .ok (.lreturn, 1) := by decide +kernel
theorem dX10_steady_0 : decode cX10_steady 0 = .ok (.lload_n 1, 1) := by decide +kernel
theorem dX10_steady_1 : decode cX10_steady 1 = .ok (.invokestatic 180, 3) := by decide +kernel
theorem dX10_steady_4 : decode cX10_steady 4 = .ok (.ifCond .ne 6, 3) := by decide +kernel
theorem dX10_steady_7 : decode cX10_steady 7 = .ok (.bipush (-102), 2) := by decide +kernel
theorem dX10_steady_9 : decode cX10_steady 9 = .ok (.ireturn, 1) := by decide +kernel
theorem dX10_steady_10 : decode cX10_steady 10 = .ok (.lload_n 1, 1) := by decide +kernel
theorem dX10_steady_11 : decode cX10_steady 11 = .ok (.invokestatic 184, 3) := by decide +kernel
theorem dX10_steady_14 : decode cX10_steady 14 = .ok (.lstore_n 3, 1) := by decide +kernel
theorem dX10_steady_15 : decode cX10_steady 15 = .ok (.aload_n 0, 1) := by decide +kernel
theorem dX10_steady_16 : decode cX10_steady 16 = .ok (.getfield 30, 3) := by decide +kernel
theorem dX10_steady_19 : decode cX10_steady 19 = .ok (.lload_n 3, 1) := by decide +kernel
theorem dX10_steady_20 : decode cX10_steady 20 = .ok (.aload_n 0, 1) := by decide +kernel
theorem dX10_steady_21 : decode cX10_steady 21 = .ok (.getfield 30, 3) := by decide +kernel
theorem dX10_steady_24 : decode cX10_steady 24 = .ok (.lload_n 3, 1) := by decide +kernel
theorem dX10_steady_25 : decode cX10_steady 25 = .ok (.invokevirtual 206, 3) := by decide +kernel
theorem dX10_steady_28 : decode cX10_steady 28 = .ok (.invokevirtual 212, 3) := by decide +kernel
theorem dX10_steady_31 : decode cX10_steady 31 = .ok (.ifCond .eq 7, 3) := by decide +kernel
theorem dX10_steady_34 : decode cX10_steady 34 = .ok (.iconst 1, 1) := by decide +kernel
theorem dX10_steady_35 : decode cX10_steady 35 = .ok (.goto 4, 3) := by decide +kernel
theorem dX10_steady_38 : decode cX10_steady 38 = .ok (.iconst 0, 1) := by decide +kernel
theorem dX10_steady_39 : decode cX10_steady 39 = .ok (.ireturn, 1) := by decide +kernel
theorem dX10_kept_0 : decode cX10_kept 0 = .ok (.aload_n 0, 1) := by decide +kernel
theorem dX10_kept_1 : decode cX10_kept 1 = .ok (.getfield 25, 3) := by decide +kernel
theorem dX10_kept_4 : decode cX10_kept 4 = .ok (.iload_n 1, 1) := by decide +kernel
theorem dX10_kept_5 : decode cX10_kept 5 = .ok (.invokevirtual 97, 3) := by decide +kernel
theorem dX10_kept_8 : decode cX10_kept 8 = .ok (.ifCond .ne 6, 3) := by decide +kernel
theorem dX10_kept_11 : decode cX10_kept 11 = .ok (.bipush (-101), 2) := by decide +kernel
theorem dX10_kept_13 : decode cX10_kept 13 = .ok (.ireturn, 1) := by decide +kernel
theorem dX10_kept_14 : decode cX10_kept 14 = .ok (.aload_n 0, 1) := by decide +kernel
theorem dX10_kept_15 : decode cX10_kept 15 = .ok (.getfield 20, 3) := by decide +kernel
theorem dX10_kept_18 : decode cX10_kept 18 = .ok (.iload_n 2, 1) := by decide +kernel
theorem dX10_kept_19 : decode cX10_kept 19 = .ok (.invokevirtual 190, 3) := by decide +kernel
theorem dX10_kept_22 : decode cX10_kept 22 = .ok (.ifCond .eq 12, 3) := by decide +kernel
theorem dX10_kept_25 : decode cX10_kept 25 = .ok (.iload_n 3, 1) := by decide +kernel
theorem dX10_kept_26 : decode cX10_kept 26 = .ok (.ifCond .eq 11, 3) := by decide +kernel
theorem dX10_kept_29 : decode cX10_kept 29 = .ok (.iload_n 3, 1) := by decide +kernel
theorem dX10_kept_30 : decode cX10_kept 30 = .ok (.iconst 1, 1) := by decide +kernel
theorem dX10_kept_31 : decode cX10_kept 31 = .ok (.if_icmp .eq 6, 3) := by decide +kernel
theorem dX10_kept_34 : decode cX10_kept 34 = .ok (.bipush (-102), 2) := by decide +kernel
theorem dX10_kept_36 : decode cX10_kept 36 = .ok (.ireturn, 1) := by decide +kernel
theorem dX10_kept_37 : decode cX10_kept 37 = .ok (.aload_n 0, 1) := by decide +kernel
theorem dX10_kept_38 : decode cX10_kept 38 = .ok (.getfield 48, 3) := by decide +kernel
theorem dX10_kept_41 : decode cX10_kept 41 = .ok (.aload_n 0, 1) := by decide +kernel
theorem dX10_kept_42 : decode cX10_kept 42 = .ok (.getfield 20, 3) := by decide +kernel
theorem dX10_kept_45 : decode cX10_kept 45 = .ok (.iload_n 2, 1) := by decide +kernel
theorem dX10_kept_46 : decode cX10_kept 46 = .ok (.invokevirtual 193, 3) := by decide +kernel
theorem dX10_kept_49 : decode cX10_kept 49 = .ok (.iconst 0, 1) := by decide +kernel
theorem dX10_kept_50 : decode cX10_kept 50 = .ok (.istore 4, 2) := by decide +kernel
theorem dX10_kept_52 : decode cX10_kept 52 = .ok (.iconst 0, 1) := by decide +kernel
theorem dX10_kept_53 : decode cX10_kept 53 = .ok (.istore 5, 2) := by decide +kernel
theorem dX10_kept_55 : decode cX10_kept 55 = .ok (.iload 5, 2) := by decide +kernel
theorem dX10_kept_57 : decode cX10_kept 57 = .ok (.aload_n 0, 1) := by decide +kernel
theorem dX10_kept_58 : decode cX10_kept 58 = .ok (.getfield 48, 3) := by decide +kernel
theorem dX10_kept_61 : decode cX10_kept 61 = .ok (.getfield 197, 3) := by decide +kernel
theorem dX10_kept_64 : decode cX10_kept 64 = .ok (.if_icmp .ge 66, 3) := by decide +kernel
theorem dX10_kept_67 : decode cX10_kept 67 = .ok (.iload_n 3, 1) := by decide +kernel
theorem dX10_kept_68 : decode cX10_kept 68 = .ok (.iconst 1, 1) := by decide +kernel
theorem dX10_kept_69 : decode cX10_kept 69 = .ok (.if_icmp .ne 23, 3) := by decide +kernel
theorem dX10_kept_72 : decode cX10_kept 72 = .ok (.aload_n 0, 1) := by decide +kernel
theorem dX10_kept_73 : decode cX10_kept 73 = .ok (.getfield 12, 3) := by decide +kernel
theorem dX10_kept_76 : decode cX10_kept 76 = .ok (.aload_n 0, 1) := by decide +kernel
theorem dX10_kept_77 : decode cX10_kept 77 = .ok (.getfield 48, 3) := by decide +kernel
theorem dX10_kept_80 : decode cX10_kept 80 = .ok (.getfield 216, 3) := by decide +kernel
theorem dX10_kept_83 : decode cX10_kept 83 = .ok (.iload 5, 2) := by decide +kernel
theorem dX10_kept_85 : decode cX10_kept 85 = .ok (.iaload, 1) := by decide +kernel
theorem dX10_kept_86 : decode cX10_kept 86 = .ok (.invokevirtual 220, 3) := by decide +kernel
theorem dX10_kept_89 : decode cX10_kept 89 = .ok (.goto 20, 3) := by decide +kernel
theorem dX10_kept_92 : decode cX10_kept 92 = .ok (.aload_n 0, 1) := by decide +kernel
theorem dX10_kept_93 : decode cX10_kept 93 = .ok (.getfield 25, 3) := by decide +kernel
theorem dX10_kept_96 : decode cX10_kept 96 = .ok (.aload_n 0, 1) := by decide +kernel
theorem dX10_kept_97 : decode cX10_kept 97 = .ok (.getfield 48, 3) := by decide +kernel
theorem dX10_kept_100 : decode cX10_kept 100 = .ok (.getfield 200, 3) := by decide +kernel
theorem dX10_kept_103 : decode cX10_kept 103 = .ok (.iload 5, 2) := by decide +kernel
theorem dX10_kept_105 : decode cX10_kept 105 = .ok (.laload, 1) := by decide +kernel
theorem dX10_kept_106 : decode cX10_kept 106 = .ok (.invokevirtual 187, 3) := by decide +kernel
theorem dX10_kept_109 : decode cX10_kept 109 = .ok (.istore 6, 2) := by decide +kernel
theorem dX10_kept_111 : decode cX10_kept 111 = .ok (.iload 4, 2) := by decide +kernel
theorem dX10_kept_113 : decode cX10_kept 113 = .ok (.iload 6, 2) := by decide +kernel
theorem dX10_kept_115 : decode cX10_kept 115 = .ok (.iload_n 1, 1) := by decide +kernel
theorem dX10_kept_116 : decode cX10_kept 116 = .ok (.ishr, 1) := by decide +kernel
theorem dX10_kept_117 : decode cX10_kept 117 = .ok (.iconst 1, 1) := by decide +kernel
theorem dX10_kept_118 : decode cX10_kept 118 = .ok (.iand, 1) := by decide +kernel
theorem dX10_kept_119 : decode cX10_kept 119 = .ok (.iconst 1, 1) := by decide +kernel
theorem dX10_kept_120 : decode cX10_kept 120 = .ok (.ixor, 1) := by decide +kernel
theorem dX10_kept_121 : decode cX10_kept 121 = .ok (.iadd, 1) := by decide +kernel
theorem dX10_kept_122 : decode cX10_kept 122 = .ok (.istore 4, 2) := by decide +kernel
theorem dX10_kept_124 : decode cX10_kept 124 = .ok (.iinc 5 1, 3) := by decide +kernel
theorem dX10_kept_127 : decode cX10_kept 127 = .ok (.goto (-72), 3) := by decide +kernel
theorem dX10_kept_130 : decode cX10_kept 130 = .ok (.iload 4, 2) := by decide +kernel
theorem dX10_kept_132 : decode cX10_kept 132 = .ok (.ireturn, 1) := by decide +kernel
theorem dX10_broken_0 : decode cX10_broken 0 = .ok (.aload_n 0, 1) := by decide +kernel
theorem dX10_broken_1 : decode cX10_broken 1 = .ok (.getfield 20, 3) := by decide +kernel
theorem dX10_broken_4 : decode cX10_broken 4 = .ok (.iload_n 1, 1) := by decide +kernel
theorem dX10_broken_5 : decode cX10_broken 5 = .ok (.invokevirtual 190, 3) := by decide +kernel
theorem dX10_broken_8 : decode cX10_broken 8 = .ok (.ifCond .ne 6, 3) := by decide +kernel
theorem dX10_broken_11 : decode cX10_broken 11 = .ok (.bipush (-102), 2) := by decide +kernel
theorem dX10_broken_13 : decode cX10_broken 13 = .ok (.ireturn, 1) := by decide +kernel
theorem dX10_broken_14 : decode cX10_broken 14 = .ok (.aload_n 0, 1) := by decide +kernel
theorem dX10_broken_15 : decode cX10_broken 15 = .ok (.getfield 48, 3) := by decide +kernel
theorem dX10_broken_18 : decode cX10_broken 18 = .ok (.aload_n 0, 1) := by decide +kernel
theorem dX10_broken_19 : decode cX10_broken 19 = .ok (.getfield 20, 3) := by decide +kernel
theorem dX10_broken_22 : decode cX10_broken 22 = .ok (.iload_n 1, 1) := by decide +kernel
theorem dX10_broken_23 : decode cX10_broken 23 = .ok (.invokevirtual 193, 3) := by decide +kernel
theorem dX10_broken_26 : decode cX10_broken 26 = .ok (.aload_n 0, 1) := by decide +kernel
theorem dX10_broken_27 : decode cX10_broken 27 = .ok (.getfield 20, 3) := by decide +kernel
theorem dX10_broken_30 : decode cX10_broken 30 = .ok (.iload_n 1, 1) := by decide +kernel
theorem dX10_broken_31 : decode cX10_broken 31 = .ok (.aload_n 0, 1) := by decide +kernel
theorem dX10_broken_32 : decode cX10_broken 32 = .ok (.getfield 25, 3) := by decide +kernel
theorem dX10_broken_35 : decode cX10_broken 35 = .ok (.getfield 177, 3) := by decide +kernel
theorem dX10_broken_38 : decode cX10_broken 38 = .ok (.invokevirtual 223, 3) := by decide +kernel
theorem dX10_broken_41 : decode cX10_broken 41 = .ok (.istore_n 2, 1) := by decide +kernel
theorem dX10_broken_42 : decode cX10_broken 42 = .ok (.iconst 0, 1) := by decide +kernel
theorem dX10_broken_43 : decode cX10_broken 43 = .ok (.istore_n 3, 1) := by decide +kernel
theorem dX10_broken_44 : decode cX10_broken 44 = .ok (.iconst 0, 1) := by decide +kernel
theorem dX10_broken_45 : decode cX10_broken 45 = .ok (.istore 4, 2) := by decide +kernel
theorem dX10_broken_47 : decode cX10_broken 47 = .ok (.iload 4, 2) := by decide +kernel
theorem dX10_broken_49 : decode cX10_broken 49 = .ok (.aload_n 0, 1) := by decide +kernel
theorem dX10_broken_50 : decode cX10_broken 50 = .ok (.getfield 48, 3) := by decide +kernel
theorem dX10_broken_53 : decode cX10_broken 53 = .ok (.getfield 197, 3) := by decide +kernel
theorem dX10_broken_56 : decode cX10_broken 56 = .ok (.if_icmp .ge 39, 3) := by decide +kernel
theorem dX10_broken_59 : decode cX10_broken 59 = .ok (.iload_n 3, 1) := by decide +kernel
theorem dX10_broken_60 : decode cX10_broken 60 = .ok (.aload_n 0, 1) := by decide +kernel
theorem dX10_broken_61 : decode cX10_broken 61 = .ok (.getfield 12, 3) := by decide +kernel
theorem dX10_broken_64 : decode cX10_broken 64 = .ok (.aload_n 0, 1) := by decide +kernel
theorem dX10_broken_65 : decode cX10_broken 65 = .ok (.getfield 48, 3) := by decide +kernel
theorem dX10_broken_68 : decode cX10_broken 68 = .ok (.getfield 216, 3) := by decide +kernel
theorem dX10_broken_71 : decode cX10_broken 71 = .ok (.iload 4, 2) := by decide +kernel
theorem dX10_broken_73 : decode cX10_broken 73 = .ok (.iaload, 1) := by decide +kernel
theorem dX10_broken_74 : decode cX10_broken 74 = .ok (.invokevirtual 220, 3) := by decide +kernel
theorem dX10_broken_77 : decode cX10_broken 77 = .ok (.iload_n 2, 1) := by decide +kernel
theorem dX10_broken_78 : decode cX10_broken 78 = .ok (.iand, 1) := by decide +kernel
theorem dX10_broken_79 : decode cX10_broken 79 = .ok (.ifCond .eq 7, 3) := by decide +kernel
theorem dX10_broken_82 : decode cX10_broken 82 = .ok (.iconst 1, 1) := by decide +kernel
theorem dX10_broken_83 : decode cX10_broken 83 = .ok (.goto 4, 3) := by decide +kernel
theorem dX10_broken_86 : decode cX10_broken 86 = .ok (.iconst 0, 1) := by decide +kernel
theorem dX10_broken_87 : decode cX10_broken 87 = .ok (.iadd, 1) := by decide +kernel
theorem dX10_broken_88 : decode cX10_broken 88 = .ok (.istore_n 3, 1) := by decide +kernel
theorem dX10_broken_89 : decode cX10_broken 89 = .ok (.iinc 4 1, 3) := by decide +kernel
theorem dX10_broken_92 : decode cX10_broken 92 = .ok (.goto (-45), 3) := by decide +kernel
theorem dX10_broken_95 : decode cX10_broken 95 = .ok (.iload_n 3, 1) := by decide +kernel
theorem dX10_broken_96 : decode cX10_broken 96 = .ok (.ireturn, 1) := by decide +kernel
theorem dX10_bounds_0 : decode cX10_bounds 0 = .ok (.iload_n 1, 1) := by decide +kernel
theorem dX10_bounds_1 : decode cX10_bounds 1 = .ok (.invokestatic 69, 3) := by decide +kernel
theorem dX10_bounds_4 : decode cX10_bounds 4 = .ok (.ifCond .ne 6, 3) := by decide +kernel
theorem dX10_bounds_7 : decode cX10_bounds 7 = .ok (.bipush (-101), 2) := by decide +kernel
theorem dX10_bounds_9 : decode cX10_bounds 9 = .ok (.ireturn, 1) := by decide +kernel
theorem dX10_bounds_10 : decode cX10_bounds 10 = .ok (.aload_n 0, 1) := by decide +kernel
theorem dX10_bounds_11 : decode cX10_bounds 11 = .ok (.getfield 20, 3) := by decide +kernel
theorem dX10_bounds_14 : decode cX10_bounds 14 = .ok (.iload_n 2, 1) := by decide +kernel
theorem dX10_bounds_15 : decode cX10_bounds 15 = .ok (.invokevirtual 190, 3) := by decide +kernel
theorem dX10_bounds_18 : decode cX10_bounds 18 = .ok (.ifCond .eq 12, 3) := by decide +kernel
theorem dX10_bounds_21 : decode cX10_bounds 21 = .ok (.iload_n 3, 1) := by decide +kernel
theorem dX10_bounds_22 : decode cX10_bounds 22 = .ok (.ifCond .eq 11, 3) := by decide +kernel
theorem dX10_bounds_25 : decode cX10_bounds 25 = .ok (.iload_n 3, 1) := by decide +kernel
theorem dX10_bounds_26 : decode cX10_bounds 26 = .ok (.iconst 1, 1) := by decide +kernel
theorem dX10_bounds_27 : decode cX10_bounds 27 = .ok (.if_icmp .eq 6, 3) := by decide +kernel
theorem dX10_bounds_30 : decode cX10_bounds 30 = .ok (.bipush (-102), 2) := by decide +kernel
theorem dX10_bounds_32 : decode cX10_bounds 32 = .ok (.ireturn, 1) := by decide +kernel
theorem dX10_bounds_33 : decode cX10_bounds 33 = .ok (.aload_n 0, 1) := by decide +kernel
theorem dX10_bounds_34 : decode cX10_bounds 34 = .ok (.getfield 48, 3) := by decide +kernel
theorem dX10_bounds_37 : decode cX10_bounds 37 = .ok (.aload_n 0, 1) := by decide +kernel
theorem dX10_bounds_38 : decode cX10_bounds 38 = .ok (.getfield 20, 3) := by decide +kernel
theorem dX10_bounds_41 : decode cX10_bounds 41 = .ok (.iload_n 2, 1) := by decide +kernel
theorem dX10_bounds_42 : decode cX10_bounds 42 = .ok (.invokevirtual 193, 3) := by decide +kernel
theorem dX10_bounds_45 : decode cX10_bounds 45 = .ok (.aload_n 0, 1) := by decide +kernel
theorem dX10_bounds_46 : decode cX10_bounds 46 = .ok (.getfield 48, 3) := by decide +kernel
theorem dX10_bounds_49 : decode cX10_bounds 49 = .ok (.getfield 200, 3) := by decide +kernel
theorem dX10_bounds_52 : decode cX10_bounds 52 = .ok (.iconst 0, 1) := by decide +kernel
theorem dX10_bounds_53 : decode cX10_bounds 53 = .ok (.laload, 1) := by decide +kernel
theorem dX10_bounds_54 : decode cX10_bounds 54 = .ok (.iload_n 1, 1) := by decide +kernel
theorem dX10_bounds_55 : decode cX10_bounds 55 = .ok (.invokestatic 82, 3) := by decide +kernel
theorem dX10_bounds_58 : decode cX10_bounds 58 = .ok (.istore 4, 2) := by decide +kernel
theorem dX10_bounds_60 : decode cX10_bounds 60 = .ok (.iconst 1, 1) := by decide +kernel
theorem dX10_bounds_61 : decode cX10_bounds 61 = .ok (.istore 5, 2) := by decide +kernel
theorem dX10_bounds_63 : decode cX10_bounds 63 = .ok (.iload 5, 2) := by decide +kernel
theorem dX10_bounds_65 : decode cX10_bounds 65 = .ok (.aload_n 0, 1) := by decide +kernel
theorem dX10_bounds_66 : decode cX10_bounds 66 = .ok (.getfield 48, 3) := by decide +kernel
theorem dX10_bounds_69 : decode cX10_bounds 69 = .ok (.getfield 197, 3) := by decide +kernel
theorem dX10_bounds_72 : decode cX10_bounds 72 = .ok (.if_icmp .ge 48, 3) := by decide +kernel
theorem dX10_bounds_75 : decode cX10_bounds 75 = .ok (.aload_n 0, 1) := by decide +kernel
theorem dX10_bounds_76 : decode cX10_bounds 76 = .ok (.getfield 48, 3) := by decide +kernel
theorem dX10_bounds_79 : decode cX10_bounds 79 = .ok (.getfield 200, 3) := by decide +kernel
theorem dX10_bounds_82 : decode cX10_bounds 82 = .ok (.iload 5, 2) := by decide +kernel
theorem dX10_bounds_84 : decode cX10_bounds 84 = .ok (.laload, 1) := by decide +kernel
theorem dX10_bounds_85 : decode cX10_bounds 85 = .ok (.iload_n 1, 1) := by decide +kernel
theorem dX10_bounds_86 : decode cX10_bounds 86 = .ok (.invokestatic 82, 3) := by decide +kernel
theorem dX10_bounds_89 : decode cX10_bounds 89 = .ok (.istore 6, 2) := by decide +kernel
theorem dX10_bounds_91 : decode cX10_bounds 91 = .ok (.iload_n 3, 1) := by decide +kernel
theorem dX10_bounds_92 : decode cX10_bounds 92 = .ok (.ifCond .ne 13, 3) := by decide +kernel
theorem dX10_bounds_95 : decode cX10_bounds 95 = .ok (.iload 4, 2) := by decide +kernel
theorem dX10_bounds_97 : decode cX10_bounds 97 = .ok (.iload 6, 2) := by decide +kernel
theorem dX10_bounds_99 : decode cX10_bounds 99 = .ok (.invokestatic 227, 3) := by decide +kernel
theorem dX10_bounds_102 : decode cX10_bounds 102 = .ok (.goto 10, 3) := by decide +kernel
theorem dX10_bounds_105 : decode cX10_bounds 105 = .ok (.iload 4, 2) := by decide +kernel
theorem dX10_bounds_107 : decode cX10_bounds 107 = .ok (.iload 6, 2) := by decide +kernel
theorem dX10_bounds_109 : decode cX10_bounds 109 = .ok (.invokestatic 232, 3) := by decide +kernel
theorem dX10_bounds_112 : decode cX10_bounds 112 = .ok (.istore 4, 2) := by decide +kernel
theorem dX10_bounds_114 : decode cX10_bounds 114 = .ok (.iinc 5 1, 3) := by decide +kernel
theorem dX10_bounds_117 : decode cX10_bounds 117 = .ok (.goto (-54), 3) := by decide +kernel
theorem dX10_bounds_120 : decode cX10_bounds 120 = .ok (.iload 4, 2) := by decide +kernel
theorem dX10_bounds_122 : decode cX10_bounds 122 = .ok (.ireturn, 1) := by decide +kernel
theorem dX10_safe_0 : decode cX10_safe 0 = .ok (.aload_n 0, 1) := by decide +kernel
theorem dX10_safe_1 : decode cX10_safe 1 = .ok (.getfield 12, 3) := by decide +kernel
theorem dX10_safe_4 : decode cX10_safe 4 = .ok (.aload_n 0, 1) := by decide +kernel
theorem dX10_safe_5 : decode cX10_safe 5 = .ok (.getfield 20, 3) := by decide +kernel
theorem dX10_safe_8 : decode cX10_safe 8 = .ok (.invokevirtual 120, 3) := by decide +kernel
theorem dX10_safe_11 : decode cX10_safe 11 = .ok (.invokevirtual 235, 3) := by decide +kernel
theorem dX10_safe_14 : decode cX10_safe 14 = .ok (.iconst (-1), 1) := by decide +kernel
theorem dX10_safe_15 : decode cX10_safe 15 = .ok (.if_icmp .ne 7, 3) := by decide +kernel
theorem dX10_safe_18 : decode cX10_safe 18 = .ok (.iconst 1, 1) := by decide +kernel
theorem dX10_safe_19 : decode cX10_safe 19 = .ok (.goto 4, 3) := by decide +kernel
theorem dX10_safe_22 : decode cX10_safe 22 = .ok (.iconst 0, 1) := by decide +kernel
theorem dX10_safe_23 : decode cX10_safe 23 = .ok (.ireturn, 1) := by decide +kernel
theorem dX10_shortest_0 : decode cX10_shortest 0 = .ok (.iload_n 1, 1) := by decide +kernel
theorem dX10_shortest_1 : decode cX10_shortest 1 = .ok (.ifCond .lt 8, 3) := by decide +kernel
theorem dX10_shortest_4 : decode cX10_shortest 4 = .ok (.iload_n 1, 1) := by decide +kernel
theorem dX10_shortest_5 : decode cX10_shortest 5 = .ok (.iconst 3, 1) := by decide +kernel
theorem dX10_shortest_6 : decode cX10_shortest 6 = .ok (.if_icmp .le 7, 3) := by decide +kernel
theorem dX10_shortest_9 : decode cX10_shortest 9 = .ok (.ldc2_w 198, 3) := by decide +kernel
theorem dX10_shortest_12 : decode cX10_shortest 12 = .ok (.lreturn, 1) := by decide +kernel
theorem dX10_shortest_13 : decode cX10_shortest 13 = .ok (.aload_n 0, 1) := by decide +kernel
theorem dX10_shortest_14 : decode cX10_shortest 14 = .ok (.getfield 12, 3) := by decide +kernel
theorem dX10_shortest_17 : decode cX10_shortest 17 = .ok (.aload_n 0, 1) := by decide +kernel
theorem dX10_shortest_18 : decode cX10_shortest 18 = .ok (.getfield 20, 3) := by decide +kernel
theorem dX10_shortest_21 : decode cX10_shortest 21 = .ok (.invokevirtual 120, 3) := by decide +kernel
theorem dX10_shortest_24 : decode cX10_shortest 24 = .ok (.invokevirtual 235, 3) := by decide +kernel
theorem dX10_shortest_27 : decode cX10_shortest 27 = .ok (.istore_n 2, 1) := by decide +kernel
theorem dX10_shortest_28 : decode cX10_shortest 28 = .ok (.iload_n 2, 1) := by decide +kernel
theorem dX10_shortest_29 : decode cX10_shortest 29 = .ok (.iconst (-1), 1) := by decide +kernel
theorem dX10_shortest_30 : decode cX10_shortest 30 = .ok (.if_icmp .eq 7, 3) := by decide +kernel
theorem dX10_shortest_33 : decode cX10_shortest 33 = .ok (.iload_n 1, 1) := by decide +kernel
theorem dX10_shortest_34 : decode cX10_shortest 34 = .ok (.ifCond .ne 6, 3) := by decide +kernel
theorem dX10_shortest_37 : decode cX10_shortest 37 = .ok (.iload_n 2, 1) := by decide +kernel
theorem dX10_shortest_38 : decode cX10_shortest 38 = .ok (.i2l, 1) := by decide +kernel
theorem dX10_shortest_39 : decode cX10_shortest 39 = .ok (.lreturn, 1) := by decide +kernel
theorem dX10_shortest_40 : decode cX10_shortest 40 = .ok (.aload_n 0, 1) := by decide +kernel
theorem dX10_shortest_41 : decode cX10_shortest 41 = .ok (.getfield 48, 3) := by decide +kernel
theorem dX10_shortest_44 : decode cX10_shortest 44 = .ok (.aload_n 0, 1) := by decide +kernel
theorem dX10_shortest_45 : decode cX10_shortest 45 = .ok (.getfield 20, 3) := by decide +kernel
theorem dX10_shortest_48 : decode cX10_shortest 48 = .ok (.iload_n 2, 1) := by decide +kernel
theorem dX10_shortest_49 : decode cX10_shortest 49 = .ok (.invokevirtual 193, 3) := by decide +kernel
theorem dX10_shortest_52 : decode cX10_shortest 52 = .ok (.aload_n 0, 1) := by decide +kernel
theorem dX10_shortest_53 : decode cX10_shortest 53 = .ok (.iload_n 2, 1) := by decide +kernel
theorem dX10_shortest_54 : decode cX10_shortest 54 = .ok (.invokevirtual 238, 3) := by decide +kernel
theorem dX10_shortest_57 : decode cX10_shortest 57 = .ok (.istore_n 3, 1) := by decide +kernel
theorem dX10_shortest_58 : decode cX10_shortest 58 = .ok (.iload_n 1, 1) := by decide +kernel
theorem dX10_shortest_59 : decode cX10_shortest 59 = .ok (.iconst 2, 1) := by decide +kernel
theorem dX10_shortest_60 : decode cX10_shortest 60 = .ok (.if_icmp .ne 14, 3) := by decide +kernel
theorem dX10_shortest_63 : decode cX10_shortest 63 = .ok (.aload_n 0, 1) := by decide +kernel
theorem dX10_shortest_64 : decode cX10_shortest 64 = .ok (.getfield 48, 3) := by decide +kernel
theorem dX10_shortest_67 : decode cX10_shortest 67 = .ok (.getfield 216, 3) := by decide +kernel
theorem dX10_shortest_70 : decode cX10_shortest 70 = .ok (.iload_n 3, 1) := by decide +kernel
theorem dX10_shortest_71 : decode cX10_shortest 71 = .ok (.iaload, 1) := by decide +kernel
theorem dX10_shortest_72 : decode cX10_shortest 72 = .ok (.i2l, 1) := by decide +kernel
theorem dX10_shortest_73 : decode cX10_shortest 73 = .ok (.lreturn, 1) := by decide +kernel
theorem dX10_shortest_74 : decode cX10_shortest 74 = .ok (.iload_n 1, 1) := by decide +kernel
theorem dX10_shortest_75 : decode cX10_shortest 75 = .ok (.iconst 1, 1) := by decide +kernel
theorem dX10_shortest_76 : decode cX10_shortest 76 = .ok (.if_icmp .ne 15, 3) := by decide +kernel
theorem dX10_shortest_79 : decode cX10_shortest 79 = .ok (.aload_n 0, 1) := by decide +kernel
theorem dX10_shortest_80 : decode cX10_shortest 80 = .ok (.getfield 48, 3) := by decide +kernel
theorem dX10_shortest_83 : decode cX10_shortest 83 = .ok (.getfield 200, 3) := by decide +kernel
theorem dX10_shortest_86 : decode cX10_shortest 86 = .ok (.iload_n 3, 1) := by decide +kernel
theorem dX10_shortest_87 : decode cX10_shortest 87 = .ok (.laload, 1) := by decide +kernel
theorem dX10_shortest_88 : decode cX10_shortest 88 = .ok (.goto 19, 3) := by decide +kernel
theorem dX10_shortest_91 : decode cX10_shortest 91 = .ok (.aload_n 0, 1) := by decide +kernel
theorem dX10_shortest_92 : decode cX10_shortest 92 = .ok (.getfield 30, 3) := by decide +kernel
theorem dX10_shortest_95 : decode cX10_shortest 95 = .ok (.aload_n 0, 1) := by decide +kernel
theorem dX10_shortest_96 : decode cX10_shortest 96 = .ok (.getfield 48, 3) := by decide +kernel
theorem dX10_shortest_99 : decode cX10_shortest 99 = .ok (.getfield 200, 3) := by decide +kernel
theorem dX10_shortest_102 : decode cX10_shortest 102 = .ok (.iload_n 3, 1) := by decide +kernel
theorem dX10_shortest_103 : decode cX10_shortest 103 = .ok (.laload, 1) := by decide +kernel
theorem dX10_shortest_104 : decode cX10_shortest 104 = .ok (.invokevirtual 206, 3) := by decide +kernel
theorem dX10_shortest_107 : decode cX10_shortest 107 = .ok (.invokestatic 128, 3) := by decide +kernel
theorem dX10_shortest_110 : decode cX10_shortest 110 = .ok (.lreturn, 1) := by decide +kernel
theorem dX10_leastBroken_0 : decode cX10_leastBroken 0 = .ok (.aload_n 0, 1) := by decide +kernel
theorem dX10_leastBroken_1 : decode cX10_leastBroken 1 = .ok (.getfield 20, 3) := by decide +kernel
theorem dX10_leastBroken_4 : decode cX10_leastBroken 4 = .ok (.iload_n 1, 1) := by decide +kernel
theorem dX10_leastBroken_5 : decode cX10_leastBroken 5 = .ok (.aload_n 0, 1) := by decide +kernel
theorem dX10_leastBroken_6 : decode cX10_leastBroken 6 = .ok (.getfield 25, 3) := by decide +kernel
theorem dX10_leastBroken_9 : decode cX10_leastBroken 9 = .ok (.getfield 177, 3) := by decide +kernel
theorem dX10_leastBroken_12 : decode cX10_leastBroken 12 = .ok (.invokevirtual 223, 3) := by decide +kernel
theorem dX10_leastBroken_15 : decode cX10_leastBroken 15 = .ok (.istore_n 2, 1) := by decide +kernel
theorem dX10_leastBroken_16 : decode cX10_leastBroken 16 = .ok (.iconst 0, 1) := by decide +kernel
theorem dX10_leastBroken_17 : decode cX10_leastBroken 17 = .ok (.istore_n 3, 1) := by decide +kernel
theorem dX10_leastBroken_18 : decode cX10_leastBroken 18 = .ok (.iload_n 3, 1) := by decide +kernel
theorem dX10_leastBroken_19 : decode cX10_leastBroken 19 = .ok (.aload_n 0, 1) := by decide +kernel
theorem dX10_leastBroken_20 : decode cX10_leastBroken 20 = .ok (.getfield 48, 3) := by decide +kernel
theorem dX10_leastBroken_23 : decode cX10_leastBroken 23 = .ok (.getfield 197, 3) := by decide +kernel
theorem dX10_leastBroken_26 : decode cX10_leastBroken 26 = .ok (.iconst 1, 1) := by decide +kernel
theorem dX10_leastBroken_27 : decode cX10_leastBroken 27 = .ok (.isub, 1) := by decide +kernel
theorem dX10_leastBroken_28 : decode cX10_leastBroken 28 = .ok (.if_icmp .ge 30, 3) := by decide +kernel
theorem dX10_leastBroken_31 : decode cX10_leastBroken 31 = .ok (.aload_n 0, 1) := by decide +kernel
theorem dX10_leastBroken_32 : decode cX10_leastBroken 32 = .ok (.getfield 12, 3) := by decide +kernel
theorem dX10_leastBroken_35 : decode cX10_leastBroken 35 = .ok (.aload_n 0, 1) := by decide +kernel
theorem dX10_leastBroken_36 : decode cX10_leastBroken 36 = .ok (.getfield 48, 3) := by decide +kernel
theorem dX10_leastBroken_39 : decode cX10_leastBroken 39 = .ok (.getfield 216, 3) := by decide +kernel
theorem dX10_leastBroken_42 : decode cX10_leastBroken 42 = .ok (.iload_n 3, 1) := by decide +kernel
theorem dX10_leastBroken_43 : decode cX10_leastBroken 43 = .ok (.iaload, 1) := by decide +kernel
theorem dX10_leastBroken_44 : decode cX10_leastBroken 44 = .ok (.invokevirtual 220, 3) := by decide +kernel
theorem dX10_leastBroken_47 : decode cX10_leastBroken 47 = .ok (.iload_n 2, 1) := by decide +kernel
theorem dX10_leastBroken_48 : decode cX10_leastBroken 48 = .ok (.iand, 1) := by decide +kernel
theorem dX10_leastBroken_49 : decode cX10_leastBroken 49 = .ok (.ifCond .ne 9, 3) := by decide +kernel
theorem dX10_leastBroken_52 : decode cX10_leastBroken 52 = .ok (.iinc 3 1, 3) := by decide +kernel
theorem dX10_leastBroken_55 : decode cX10_leastBroken 55 = .ok (.goto (-37), 3) := by decide +kernel
theorem dX10_leastBroken_58 : decode cX10_leastBroken 58 = .ok (.iload_n 3, 1) := by decide +kernel
theorem dX10_leastBroken_59 : decode cX10_leastBroken 59 = .ok (.ireturn, 1) := by decide +kernel
theorem dX10_cost_0 : decode cX10_cost 0 = .ok (.iload_n 1, 1) := by decide +kernel
theorem dX10_cost_1 : decode cX10_cost 1 = .ok (.ifCond .eq 11, 3) := by decide +kernel
theorem dX10_cost_4 : decode cX10_cost 4 = .ok (.iload_n 1, 1) := by decide +kernel
theorem dX10_cost_5 : decode cX10_cost 5 = .ok (.iconst 1, 1) := by decide +kernel
theorem dX10_cost_6 : decode cX10_cost 6 = .ok (.if_icmp .eq 6, 3) := by decide +kernel
theorem dX10_cost_9 : decode cX10_cost 9 = .ok (.bipush (-101), 2) := by decide +kernel
theorem dX10_cost_11 : decode cX10_cost 11 = .ok (.ireturn, 1) := by decide +kernel
theorem dX10_cost_12 : decode cX10_cost 12 = .ok (.iload_n 2, 1) := by decide +kernel
theorem dX10_cost_13 : decode cX10_cost 13 = .ok (.iconst 1, 1) := by decide +kernel
theorem dX10_cost_14 : decode cX10_cost 14 = .ok (.if_icmp .lt 18, 3) := by decide +kernel
theorem dX10_cost_17 : decode cX10_cost 17 = .ok (.iload_n 2, 1) := by decide +kernel
theorem dX10_cost_18 : decode cX10_cost 18 = .ok (.iload_n 1, 1) := by decide +kernel
theorem dX10_cost_19 : decode cX10_cost 19 = .ok (.ifCond .ne 8, 3) := by decide +kernel
theorem dX10_cost_22 : decode cX10_cost 22 = .ok (.bipush 9, 2) := by decide +kernel
theorem dX10_cost_24 : decode cX10_cost 24 = .ok (.goto 5, 3) := by decide +kernel
theorem dX10_cost_27 : decode cX10_cost 27 = .ok (.bipush 99, 2) := by decide +kernel
theorem dX10_cost_29 : decode cX10_cost 29 = .ok (.if_icmp .le 6, 3) := by decide +kernel
theorem dX10_cost_32 : decode cX10_cost 32 = .ok (.bipush (-102), 2) := by decide +kernel
theorem dX10_cost_34 : decode cX10_cost 34 = .ok (.ireturn, 1) := by decide +kernel
theorem dX10_cost_35 : decode cX10_cost 35 = .ok (.iload_n 1, 1) := by decide +kernel
theorem dX10_cost_36 : decode cX10_cost 36 = .ok (.ifCond .ne 10, 3) := by decide +kernel
theorem dX10_cost_39 : decode cX10_cost 39 = .ok (.aload_n 0, 1) := by decide +kernel
theorem dX10_cost_40 : decode cX10_cost 40 = .ok (.getfield 59, 3) := by decide +kernel
theorem dX10_cost_43 : decode cX10_cost 43 = .ok (.goto 7, 3) := by decide +kernel
theorem dX10_cost_46 : decode cX10_cost 46 = .ok (.aload_n 0, 1) := by decide +kernel
theorem dX10_cost_47 : decode cX10_cost 47 = .ok (.getfield 63, 3) := by decide +kernel
theorem dX10_cost_50 : decode cX10_cost 50 = .ok (.istore_n 3, 1) := by decide +kernel
theorem dX10_cost_51 : decode cX10_cost 51 = .ok (.iload_n 1, 1) := by decide +kernel
theorem dX10_cost_52 : decode cX10_cost 52 = .ok (.ifCond .ne 11, 3) := by decide +kernel
theorem dX10_cost_55 : decode cX10_cost 55 = .ok (.aload_n 0, 1) := by decide +kernel
theorem dX10_cost_56 : decode cX10_cost 56 = .ok (.iload_n 2, 1) := by decide +kernel
theorem dX10_cost_57 : decode cX10_cost 57 = .ok (.putfield 59, 3) := by decide +kernel
theorem dX10_cost_60 : decode cX10_cost 60 = .ok (.goto 8, 3) := by decide +kernel
theorem dX10_cost_63 : decode cX10_cost 63 = .ok (.aload_n 0, 1) := by decide +kernel
theorem dX10_cost_64 : decode cX10_cost 64 = .ok (.iload_n 2, 1) := by decide +kernel
theorem dX10_cost_65 : decode cX10_cost 65 = .ok (.putfield 63, 3) := by decide +kernel
theorem dX10_cost_68 : decode cX10_cost 68 = .ok (.iload_n 3, 1) := by decide +kernel
theorem dX10_cost_69 : decode cX10_cost 69 = .ok (.ireturn, 1) := by decide +kernel
theorem dX10_fewest_0 : decode cX10_fewest 0 = .ok (.iload_n 1, 1) := by decide +kernel
theorem dX10_fewest_1 : decode cX10_fewest 1 = .ok (.bipush 10, 2) := by decide +kernel
theorem dX10_fewest_3 : decode cX10_fewest 3 = .ok (.isub, 1) := by decide +kernel
theorem dX10_fewest_4 : decode cX10_fewest 4 = .ok (.istore_n 2, 1) := by decide +kernel
theorem dX10_fewest_5 : decode cX10_fewest 5 = .ok (.iload_n 1, 1) := by decide +kernel
theorem dX10_fewest_6 : decode cX10_fewest 6 = .ok (.bipush 10, 2) := by decide +kernel
theorem dX10_fewest_8 : decode cX10_fewest 8 = .ok (.if_icmp .lt 13, 3) := by decide +kernel
theorem dX10_fewest_11 : decode cX10_fewest 11 = .ok (.iload_n 2, 1) := by decide +kernel
theorem dX10_fewest_12 : decode cX10_fewest 12 = .ok (.bipush 7, 2) := by decide +kernel
theorem dX10_fewest_14 : decode cX10_fewest 14 = .ok (.if_icmp .ge 7, 3) := by decide +kernel
theorem dX10_fewest_17 : decode cX10_fewest 17 = .ok (.iconst 1, 1) := by decide +kernel
theorem dX10_fewest_18 : decode cX10_fewest 18 = .ok (.goto 4, 3) := by decide +kernel
theorem dX10_fewest_21 : decode cX10_fewest 21 = .ok (.iconst 0, 1) := by decide +kernel
theorem dX10_fewest_22 : decode cX10_fewest 22 = .ok (.istore_n 3, 1) := by decide +kernel
theorem dX10_fewest_23 : decode cX10_fewest 23 = .ok (.iload_n 1, 1) := by decide +kernel
theorem dX10_fewest_24 : decode cX10_fewest 24 = .ok (.ifCond .eq 15, 3) := by decide +kernel
theorem dX10_fewest_27 : decode cX10_fewest 27 = .ok (.iload_n 1, 1) := by decide +kernel
theorem dX10_fewest_28 : decode cX10_fewest 28 = .ok (.iconst 1, 1) := by decide +kernel
theorem dX10_fewest_29 : decode cX10_fewest 29 = .ok (.if_icmp .eq 10, 3) := by decide +kernel
theorem dX10_fewest_32 : decode cX10_fewest 32 = .ok (.iload_n 3, 1) := by decide +kernel
theorem dX10_fewest_33 : decode cX10_fewest 33 = .ok (.ifCond .ne 6, 3) := by decide +kernel
theorem dX10_fewest_36 : decode cX10_fewest 36 = .ok (.bipush (-102), 2) := by decide +kernel
theorem dX10_fewest_38 : decode cX10_fewest 38 = .ok (.ireturn, 1) := by decide +kernel
theorem dX10_fewest_39 : decode cX10_fewest 39 = .ok (.aload_n 0, 1) := by decide +kernel
theorem dX10_fewest_40 : decode cX10_fewest 40 = .ok (.getfield 20, 3) := by decide +kernel
theorem dX10_fewest_43 : decode cX10_fewest 43 = .ok (.getfield 102, 3) := by decide +kernel
theorem dX10_fewest_46 : decode cX10_fewest 46 = .ok (.bipush 8, 2) := by decide +kernel
theorem dX10_fewest_48 : decode cX10_fewest 48 = .ok (.if_icmp .gt 12, 3) := by decide +kernel
theorem dX10_fewest_51 : decode cX10_fewest 51 = .ok (.aload_n 0, 1) := by decide +kernel
theorem dX10_fewest_52 : decode cX10_fewest 52 = .ok (.getfield 66, 3) := by decide +kernel
theorem dX10_fewest_55 : decode cX10_fewest 55 = .ok (.bipush 12, 2) := by decide +kernel
theorem dX10_fewest_57 : decode cX10_fewest 57 = .ok (.if_icmp .lt 6, 3) := by decide +kernel
theorem dX10_fewest_60 : decode cX10_fewest 60 = .ok (.bipush (-103), 2) := by decide +kernel
theorem dX10_fewest_62 : decode cX10_fewest 62 = .ok (.ireturn, 1) := by decide +kernel
theorem dX10_fewest_63 : decode cX10_fewest 63 = .ok (.aload_n 0, 1) := by decide +kernel
theorem dX10_fewest_64 : decode cX10_fewest 64 = .ok (.dup, 1) := by decide +kernel
theorem dX10_fewest_65 : decode cX10_fewest 65 = .ok (.getfield 66, 3) := by decide +kernel
theorem dX10_fewest_68 : decode cX10_fewest 68 = .ok (.iconst 1, 1) := by decide +kernel
theorem dX10_fewest_69 : decode cX10_fewest 69 = .ok (.iadd, 1) := by decide +kernel
theorem dX10_fewest_70 : decode cX10_fewest 70 = .ok (.putfield 66, 3) := by decide +kernel
theorem dX10_fewest_73 : decode cX10_fewest 73 = .ok (.aload_n 0, 1) := by decide +kernel
theorem dX10_fewest_74 : decode cX10_fewest 74 = .ok (.getfield 55, 3) := by decide +kernel
theorem dX10_fewest_77 : decode cX10_fewest 77 = .ok (.aload_n 0, 1) := by decide +kernel
theorem dX10_fewest_78 : decode cX10_fewest 78 = .ok (.getfield 20, 3) := by decide +kernel
theorem dX10_fewest_81 : decode cX10_fewest 81 = .ok (.aload_n 0, 1) := by decide +kernel
theorem dX10_fewest_82 : decode cX10_fewest 82 = .ok (.getfield 12, 3) := by decide +kernel
theorem dX10_fewest_85 : decode cX10_fewest 85 = .ok (.invokevirtual 241, 3) := by decide +kernel
theorem dX10_fewest_88 : decode cX10_fewest 88 = .ok (.aload_n 0, 1) := by decide +kernel
theorem dX10_fewest_89 : decode cX10_fewest 89 = .ok (.getfield 55, 3) := by decide +kernel
theorem dX10_fewest_92 : decode cX10_fewest 92 = .ok (.aload_n 0, 1) := by decide +kernel
theorem dX10_fewest_93 : decode cX10_fewest 93 = .ok (.getfield 20, 3) := by decide +kernel
theorem dX10_fewest_96 : decode cX10_fewest 96 = .ok (.aload_n 0, 1) := by decide +kernel
theorem dX10_fewest_97 : decode cX10_fewest 97 = .ok (.getfield 25, 3) := by decide +kernel
theorem dX10_fewest_100 : decode cX10_fewest 100 = .ok (.getfield 177, 3) := by decide +kernel
theorem dX10_fewest_103 : decode cX10_fewest 103 = .ok (.aload_n 0, 1) := by decide +kernel
theorem dX10_fewest_104 : decode cX10_fewest 104 = .ok (.getfield 59, 3) := by decide +kernel
theorem dX10_fewest_107 : decode cX10_fewest 107 = .ok (.aload_n 0, 1) := by decide +kernel
theorem dX10_fewest_108 : decode cX10_fewest 108 = .ok (.getfield 63, 3) := by decide +kernel
theorem dX10_fewest_111 : decode cX10_fewest 111 = .ok (.invokevirtual 245, 3) := by decide +kernel
theorem dX10_fewest_114 : decode cX10_fewest 114 = .ok (.iload_n 3, 1) := by decide +kernel
theorem dX10_fewest_115 : decode cX10_fewest 115 = .ok (.ifCond .eq 12, 3) := by decide +kernel
theorem dX10_fewest_118 : decode cX10_fewest 118 = .ok (.aload_n 0, 1) := by decide +kernel
theorem dX10_fewest_119 : decode cX10_fewest 119 = .ok (.getfield 55, 3) := by decide +kernel
theorem dX10_fewest_122 : decode cX10_fewest 122 = .ok (.iload_n 2, 1) := by decide +kernel
theorem dX10_fewest_123 : decode cX10_fewest 123 = .ok (.invokevirtual 249, 3) := by decide +kernel
theorem dX10_fewest_126 : decode cX10_fewest 126 = .ok (.ireturn, 1) := by decide +kernel
theorem dX10_fewest_127 : decode cX10_fewest 127 = .ok (.iload_n 1, 1) := by decide +kernel
theorem dX10_fewest_128 : decode cX10_fewest 128 = .ok (.ifCond .ne 13, 3) := by decide +kernel
theorem dX10_fewest_131 : decode cX10_fewest 131 = .ok (.aload_n 0, 1) := by decide +kernel
theorem dX10_fewest_132 : decode cX10_fewest 132 = .ok (.getfield 55, 3) := by decide +kernel
theorem dX10_fewest_135 : decode cX10_fewest 135 = .ok (.getfield 252, 3) := by decide +kernel
theorem dX10_fewest_138 : decode cX10_fewest 138 = .ok (.goto 10, 3) := by decide +kernel
theorem dX10_fewest_141 : decode cX10_fewest 141 = .ok (.aload_n 0, 1) := by decide +kernel
theorem dX10_fewest_142 : decode cX10_fewest 142 = .ok (.getfield 55, 3) := by decide +kernel
theorem dX10_fewest_145 : decode cX10_fewest 145 = .ok (.getfield 255, 3) := by decide +kernel
theorem dX10_fewest_148 : decode cX10_fewest 148 = .ok (.ireturn, 1) := by decide +kernel
theorem dX10_needless_0 : decode cX10_needless 0 = .ok (.aload_n 0, 1) := by decide +kernel
theorem dX10_needless_1 : decode cX10_needless 1 = .ok (.getfield 20, 3) := by decide +kernel
theorem dX10_needless_4 : decode cX10_needless 4 = .ok (.invokevirtual 120, 3) := by decide +kernel
theorem dX10_needless_7 : decode cX10_needless 7 = .ok (.istore_n 1, 1) := by decide +kernel
theorem dX10_needless_8 : decode cX10_needless 8 = .ok (.aload_n 0, 1) := by decide +kernel
theorem dX10_needless_9 : decode cX10_needless 9 = .ok (.getfield 20, 3) := by decide +kernel
theorem dX10_needless_12 : decode cX10_needless 12 = .ok (.iload_n 1, 1) := by decide +kernel
theorem dX10_needless_13 : decode cX10_needless 13 = .ok (.invokevirtual 124, 3) := by decide +kernel
theorem dX10_needless_16 : decode cX10_needless 16 = .ok (.lstore_n 2, 1) := by decide +kernel
theorem dX10_needless_17 : decode cX10_needless 17 = .ok (.iconst 0, 1) := by decide +kernel
theorem dX10_needless_18 : decode cX10_needless 18 = .ok (.istore 4, 2) := by decide +kernel
theorem dX10_needless_20 : decode cX10_needless 20 = .ok (.iconst 0, 1) := by decide +kernel
theorem dX10_needless_21 : decode cX10_needless 21 = .ok (.istore 5, 2) := by decide +kernel
theorem dX10_needless_23 : decode cX10_needless 23 = .ok (.iload 5, 2) := by decide +kernel
theorem dX10_needless_25 : decode cX10_needless 25 = .ok (.aload_n 0, 1) := by decide +kernel
theorem dX10_needless_26 : decode cX10_needless 26 = .ok (.getfield 20, 3) := by decide +kernel
theorem dX10_needless_29 : decode cX10_needless 29 = .ok (.getfield 102, 3) := by decide +kernel
theorem dX10_needless_32 : decode cX10_needless 32 = .ok (.if_icmp .ge 64, 3) := by decide +kernel
theorem dX10_needless_35 : decode cX10_needless 35 = .ok (.iload_n 1, 1) := by decide +kernel
theorem dX10_needless_36 : decode cX10_needless 36 = .ok (.iconst 1, 1) := by decide +kernel
theorem dX10_needless_37 : decode cX10_needless 37 = .ok (.iload 5, 2) := by decide +kernel
theorem dX10_needless_39 : decode cX10_needless 39 = .ok (.ishl, 1) := by decide +kernel
theorem dX10_needless_40 : decode cX10_needless 40 = .ok (.iand, 1) := by decide +kernel
theorem dX10_needless_41 : decode cX10_needless 41 = .ok (.istore 6, 2) := by decide +kernel
theorem dX10_needless_43 : decode cX10_needless 43 = .ok (.iload_n 1, 1) := by decide +kernel
theorem dX10_needless_44 : decode cX10_needless 44 = .ok (.iload 6, 2) := by decide +kernel
theorem dX10_needless_46 : decode cX10_needless 46 = .ok (.iconst (-1), 1) := by decide +kernel
theorem dX10_needless_47 : decode cX10_needless 47 = .ok (.ixor, 1) := by decide +kernel
theorem dX10_needless_48 : decode cX10_needless 48 = .ok (.iand, 1) := by decide +kernel
theorem dX10_needless_49 : decode cX10_needless 49 = .ok (.istore 7, 2) := by decide +kernel
theorem dX10_needless_51 : decode cX10_needless 51 = .ok (.iload 6, 2) := by decide +kernel
theorem dX10_needless_53 : decode cX10_needless 53 = .ok (.ifCond .eq 37, 3) := by decide +kernel
theorem dX10_needless_56 : decode cX10_needless 56 = .ok (.aload_n 0, 1) := by decide +kernel
theorem dX10_needless_57 : decode cX10_needless 57 = .ok (.getfield 20, 3) := by decide +kernel
theorem dX10_needless_60 : decode cX10_needless 60 = .ok (.iload 7, 2) := by decide +kernel
theorem dX10_needless_62 : decode cX10_needless 62 = .ok (.invokevirtual 124, 3) := by decide +kernel
theorem dX10_needless_65 : decode cX10_needless 65 = .ok (.lload_n 2, 1) := by decide +kernel
theorem dX10_needless_66 : decode cX10_needless 66 = .ok (.lcmp, 1) := by decide +kernel
theorem dX10_needless_67 : decode cX10_needless 67 = .ok (.ifCond .ne 23, 3) := by decide +kernel
theorem dX10_needless_70 : decode cX10_needless 70 = .ok (.aload_n 0, 1) := by decide +kernel
theorem dX10_needless_71 : decode cX10_needless 71 = .ok (.getfield 12, 3) := by decide +kernel
theorem dX10_needless_74 : decode cX10_needless 74 = .ok (.iload 7, 2) := by decide +kernel
theorem dX10_needless_76 : decode cX10_needless 76 = .ok (.invokevirtual 235, 3) := by decide +kernel
theorem dX10_needless_79 : decode cX10_needless 79 = .ok (.iconst (-1), 1) := by decide +kernel
theorem dX10_needless_80 : decode cX10_needless 80 = .ok (.if_icmp .ne 10, 3) := by decide +kernel
theorem dX10_needless_83 : decode cX10_needless 83 = .ok (.iload 4, 2) := by decide +kernel
theorem dX10_needless_85 : decode cX10_needless 85 = .ok (.iload 6, 2) := by decide +kernel
theorem dX10_needless_87 : decode cX10_needless 87 = .ok (.ior, 1) := by decide +kernel
theorem dX10_needless_88 : decode cX10_needless 88 = .ok (.istore 4, 2) := by decide +kernel
theorem dX10_needless_90 : decode cX10_needless 90 = .ok (.iinc 5 1, 3) := by decide +kernel
theorem dX10_needless_93 : decode cX10_needless 93 = .ok (.goto (-70), 3) := by decide +kernel
theorem dX10_needless_96 : decode cX10_needless 96 = .ok (.iload 4, 2) := by decide +kernel
theorem dX10_needless_98 : decode cX10_needless 98 = .ok (.ireturn, 1) := by decide +kernel
theorem dX10_order_0 : decode cX10_order 0 = .ok (.aload_n 0, 1) := by decide +kernel
theorem dX10_order_1 : decode cX10_order 1 = .ok (.getfield 25, 3) := by decide +kernel
theorem dX10_order_4 : decode cX10_order 4 = .ok (.iload_n 1, 1) := by decide +kernel
theorem dX10_order_5 : decode cX10_order 5 = .ok (.invokevirtual 97, 3) := by decide +kernel
theorem dX10_order_8 : decode cX10_order 8 = .ok (.ifCond .eq 30, 3) := by decide +kernel
theorem dX10_order_11 : decode cX10_order 11 = .ok (.aload_n 0, 1) := by decide +kernel
theorem dX10_order_12 : decode cX10_order 12 = .ok (.getfield 20, 3) := by decide +kernel
theorem dX10_order_15 : decode cX10_order 15 = .ok (.iload_n 2, 1) := by decide +kernel
theorem dX10_order_16 : decode cX10_order 16 = .ok (.invokevirtual 258, 3) := by decide +kernel
theorem dX10_order_19 : decode cX10_order 19 = .ok (.ifCond .eq 19, 3) := by decide +kernel
theorem dX10_order_22 : decode cX10_order 22 = .ok (.aload_n 0, 1) := by decide +kernel
theorem dX10_order_23 : decode cX10_order 23 = .ok (.getfield 20, 3) := by decide +kernel
theorem dX10_order_26 : decode cX10_order 26 = .ok (.iload_n 3, 1) := by decide +kernel
theorem dX10_order_27 : decode cX10_order 27 = .ok (.invokevirtual 258, 3) := by decide +kernel
theorem dX10_order_30 : decode cX10_order 30 = .ok (.ifCond .eq 8, 3) := by decide +kernel
theorem dX10_order_33 : decode cX10_order 33 = .ok (.iload_n 2, 1) := by decide +kernel
theorem dX10_order_34 : decode cX10_order 34 = .ok (.iload_n 3, 1) := by decide +kernel
theorem dX10_order_35 : decode cX10_order 35 = .ok (.if_icmp .ne 6, 3) := by decide +kernel
theorem dX10_order_38 : decode cX10_order 38 = .ok (.bipush (-101), 2) := by decide +kernel
theorem dX10_order_40 : decode cX10_order 40 = .ok (.ireturn, 1) := by decide +kernel
theorem dX10_order_41 : decode cX10_order 41 = .ok (.aload_n 0, 1) := by decide +kernel
theorem dX10_order_42 : decode cX10_order 42 = .ok (.getfield 20, 3) := by decide +kernel
theorem dX10_order_45 : decode cX10_order 45 = .ok (.iload_n 2, 1) := by decide +kernel
theorem dX10_order_46 : decode cX10_order 46 = .ok (.invokevirtual 261, 3) := by decide +kernel
theorem dX10_order_49 : decode cX10_order 49 = .ok (.istore 4, 2) := by decide +kernel
theorem dX10_order_51 : decode cX10_order 51 = .ok (.iload 4, 2) := by decide +kernel
theorem dX10_order_53 : decode cX10_order 53 = .ok (.aload_n 0, 1) := by decide +kernel
theorem dX10_order_54 : decode cX10_order 54 = .ok (.getfield 20, 3) := by decide +kernel
theorem dX10_order_57 : decode cX10_order 57 = .ok (.iload_n 3, 1) := by decide +kernel
theorem dX10_order_58 : decode cX10_order 58 = .ok (.invokevirtual 261, 3) := by decide +kernel
theorem dX10_order_61 : decode cX10_order 61 = .ok (.if_icmp .ne 22, 3) := by decide +kernel
theorem dX10_order_64 : decode cX10_order 64 = .ok (.iload 4, 2) := by decide +kernel
theorem dX10_order_66 : decode cX10_order 66 = .ok (.aload_n 0, 1) := by decide +kernel
theorem dX10_order_67 : decode cX10_order 67 = .ok (.getfield 20, 3) := by decide +kernel
theorem dX10_order_70 : decode cX10_order 70 = .ok (.aload_n 0, 1) := by decide +kernel
theorem dX10_order_71 : decode cX10_order 71 = .ok (.getfield 20, 3) := by decide +kernel
theorem dX10_order_74 : decode cX10_order 74 = .ok (.getfield 102, 3) := by decide +kernel
theorem dX10_order_77 : decode cX10_order 77 = .ok (.invokevirtual 264, 3) := by decide +kernel
theorem dX10_order_80 : decode cX10_order 80 = .ok (.if_icmp .ge 6, 3) := by decide +kernel
theorem dX10_order_83 : decode cX10_order 83 = .ok (.bipush (-103), 2) := by decide +kernel
theorem dX10_order_85 : decode cX10_order 85 = .ok (.ireturn, 1) := by decide +kernel
theorem dX10_order_86 : decode cX10_order 86 = .ok (.aload_n 0, 1) := by decide +kernel
theorem dX10_order_87 : decode cX10_order 87 = .ok (.getfield 20, 3) := by decide +kernel
theorem dX10_order_90 : decode cX10_order 90 = .ok (.iconst 0, 1) := by decide +kernel
theorem dX10_order_91 : decode cX10_order 91 = .ok (.iload 4, 2) := by decide +kernel
theorem dX10_order_93 : decode cX10_order 93 = .ok (.invokevirtual 267, 3) := by decide +kernel
theorem dX10_order_96 : decode cX10_order 96 = .ok (.iconst 1, 1) := by decide +kernel
theorem dX10_order_97 : decode cX10_order 97 = .ok (.iload_n 3, 1) := by decide +kernel
theorem dX10_order_98 : decode cX10_order 98 = .ok (.ishl, 1) := by decide +kernel
theorem dX10_order_99 : decode cX10_order 99 = .ok (.ior, 1) := by decide +kernel
theorem dX10_order_100 : decode cX10_order 100 = .ok (.istore 5, 2) := by decide +kernel
theorem dX10_order_102 : decode cX10_order 102 = .ok (.aload_n 0, 1) := by decide +kernel
theorem dX10_order_103 : decode cX10_order 103 = .ok (.getfield 20, 3) := by decide +kernel
theorem dX10_order_106 : decode cX10_order 106 = .ok (.iload 4, 2) := by decide +kernel
theorem dX10_order_108 : decode cX10_order 108 = .ok (.aload_n 0, 1) := by decide +kernel
theorem dX10_order_109 : decode cX10_order 109 = .ok (.getfield 20, 3) := by decide +kernel
theorem dX10_order_112 : decode cX10_order 112 = .ok (.iload_n 2, 1) := by decide +kernel
theorem dX10_order_113 : decode cX10_order 113 = .ok (.invokevirtual 270, 3) := by decide +kernel
theorem dX10_order_116 : decode cX10_order 116 = .ok (.invokevirtual 267, 3) := by decide +kernel
theorem dX10_order_119 : decode cX10_order 119 = .ok (.iconst 1, 1) := by decide +kernel
theorem dX10_order_120 : decode cX10_order 120 = .ok (.iload_n 2, 1) := by decide +kernel
theorem dX10_order_121 : decode cX10_order 121 = .ok (.ishl, 1) := by decide +kernel
theorem dX10_order_122 : decode cX10_order 122 = .ok (.iconst 1, 1) := by decide +kernel
theorem dX10_order_123 : decode cX10_order 123 = .ok (.iload_n 3, 1) := by decide +kernel
theorem dX10_order_124 : decode cX10_order 124 = .ok (.ishl, 1) := by decide +kernel
theorem dX10_order_125 : decode cX10_order 125 = .ok (.ior, 1) := by decide +kernel
theorem dX10_order_126 : decode cX10_order 126 = .ok (.iconst (-1), 1) := by decide +kernel
theorem dX10_order_127 : decode cX10_order 127 = .ok (.ixor, 1) := by decide +kernel
theorem dX10_order_128 : decode cX10_order 128 = .ok (.iand, 1) := by decide +kernel
theorem dX10_order_129 : decode cX10_order 129 = .ok (.istore 6, 2) := by decide +kernel
theorem dX10_order_131 : decode cX10_order 131 = .ok (.iconst 1, 1) := by decide +kernel
theorem dX10_order_132 : decode cX10_order 132 = .ok (.iload 6, 2) := by decide +kernel
theorem dX10_order_134 : decode cX10_order 134 = .ok (.invokestatic 273, 3) := by decide +kernel
theorem dX10_order_137 : decode cX10_order 137 = .ok (.ishl, 1) := by decide +kernel
theorem dX10_order_138 : decode cX10_order 138 = .ok (.istore 7, 2) := by decide +kernel
theorem dX10_order_140 : decode cX10_order 140 = .ok (.iconst 0, 1) := by decide +kernel
theorem dX10_order_141 : decode cX10_order 141 = .ok (.istore 8, 2) := by decide +kernel
theorem dX10_order_143 : decode cX10_order 143 = .ok (.iconst 0, 1) := by decide +kernel
theorem dX10_order_144 : decode cX10_order 144 = .ok (.istore 9, 2) := by decide +kernel
theorem dX10_order_146 : decode cX10_order 146 = .ok (.iconst 0, 1) := by decide +kernel
theorem dX10_order_147 : decode cX10_order 147 = .ok (.istore 10, 2) := by decide +kernel
theorem dX10_order_149 : decode cX10_order 149 = .ok (.iload 10, 2) := by decide +kernel
theorem dX10_order_151 : decode cX10_order 151 = .ok (.iload 7, 2) := by decide +kernel
theorem dX10_order_153 : decode cX10_order 153 = .ok (.if_icmp .ge 39, 3) := by decide +kernel
theorem dX10_order_156 : decode cX10_order 156 = .ok (.iload 8, 2) := by decide +kernel
theorem dX10_order_158 : decode cX10_order 158 = .ok (.aload_n 0, 1) := by decide +kernel
theorem dX10_order_159 : decode cX10_order 159 = .ok (.getfield 12, 3) := by decide +kernel
theorem dX10_order_162 : decode cX10_order 162 = .ok (.iload 5, 2) := by decide +kernel
theorem dX10_order_164 : decode cX10_order 164 = .ok (.iload 9, 2) := by decide +kernel
theorem dX10_order_166 : decode cX10_order 166 = .ok (.ior, 1) := by decide +kernel
theorem dX10_order_167 : decode cX10_order 167 = .ok (.invokevirtual 220, 3) := by decide +kernel
theorem dX10_order_170 : decode cX10_order 170 = .ok (.iload_n 1, 1) := by decide +kernel
theorem dX10_order_171 : decode cX10_order 171 = .ok (.ishr, 1) := by decide +kernel
theorem dX10_order_172 : decode cX10_order 172 = .ok (.iconst 1, 1) := by decide +kernel
theorem dX10_order_173 : decode cX10_order 173 = .ok (.iand, 1) := by decide +kernel
theorem dX10_order_174 : decode cX10_order 174 = .ok (.iadd, 1) := by decide +kernel
theorem dX10_order_175 : decode cX10_order 175 = .ok (.istore 8, 2) := by decide +kernel
theorem dX10_order_177 : decode cX10_order 177 = .ok (.iload 9, 2) := by decide +kernel
theorem dX10_order_179 : decode cX10_order 179 = .ok (.iload 6, 2) := by decide +kernel
theorem dX10_order_181 : decode cX10_order 181 = .ok (.invokestatic 278, 3) := by decide +kernel
theorem dX10_order_184 : decode cX10_order 184 = .ok (.istore 9, 2) := by decide +kernel
theorem dX10_order_186 : decode cX10_order 186 = .ok (.iinc 10 1, 3) := by decide +kernel
theorem dX10_order_189 : decode cX10_order 189 = .ok (.goto (-40), 3) := by decide +kernel
theorem dX10_order_192 : decode cX10_order 192 = .ok (.iload 8, 2) := by decide +kernel
theorem dX10_order_194 : decode cX10_order 194 = .ok (.ireturn, 1) := by decide +kernel
theorem dX10_count_0 : decode cX10_count 0 = .ok (.iload_n 1, 1) := by decide +kernel
theorem dX10_count_1 : decode cX10_count 1 = .ok (.tableswitch 99 0 6 #[43, 51, 59, 67, 75, 83, 94], 43) := by decide +kernel
theorem dX10_count_44 : decode cX10_count 44 = .ok (.aload_n 0, 1) := by decide +kernel
theorem dX10_count_45 : decode cX10_count 45 = .ok (.getfield 20, 3) := by decide +kernel
theorem dX10_count_48 : decode cX10_count 48 = .ok (.getfield 102, 3) := by decide +kernel
theorem dX10_count_51 : decode cX10_count 51 = .ok (.ireturn, 1) := by decide +kernel
theorem dX10_count_52 : decode cX10_count 52 = .ok (.aload_n 0, 1) := by decide +kernel
theorem dX10_count_53 : decode cX10_count 53 = .ok (.getfield 25, 3) := by decide +kernel
theorem dX10_count_56 : decode cX10_count 56 = .ok (.getfield 153, 3) := by decide +kernel
theorem dX10_count_59 : decode cX10_count 59 = .ok (.ireturn, 1) := by decide +kernel
theorem dX10_count_60 : decode cX10_count 60 = .ok (.aload_n 0, 1) := by decide +kernel
theorem dX10_count_61 : decode cX10_count 61 = .ok (.getfield 30, 3) := by decide +kernel
theorem dX10_count_64 : decode cX10_count 64 = .ok (.getfield 171, 3) := by decide +kernel
theorem dX10_count_67 : decode cX10_count 67 = .ok (.ireturn, 1) := by decide +kernel
theorem dX10_count_68 : decode cX10_count 68 = .ok (.aload_n 0, 1) := by decide +kernel
theorem dX10_count_69 : decode cX10_count 69 = .ok (.getfield 34, 3) := by decide +kernel
theorem dX10_count_72 : decode cX10_count 72 = .ok (.getfield 140, 3) := by decide +kernel
theorem dX10_count_75 : decode cX10_count 75 = .ok (.ireturn, 1) := by decide +kernel
theorem dX10_count_76 : decode cX10_count 76 = .ok (.aload_n 0, 1) := by decide +kernel
theorem dX10_count_77 : decode cX10_count 77 = .ok (.getfield 20, 3) := by decide +kernel
theorem dX10_count_80 : decode cX10_count 80 = .ok (.invokevirtual 281, 3) := by decide +kernel
theorem dX10_count_83 : decode cX10_count 83 = .ok (.ireturn, 1) := by decide +kernel
theorem dX10_count_84 : decode cX10_count 84 = .ok (.aload_n 0, 1) := by decide +kernel
theorem dX10_count_85 : decode cX10_count 85 = .ok (.getfield 20, 3) := by decide +kernel
theorem dX10_count_88 : decode cX10_count 88 = .ok (.invokevirtual 120, 3) := by decide +kernel
theorem dX10_count_91 : decode cX10_count 91 = .ok (.invokestatic 273, 3) := by decide +kernel
theorem dX10_count_94 : decode cX10_count 94 = .ok (.ireturn, 1) := by decide +kernel
theorem dX10_count_95 : decode cX10_count 95 = .ok (.aload_n 0, 1) := by decide +kernel
theorem dX10_count_96 : decode cX10_count 96 = .ok (.getfield 66, 3) := by decide +kernel
theorem dX10_count_99 : decode cX10_count 99 = .ok (.ireturn, 1) := by decide +kernel
theorem dX10_count_100 : decode cX10_count 100 = .ok (.bipush (-102), 2) := by decide +kernel
theorem dX10_count_102 : decode cX10_count 102 = .ok (.ireturn, 1) := by decide +kernel
theorem dX10_digest_0 : decode cX10_digest 0 = .ok (.aload_n 0, 1) := by decide +kernel
theorem dX10_digest_1 : decode cX10_digest 1 = .ok (.ldc2_w 284, 3) := by decide +kernel
theorem dX10_digest_4 : decode cX10_digest 4 = .ok (.aload_n 0, 1) := by decide +kernel
theorem dX10_digest_5 : decode cX10_digest 5 = .ok (.getfield 20, 3) := by decide +kernel
theorem dX10_digest_8 : decode cX10_digest 8 = .ok (.getfield 76, 3) := by decide +kernel
theorem dX10_digest_11 : decode cX10_digest 11 = .ok (.invokestatic 128, 3) := by decide +kernel
theorem dX10_digest_14 : decode cX10_digest 14 = .ok (.invokestatic 286, 3) := by decide +kernel
theorem dX10_digest_17 : decode cX10_digest 17 = .ok (.invokevirtual 290, 3) := by decide +kernel
theorem dX10_digest_20 : decode cX10_digest 20 = .ok (.lstore_n 1, 1) := by decide +kernel
theorem dX10_digest_21 : decode cX10_digest 21 = .ok (.aload_n 0, 1) := by decide +kernel
theorem dX10_digest_22 : decode cX10_digest 22 = .ok (.getfield 25, 3) := by decide +kernel
theorem dX10_digest_25 : decode cX10_digest 25 = .ok (.aload_n 0, 1) := by decide +kernel
theorem dX10_digest_26 : decode cX10_digest 26 = .ok (.getfield 20, 3) := by decide +kernel
theorem dX10_digest_29 : decode cX10_digest 29 = .ok (.getfield 76, 3) := by decide +kernel
theorem dX10_digest_32 : decode cX10_digest 32 = .ok (.invokevirtual 187, 3) := by decide +kernel
theorem dX10_digest_35 : decode cX10_digest 35 = .ok (.istore_n 3, 1) := by decide +kernel
theorem dX10_digest_36 : decode cX10_digest 36 = .ok (.iconst 0, 1) := by decide +kernel
theorem dX10_digest_37 : decode cX10_digest 37 = .ok (.istore 4, 2) := by decide +kernel
theorem dX10_digest_39 : decode cX10_digest 39 = .ok (.iload 4, 2) := by decide +kernel
theorem dX10_digest_41 : decode cX10_digest 41 = .ok (.aload_n 0, 1) := by decide +kernel
theorem dX10_digest_42 : decode cX10_digest 42 = .ok (.getfield 25, 3) := by decide +kernel
theorem dX10_digest_45 : decode cX10_digest 45 = .ok (.getfield 153, 3) := by decide +kernel
theorem dX10_digest_48 : decode cX10_digest 48 = .ok (.if_icmp .ge 41, 3) := by decide +kernel
theorem dX10_digest_51 : decode cX10_digest 51 = .ok (.lload_n 1, 1) := by decide +kernel
theorem dX10_digest_52 : decode cX10_digest 52 = .ok (.aload_n 0, 1) := by decide +kernel
theorem dX10_digest_53 : decode cX10_digest 53 = .ok (.getfield 25, 3) := by decide +kernel
theorem dX10_digest_56 : decode cX10_digest 56 = .ok (.getfield 177, 3) := by decide +kernel
theorem dX10_digest_59 : decode cX10_digest 59 = .ok (.iload 4, 2) := by decide +kernel
theorem dX10_digest_61 : decode cX10_digest 61 = .ok (.ishr, 1) := by decide +kernel
theorem dX10_digest_62 : decode cX10_digest 62 = .ok (.iconst 1, 1) := by decide +kernel
theorem dX10_digest_63 : decode cX10_digest 63 = .ok (.iand, 1) := by decide +kernel
theorem dX10_digest_64 : decode cX10_digest 64 = .ok (.i2l, 1) := by decide +kernel
theorem dX10_digest_65 : decode cX10_digest 65 = .ok (.invokestatic 286, 3) := by decide +kernel
theorem dX10_digest_68 : decode cX10_digest 68 = .ok (.lstore_n 1, 1) := by decide +kernel
theorem dX10_digest_69 : decode cX10_digest 69 = .ok (.lload_n 1, 1) := by decide +kernel
theorem dX10_digest_70 : decode cX10_digest 70 = .ok (.iload_n 3, 1) := by decide +kernel
theorem dX10_digest_71 : decode cX10_digest 71 = .ok (.iload 4, 2) := by decide +kernel
theorem dX10_digest_73 : decode cX10_digest 73 = .ok (.ishr, 1) := by decide +kernel
theorem dX10_digest_74 : decode cX10_digest 74 = .ok (.iconst 1, 1) := by decide +kernel
theorem dX10_digest_75 : decode cX10_digest 75 = .ok (.iand, 1) := by decide +kernel
theorem dX10_digest_76 : decode cX10_digest 76 = .ok (.iconst 1, 1) := by decide +kernel
theorem dX10_digest_77 : decode cX10_digest 77 = .ok (.ixor, 1) := by decide +kernel
theorem dX10_digest_78 : decode cX10_digest 78 = .ok (.i2l, 1) := by decide +kernel
theorem dX10_digest_79 : decode cX10_digest 79 = .ok (.invokestatic 286, 3) := by decide +kernel
theorem dX10_digest_82 : decode cX10_digest 82 = .ok (.lstore_n 1, 1) := by decide +kernel
theorem dX10_digest_83 : decode cX10_digest 83 = .ok (.iinc 4 1, 3) := by decide +kernel
theorem dX10_digest_86 : decode cX10_digest 86 = .ok (.goto (-47), 3) := by decide +kernel
theorem dX10_digest_89 : decode cX10_digest 89 = .ok (.iconst 0, 1) := by decide +kernel
theorem dX10_digest_90 : decode cX10_digest 90 = .ok (.istore 4, 2) := by decide +kernel
theorem dX10_digest_92 : decode cX10_digest 92 = .ok (.iload 4, 2) := by decide +kernel
theorem dX10_digest_94 : decode cX10_digest 94 = .ok (.aload_n 0, 1) := by decide +kernel
theorem dX10_digest_95 : decode cX10_digest 95 = .ok (.getfield 20, 3) := by decide +kernel
theorem dX10_digest_98 : decode cX10_digest 98 = .ok (.getfield 102, 3) := by decide +kernel
theorem dX10_digest_101 : decode cX10_digest 101 = .ok (.if_icmp .gt 35, 3) := by decide +kernel
theorem dX10_digest_104 : decode cX10_digest 104 = .ok (.aload_n 0, 1) := by decide +kernel
theorem dX10_digest_105 : decode cX10_digest 105 = .ok (.getfield 48, 3) := by decide +kernel
theorem dX10_digest_108 : decode cX10_digest 108 = .ok (.aload_n 0, 1) := by decide +kernel
theorem dX10_digest_109 : decode cX10_digest 109 = .ok (.getfield 20, 3) := by decide +kernel
theorem dX10_digest_112 : decode cX10_digest 112 = .ok (.iload 4, 2) := by decide +kernel
theorem dX10_digest_114 : decode cX10_digest 114 = .ok (.invokevirtual 193, 3) := by decide +kernel
theorem dX10_digest_117 : decode cX10_digest 117 = .ok (.lload_n 1, 1) := by decide +kernel
theorem dX10_digest_118 : decode cX10_digest 118 = .ok (.aload_n 0, 1) := by decide +kernel
theorem dX10_digest_119 : decode cX10_digest 119 = .ok (.getfield 48, 3) := by decide +kernel
theorem dX10_digest_122 : decode cX10_digest 122 = .ok (.getfield 197, 3) := by decide +kernel
theorem dX10_digest_125 : decode cX10_digest 125 = .ok (.i2l, 1) := by decide +kernel
theorem dX10_digest_126 : decode cX10_digest 126 = .ok (.invokestatic 286, 3) := by decide +kernel
theorem dX10_digest_129 : decode cX10_digest 129 = .ok (.lstore_n 1, 1) := by decide +kernel
theorem dX10_digest_130 : decode cX10_digest 130 = .ok (.iinc 4 1, 3) := by decide +kernel
theorem dX10_digest_133 : decode cX10_digest 133 = .ok (.goto (-41), 3) := by decide +kernel
theorem dX10_digest_136 : decode cX10_digest 136 = .ok (.lload_n 1, 1) := by decide +kernel
theorem dX10_digest_137 : decode cX10_digest 137 = .ok (.aload_n 0, 1) := by decide +kernel
theorem dX10_digest_138 : decode cX10_digest 138 = .ok (.getfield 30, 3) := by decide +kernel
theorem dX10_digest_141 : decode cX10_digest 141 = .ok (.aload_n 0, 1) := by decide +kernel
theorem dX10_digest_142 : decode cX10_digest 142 = .ok (.getfield 20, 3) := by decide +kernel
theorem dX10_digest_145 : decode cX10_digest 145 = .ok (.getfield 76, 3) := by decide +kernel
theorem dX10_digest_148 : decode cX10_digest 148 = .ok (.invokevirtual 206, 3) := by decide +kernel
theorem dX10_digest_151 : decode cX10_digest 151 = .ok (.invokestatic 128, 3) := by decide +kernel
theorem dX10_digest_154 : decode cX10_digest 154 = .ok (.invokestatic 286, 3) := by decide +kernel
theorem dX10_digest_157 : decode cX10_digest 157 = .ok (.lstore_n 1, 1) := by decide +kernel
theorem dX10_digest_158 : decode cX10_digest 158 = .ok (.lload_n 1, 1) := by decide +kernel
theorem dX10_digest_159 : decode cX10_digest 159 = .ok (.aload_n 0, 1) := by decide +kernel
theorem dX10_digest_160 : decode cX10_digest 160 = .ok (.getfield 59, 3) := by decide +kernel
theorem dX10_digest_163 : decode cX10_digest 163 = .ok (.i2l, 1) := by decide +kernel
theorem dX10_digest_164 : decode cX10_digest 164 = .ok (.invokestatic 286, 3) := by decide +kernel
theorem dX10_digest_167 : decode cX10_digest 167 = .ok (.aload_n 0, 1) := by decide +kernel
theorem dX10_digest_168 : decode cX10_digest 168 = .ok (.getfield 63, 3) := by decide +kernel
theorem dX10_digest_171 : decode cX10_digest 171 = .ok (.i2l, 1) := by decide +kernel
theorem dX10_digest_172 : decode cX10_digest 172 = .ok (.invokestatic 286, 3) := by decide +kernel
theorem dX10_digest_175 : decode cX10_digest 175 = .ok (.lstore_n 1, 1) := by decide +kernel
theorem dX10_digest_176 : decode cX10_digest 176 = .ok (.iconst 0, 1) := by decide +kernel
theorem dX10_digest_177 : decode cX10_digest 177 = .ok (.istore 4, 2) := by decide +kernel
theorem dX10_digest_179 : decode cX10_digest 179 = .ok (.iload 4, 2) := by decide +kernel
theorem dX10_digest_181 : decode cX10_digest 181 = .ok (.aload_n 0, 1) := by decide +kernel
theorem dX10_digest_182 : decode cX10_digest 182 = .ok (.getfield 34, 3) := by decide +kernel
theorem dX10_digest_185 : decode cX10_digest 185 = .ok (.getfield 140, 3) := by decide +kernel
theorem dX10_digest_188 : decode cX10_digest 188 = .ok (.if_icmp .ge 25, 3) := by decide +kernel
theorem dX10_digest_191 : decode cX10_digest 191 = .ok (.lload_n 1, 1) := by decide +kernel
theorem dX10_digest_192 : decode cX10_digest 192 = .ok (.aload_n 0, 1) := by decide +kernel
theorem dX10_digest_193 : decode cX10_digest 193 = .ok (.getfield 34, 3) := by decide +kernel
theorem dX10_digest_196 : decode cX10_digest 196 = .ok (.getfield 293, 3) := by decide +kernel
theorem dX10_digest_199 : decode cX10_digest 199 = .ok (.iload 4, 2) := by decide +kernel
theorem dX10_digest_201 : decode cX10_digest 201 = .ok (.caload, 1) := by decide +kernel
theorem dX10_digest_202 : decode cX10_digest 202 = .ok (.i2l, 1) := by decide +kernel
theorem dX10_digest_203 : decode cX10_digest 203 = .ok (.invokestatic 286, 3) := by decide +kernel
theorem dX10_digest_206 : decode cX10_digest 206 = .ok (.lstore_n 1, 1) := by decide +kernel
theorem dX10_digest_207 : decode cX10_digest 207 = .ok (.iinc 4 1, 3) := by decide +kernel
theorem dX10_digest_210 : decode cX10_digest 210 = .ok (.goto (-31), 3) := by decide +kernel
theorem dX10_digest_213 : decode cX10_digest 213 = .ok (.iconst 0, 1) := by decide +kernel
theorem dX10_digest_214 : decode cX10_digest 214 = .ok (.istore 4, 2) := by decide +kernel
theorem dX10_digest_216 : decode cX10_digest 216 = .ok (.iload 4, 2) := by decide +kernel
theorem dX10_digest_218 : decode cX10_digest 218 = .ok (.bipush 6, 2) := by decide +kernel
theorem dX10_digest_220 : decode cX10_digest 220 = .ok (.if_icmp .gt 21, 3) := by decide +kernel
theorem dX10_digest_223 : decode cX10_digest 223 = .ok (.lload_n 1, 1) := by decide +kernel
theorem dX10_digest_224 : decode cX10_digest 224 = .ok (.aload_n 0, 1) := by decide +kernel
theorem dX10_digest_225 : decode cX10_digest 225 = .ok (.iload 4, 2) := by decide +kernel
theorem dX10_digest_227 : decode cX10_digest 227 = .ok (.invokevirtual 297, 3) := by decide +kernel
theorem dX10_digest_230 : decode cX10_digest 230 = .ok (.i2l, 1) := by decide +kernel
theorem dX10_digest_231 : decode cX10_digest 231 = .ok (.invokestatic 286, 3) := by decide +kernel
theorem dX10_digest_234 : decode cX10_digest 234 = .ok (.lstore_n 1, 1) := by decide +kernel
theorem dX10_digest_235 : decode cX10_digest 235 = .ok (.iinc 4 1, 3) := by decide +kernel
theorem dX10_digest_238 : decode cX10_digest 238 = .ok (.goto (-22), 3) := by decide +kernel
theorem dX10_digest_241 : decode cX10_digest 241 = .ok (.lload_n 1, 1) := by decide +kernel
theorem dX10_digest_242 : decode cX10_digest 242 = .ok (.lreturn, 1) := by decide +kernel
theorem dX10_digestProgram_0 : decode cX10_digestProgram 0 = .ok (.lload_n 1, 1) := by decide +kernel
theorem dX10_digestProgram_1 : decode cX10_digestProgram 1 = .ok (.lstore_n 3, 1) := by decide +kernel
theorem dX10_digestProgram_2 : decode cX10_digestProgram 2 = .ok (.iconst 0, 1) := by decide +kernel
theorem dX10_digestProgram_3 : decode cX10_digestProgram 3 = .ok (.istore 5, 2) := by decide +kernel
theorem dX10_digestProgram_5 : decode cX10_digestProgram 5 = .ok (.iload 5, 2) := by decide +kernel
theorem dX10_digestProgram_7 : decode cX10_digestProgram 7 = .ok (.aload_n 0, 1) := by decide +kernel
theorem dX10_digestProgram_8 : decode cX10_digestProgram 8 = .ok (.getfield 20, 3) := by decide +kernel
theorem dX10_digestProgram_11 : decode cX10_digestProgram 11 = .ok (.getfield 102, 3) := by decide +kernel
theorem dX10_digestProgram_14 : decode cX10_digestProgram 14 = .ok (.if_icmp .ge 45, 3) := by decide +kernel
theorem dX10_digestProgram_17 : decode cX10_digestProgram 17 = .ok (.iconst 0, 1) := by decide +kernel
theorem dX10_digestProgram_18 : decode cX10_digestProgram 18 = .ok (.istore 6, 2) := by decide +kernel
theorem dX10_digestProgram_20 : decode cX10_digestProgram 20 = .ok (.iload 6, 2) := by decide +kernel
theorem dX10_digestProgram_22 : decode cX10_digestProgram 22 = .ok (.iconst 4, 1) := by decide +kernel
theorem dX10_digestProgram_23 : decode cX10_digestProgram 23 = .ok (.if_icmp .gt 30, 3) := by decide +kernel
theorem dX10_digestProgram_26 : decode cX10_digestProgram 26 = .ok (.lload_n 3, 1) := by decide +kernel
theorem dX10_digestProgram_27 : decode cX10_digestProgram 27 = .ok (.aload_n 0, 1) := by decide +kernel
theorem dX10_digestProgram_28 : decode cX10_digestProgram 28 = .ok (.getfield 20, 3) := by decide +kernel
theorem dX10_digestProgram_31 : decode cX10_digestProgram 31 = .ok (.getfield 110, 3) := by decide +kernel
theorem dX10_digestProgram_34 : decode cX10_digestProgram 34 = .ok (.iload 5, 2) := by decide +kernel
theorem dX10_digestProgram_36 : decode cX10_digestProgram 36 = .ok (.aaload, 1) := by decide +kernel
theorem dX10_digestProgram_37 : decode cX10_digestProgram 37 = .ok (.iload 6, 2) := by decide +kernel
theorem dX10_digestProgram_39 : decode cX10_digestProgram 39 = .ok (.invokevirtual 114, 3) := by decide +kernel
theorem dX10_digestProgram_42 : decode cX10_digestProgram 42 = .ok (.i2l, 1) := by decide +kernel
theorem dX10_digestProgram_43 : decode cX10_digestProgram 43 = .ok (.invokestatic 286, 3) := by decide +kernel
theorem dX10_digestProgram_46 : decode cX10_digestProgram 46 = .ok (.lstore_n 3, 1) := by decide +kernel
theorem dX10_digestProgram_47 : decode cX10_digestProgram 47 = .ok (.iinc 6 1, 3) := by decide +kernel
theorem dX10_digestProgram_50 : decode cX10_digestProgram 50 = .ok (.goto (-30), 3) := by decide +kernel
theorem dX10_digestProgram_53 : decode cX10_digestProgram 53 = .ok (.iinc 5 1, 3) := by decide +kernel
theorem dX10_digestProgram_56 : decode cX10_digestProgram 56 = .ok (.goto (-51), 3) := by decide +kernel
theorem dX10_digestProgram_59 : decode cX10_digestProgram 59 = .ok (.lload_n 3, 1) := by decide +kernel
theorem dX10_digestProgram_60 : decode cX10_digestProgram 60 = .ok (.aload_n 0, 1) := by decide +kernel
theorem dX10_digestProgram_61 : decode cX10_digestProgram 61 = .ok (.getfield 20, 3) := by decide +kernel
theorem dX10_digestProgram_64 : decode cX10_digestProgram 64 = .ok (.aload_n 0, 1) := by decide +kernel
theorem dX10_digestProgram_65 : decode cX10_digestProgram 65 = .ok (.getfield 20, 3) := by decide +kernel
theorem dX10_digestProgram_68 : decode cX10_digestProgram 68 = .ok (.invokevirtual 120, 3) := by decide +kernel
theorem dX10_digestProgram_71 : decode cX10_digestProgram 71 = .ok (.invokevirtual 124, 3) := by decide +kernel
theorem dX10_digestProgram_74 : decode cX10_digestProgram 74 = .ok (.invokestatic 128, 3) := by decide +kernel
theorem dX10_digestProgram_77 : decode cX10_digestProgram 77 = .ok (.invokestatic 286, 3) := by decide +kernel
theorem dX10_digestProgram_80 : decode cX10_digestProgram 80 = .ok (.lreturn, 1) := by decide +kernel
theorem dX10_mix_0 : decode cX10_mix 0 = .ok (.ldc2_w 300, 3) := by decide +kernel
theorem dX10_mix_3 : decode cX10_mix 3 = .ok (.lload_n 0, 1) := by decide +kernel
theorem dX10_mix_4 : decode cX10_mix 4 = .ok (.lmul, 1) := by decide +kernel
theorem dX10_mix_5 : decode cX10_mix 5 = .ok (.lload_n 2, 1) := by decide +kernel
theorem dX10_mix_6 : decode cX10_mix 6 = .ok (.ladd, 1) := by decide +kernel
theorem dX10_mix_7 : decode cX10_mix 7 = .ok (.lreturn, 1) := by decide +kernel
theorem dX10_forgetFound_0 : decode cX10_forgetFound 0 = .ok (.aload_n 0, 1) := by decide +kernel
theorem dX10_forgetFound_1 : decode cX10_forgetFound 1 = .ok (.getfield 48, 3) := by decide +kernel
theorem dX10_forgetFound_4 : decode cX10_forgetFound 4 = .ok (.invokevirtual 302, 3) := by decide +kernel
theorem dX10_forgetFound_7 : decode cX10_forgetFound 7 = .ok (.aload_n 0, 1) := by decide +kernel
theorem dX10_forgetFound_8 : decode cX10_forgetFound 8 = .ok (.getfield 12, 3) := by decide +kernel
theorem dX10_forgetFound_11 : decode cX10_forgetFound 11 = .ok (.invokevirtual 168, 3) := by decide +kernel
theorem dX10_forgetFound_14 : decode cX10_forgetFound 14 = .ok (.return_, 1) := by decide +kernel
theorem dX10_isSector_0 : decode cX10_isSector 0 = .ok (.iload_n 0, 1) := by decide +kernel
theorem dX10_isSector_1 : decode cX10_isSector 1 = .ok (.ifCond .lt 13, 3) := by decide +kernel
theorem dX10_isSector_4 : decode cX10_isSector 4 = .ok (.iload_n 0, 1) := by decide +kernel
theorem dX10_isSector_5 : decode cX10_isSector 5 = .ok (.bipush 8, 2) := by decide +kernel
theorem dX10_isSector_7 : decode cX10_isSector 7 = .ok (.if_icmp .ge 7, 3) := by decide +kernel
theorem dX10_isSector_10 : decode cX10_isSector 10 = .ok (.iconst 1, 1) := by decide +kernel
theorem dX10_isSector_11 : decode cX10_isSector 11 = .ok (.goto 4, 3) := by decide +kernel
theorem dX10_isSector_14 : decode cX10_isSector 14 = .ok (.iconst 0, 1) := by decide +kernel
theorem dX10_isSector_15 : decode cX10_isSector 15 = .ok (.ireturn, 1) := by decide +kernel
theorem dX10_isFigure_0 : decode cX10_isFigure 0 = .ok (.iload_n 0, 1) := by decide +kernel
theorem dX10_isFigure_1 : decode cX10_isFigure 1 = .ok (.ifCond .lt 13, 3) := by decide +kernel
theorem dX10_isFigure_4 : decode cX10_isFigure 4 = .ok (.iload_n 0, 1) := by decide +kernel
theorem dX10_isFigure_5 : decode cX10_isFigure 5 = .ok (.bipush 99, 2) := by decide +kernel
theorem dX10_isFigure_7 : decode cX10_isFigure 7 = .ok (.if_icmp .gt 7, 3) := by decide +kernel
theorem dX10_isFigure_10 : decode cX10_isFigure 10 = .ok (.iconst 1, 1) := by decide +kernel
theorem dX10_isFigure_11 : decode cX10_isFigure 11 = .ok (.goto 4, 3) := by decide +kernel
theorem dX10_isFigure_14 : decode cX10_isFigure 14 = .ok (.iconst 0, 1) := by decide +kernel
theorem dX10_isFigure_15 : decode cX10_isFigure 15 = .ok (.ireturn, 1) := by decide +kernel
theorem dX10_isNumberOfPlate_0 : decode cX10_isNumberOfPlate 0 = .ok (.lload_n 0, 1) := by decide +kernel
theorem dX10_isNumberOfPlate_1 : decode cX10_isNumberOfPlate 1 = .ok (.lconst 0, 1) := by decide +kernel
theorem dX10_isNumberOfPlate_2 : decode cX10_isNumberOfPlate 2 = .ok (.lcmp, 1) := by decide +kernel
theorem dX10_isNumberOfPlate_3 : decode cX10_isNumberOfPlate 3 = .ok (.ifCond .lt 15, 3) := by decide +kernel
theorem dX10_isNumberOfPlate_6 : decode cX10_isNumberOfPlate 6 = .ok (.lload_n 0, 1) := by decide +kernel
theorem dX10_isNumberOfPlate_7 : decode cX10_isNumberOfPlate 7 = .ok (.ldc2_w 303, 3) := by decide +kernel
theorem dX10_isNumberOfPlate_10 : decode cX10_isNumberOfPlate 10 = .ok (.lcmp, 1) := by decide +kernel
theorem dX10_isNumberOfPlate_11 : decode cX10_isNumberOfPlate 11 = .ok (.ifCond .gt 7, 3) := by decide +kernel
theorem dX10_isNumberOfPlate_14 : decode cX10_isNumberOfPlate 14 = .ok (.iconst 1, 1) := by decide +kernel
theorem dX10_isNumberOfPlate_15 : decode cX10_isNumberOfPlate 15 = .ok (.goto 4, 3) := by decide +kernel
theorem dX10_isNumberOfPlate_18 : decode cX10_isNumberOfPlate 18 = .ok (.iconst 0, 1) := by decide +kernel
theorem dX10_isNumberOfPlate_19 : decode cX10_isNumberOfPlate 19 = .ok (.ireturn, 1) := by decide +kernel
theorem dX10_plateOfNumber_0 : decode cX10_plateOfNumber 0 = .ok (.lload_n 0, 1) := by decide +kernel
theorem dX10_plateOfNumber_1 : decode cX10_plateOfNumber 1 = .ok (.lstore_n 2, 1) := by decide +kernel
theorem dX10_plateOfNumber_2 : decode cX10_plateOfNumber 2 = .ok (.lconst 0, 1) := by decide +kernel
theorem dX10_plateOfNumber_3 : decode cX10_plateOfNumber 3 = .ok (.lstore 4, 2) := by decide +kernel
theorem dX10_plateOfNumber_5 : decode cX10_plateOfNumber 5 = .ok (.iconst 0, 1) := by decide +kernel
theorem dX10_plateOfNumber_6 : decode cX10_plateOfNumber 6 = .ok (.istore 6, 2) := by decide +kernel
theorem dX10_plateOfNumber_8 : decode cX10_plateOfNumber 8 = .ok (.iload 6, 2) := by decide +kernel
theorem dX10_plateOfNumber_10 : decode cX10_plateOfNumber 10 = .ok (.bipush 8, 2) := by decide +kernel
theorem dX10_plateOfNumber_12 : decode cX10_plateOfNumber 12 = .ok (.if_icmp .ge 31, 3) := by decide +kernel
theorem dX10_plateOfNumber_15 : decode cX10_plateOfNumber 15 = .ok (.lload 4, 2) := by decide +kernel
theorem dX10_plateOfNumber_17 : decode cX10_plateOfNumber 17 = .ok (.lload_n 2, 1) := by decide +kernel
theorem dX10_plateOfNumber_18 : decode cX10_plateOfNumber 18 = .ok (.ldc2_w 305, 3) := by decide +kernel
theorem dX10_plateOfNumber_21 : decode cX10_plateOfNumber 21 = .ok (.lrem, 1) := by decide +kernel
theorem dX10_plateOfNumber_22 : decode cX10_plateOfNumber 22 = .ok (.bipush 8, 2) := by decide +kernel
theorem dX10_plateOfNumber_24 : decode cX10_plateOfNumber 24 = .ok (.iload 6, 2) := by decide +kernel
theorem dX10_plateOfNumber_26 : decode cX10_plateOfNumber 26 = .ok (.imul, 1) := by decide +kernel
theorem dX10_plateOfNumber_27 : decode cX10_plateOfNumber 27 = .ok (.lshl, 1) := by decide +kernel
theorem dX10_plateOfNumber_28 : decode cX10_plateOfNumber 28 = .ok (.lor, 1) := by decide +kernel
theorem dX10_plateOfNumber_29 : decode cX10_plateOfNumber 29 = .ok (.lstore 4, 2) := by decide +kernel
theorem dX10_plateOfNumber_31 : decode cX10_plateOfNumber 31 = .ok (.lload_n 2, 1) := by decide +kernel
theorem dX10_plateOfNumber_32 : decode cX10_plateOfNumber 32 = .ok (.ldc2_w 305, 3) := by decide +kernel
theorem dX10_plateOfNumber_35 : decode cX10_plateOfNumber 35 = .ok (.ldiv, 1) := by decide +kernel
theorem dX10_plateOfNumber_36 : decode cX10_plateOfNumber 36 = .ok (.lstore_n 2, 1) := by decide +kernel
theorem dX10_plateOfNumber_37 : decode cX10_plateOfNumber 37 = .ok (.iinc 6 1, 3) := by decide +kernel
theorem dX10_plateOfNumber_40 : decode cX10_plateOfNumber 40 = .ok (.goto (-32), 3) := by decide +kernel
theorem dX10_plateOfNumber_43 : decode cX10_plateOfNumber 43 = .ok (.lload 4, 2) := by decide +kernel
theorem dX10_plateOfNumber_45 : decode cX10_plateOfNumber 45 = .ok (.lreturn, 1) := by decide +kernel
theorem dX10_numberOf_0 : decode cX10_numberOf 0 = .ok (.lconst 0, 1) := by decide +kernel
theorem dX10_numberOf_1 : decode cX10_numberOf 1 = .ok (.lstore_n 2, 1) := by decide +kernel
theorem dX10_numberOf_2 : decode cX10_numberOf 2 = .ok (.bipush 7, 2) := by decide +kernel
theorem dX10_numberOf_4 : decode cX10_numberOf 4 = .ok (.istore 4, 2) := by decide +kernel
theorem dX10_numberOf_6 : decode cX10_numberOf 6 = .ok (.iload 4, 2) := by decide +kernel
theorem dX10_numberOf_8 : decode cX10_numberOf 8 = .ok (.ifCond .lt 23, 3) := by decide +kernel
theorem dX10_numberOf_11 : decode cX10_numberOf 11 = .ok (.lload_n 2, 1) := by decide +kernel
theorem dX10_numberOf_12 : decode cX10_numberOf 12 = .ok (.ldc2_w 305, 3) := by decide +kernel
theorem dX10_numberOf_15 : decode cX10_numberOf 15 = .ok (.lmul, 1) := by decide +kernel
theorem dX10_numberOf_16 : decode cX10_numberOf 16 = .ok (.lload_n 0, 1) := by decide +kernel
theorem dX10_numberOf_17 : decode cX10_numberOf 17 = .ok (.iload 4, 2) := by decide +kernel
theorem dX10_numberOf_19 : decode cX10_numberOf 19 = .ok (.invokestatic 82, 3) := by decide +kernel
theorem dX10_numberOf_22 : decode cX10_numberOf 22 = .ok (.i2l, 1) := by decide +kernel
theorem dX10_numberOf_23 : decode cX10_numberOf 23 = .ok (.ladd, 1) := by decide +kernel
theorem dX10_numberOf_24 : decode cX10_numberOf 24 = .ok (.lstore_n 2, 1) := by decide +kernel
theorem dX10_numberOf_25 : decode cX10_numberOf 25 = .ok (.iinc 4 (-1), 3) := by decide +kernel
theorem dX10_numberOf_28 : decode cX10_numberOf 28 = .ok (.goto (-22), 3) := by decide +kernel
theorem dX10_numberOf_31 : decode cX10_numberOf 31 = .ok (.lload_n 2, 1) := by decide +kernel
theorem dX10_numberOf_32 : decode cX10_numberOf 32 = .ok (.lreturn, 1) := by decide +kernel
theorem dX10_figureOf_0 : decode cX10_figureOf 0 = .ok (.lload_n 0, 1) := by decide +kernel
theorem dX10_figureOf_1 : decode cX10_figureOf 1 = .ok (.bipush 8, 2) := by decide +kernel
theorem dX10_figureOf_3 : decode cX10_figureOf 3 = .ok (.iload_n 2, 1) := by decide +kernel
theorem dX10_figureOf_4 : decode cX10_figureOf 4 = .ok (.imul, 1) := by decide +kernel
theorem dX10_figureOf_5 : decode cX10_figureOf 5 = .ok (.lushr, 1) := by decide +kernel
theorem dX10_figureOf_6 : decode cX10_figureOf 6 = .ok (.ldc2_w 307, 3) := by decide +kernel
theorem dX10_figureOf_9 : decode cX10_figureOf 9 = .ok (.land, 1) := by decide +kernel
theorem dX10_figureOf_10 : decode cX10_figureOf 10 = .ok (.l2i, 1) := by decide +kernel
theorem dX10_figureOf_11 : decode cX10_figureOf 11 = .ok (.ireturn, 1) := by decide +kernel
theorem dX10_withFigure_0 : decode cX10_withFigure 0 = .ok (.lload_n 0, 1) := by decide +kernel
theorem dX10_withFigure_1 : decode cX10_withFigure 1 = .ok (.ldc2_w 307, 3) := by decide +kernel
theorem dX10_withFigure_4 : decode cX10_withFigure 4 = .ok (.bipush 8, 2) := by decide +kernel
theorem dX10_withFigure_6 : decode cX10_withFigure 6 = .ok (.iload_n 2, 1) := by decide +kernel
theorem dX10_withFigure_7 : decode cX10_withFigure 7 = .ok (.imul, 1) := by decide +kernel
theorem dX10_withFigure_8 : decode cX10_withFigure 8 = .ok (.lshl, 1) := by decide +kernel
theorem dX10_withFigure_9 : decode cX10_withFigure 9 = .ok (.ldc2_w 204, 3) := by decide +kernel
theorem dX10_withFigure_12 : decode cX10_withFigure 12 = .ok (.lxor, 1) := by decide +kernel
theorem dX10_withFigure_13 : decode cX10_withFigure 13 = .ok (.land, 1) := by decide +kernel
theorem dX10_withFigure_14 : decode cX10_withFigure 14 = .ok (.iload_n 3, 1) := by decide +kernel
theorem dX10_withFigure_15 : decode cX10_withFigure 15 = .ok (.i2l, 1) := by decide +kernel
theorem dX10_withFigure_16 : decode cX10_withFigure 16 = .ok (.bipush 8, 2) := by decide +kernel
theorem dX10_withFigure_18 : decode cX10_withFigure 18 = .ok (.iload_n 2, 1) := by decide +kernel
theorem dX10_withFigure_19 : decode cX10_withFigure 19 = .ok (.imul, 1) := by decide +kernel
theorem dX10_withFigure_20 : decode cX10_withFigure 20 = .ok (.lshl, 1) := by decide +kernel
theorem dX10_withFigure_21 : decode cX10_withFigure 21 = .ok (.lor, 1) := by decide +kernel
theorem dX10_withFigure_22 : decode cX10_withFigure 22 = .ok (.lreturn, 1) := by decide +kernel
theorem dX10_unpack_0 : decode cX10_unpack 0 = .ok (.iconst 0, 1) := by decide +kernel
theorem dX10_unpack_1 : decode cX10_unpack 1 = .ok (.istore_n 3, 1) := by decide +kernel
theorem dX10_unpack_2 : decode cX10_unpack 2 = .ok (.iload_n 3, 1) := by decide +kernel
theorem dX10_unpack_3 : decode cX10_unpack 3 = .ok (.aload_n 2, 1) := by decide +kernel
theorem dX10_unpack_4 : decode cX10_unpack 4 = .ok (.arraylength, 1) := by decide +kernel
theorem dX10_unpack_5 : decode cX10_unpack 5 = .ok (.if_icmp .ge 23, 3) := by decide +kernel
theorem dX10_unpack_8 : decode cX10_unpack 8 = .ok (.aload_n 2, 1) := by decide +kernel
theorem dX10_unpack_9 : decode cX10_unpack 9 = .ok (.iload_n 3, 1) := by decide +kernel
theorem dX10_unpack_10 : decode cX10_unpack 10 = .ok (.lload_n 0, 1) := by decide +kernel
theorem dX10_unpack_11 : decode cX10_unpack 11 = .ok (.bipush 8, 2) := by decide +kernel
theorem dX10_unpack_13 : decode cX10_unpack 13 = .ok (.iload_n 3, 1) := by decide +kernel
theorem dX10_unpack_14 : decode cX10_unpack 14 = .ok (.imul, 1) := by decide +kernel
theorem dX10_unpack_15 : decode cX10_unpack 15 = .ok (.lushr, 1) := by decide +kernel
theorem dX10_unpack_16 : decode cX10_unpack 16 = .ok (.ldc2_w 307, 3) := by decide +kernel
theorem dX10_unpack_19 : decode cX10_unpack 19 = .ok (.land, 1) := by decide +kernel
theorem dX10_unpack_20 : decode cX10_unpack 20 = .ok (.l2i, 1) := by decide +kernel
theorem dX10_unpack_21 : decode cX10_unpack 21 = .ok (.iastore, 1) := by decide +kernel
theorem dX10_unpack_22 : decode cX10_unpack 22 = .ok (.iinc 3 1, 3) := by decide +kernel
theorem dX10_unpack_25 : decode cX10_unpack 25 = .ok (.goto (-23), 3) := by decide +kernel
theorem dX10_unpack_28 : decode cX10_unpack 28 = .ok (.return_, 1) := by decide +kernel
theorem dX10_pack_0 : decode cX10_pack 0 = .ok (.lconst 0, 1) := by decide +kernel
theorem dX10_pack_1 : decode cX10_pack 1 = .ok (.lstore_n 1, 1) := by decide +kernel
theorem dX10_pack_2 : decode cX10_pack 2 = .ok (.iconst 0, 1) := by decide +kernel
theorem dX10_pack_3 : decode cX10_pack 3 = .ok (.istore_n 3, 1) := by decide +kernel
theorem dX10_pack_4 : decode cX10_pack 4 = .ok (.iload_n 3, 1) := by decide +kernel
theorem dX10_pack_5 : decode cX10_pack 5 = .ok (.aload_n 0, 1) := by decide +kernel
theorem dX10_pack_6 : decode cX10_pack 6 = .ok (.arraylength, 1) := by decide +kernel
theorem dX10_pack_7 : decode cX10_pack 7 = .ok (.if_icmp .ge 21, 3) := by decide +kernel
theorem dX10_pack_10 : decode cX10_pack 10 = .ok (.lload_n 1, 1) := by decide +kernel
theorem dX10_pack_11 : decode cX10_pack 11 = .ok (.aload_n 0, 1) := by decide +kernel
theorem dX10_pack_12 : decode cX10_pack 12 = .ok (.iload_n 3, 1) := by decide +kernel
theorem dX10_pack_13 : decode cX10_pack 13 = .ok (.iaload, 1) := by decide +kernel
theorem dX10_pack_14 : decode cX10_pack 14 = .ok (.i2l, 1) := by decide +kernel
theorem dX10_pack_15 : decode cX10_pack 15 = .ok (.bipush 8, 2) := by decide +kernel
theorem dX10_pack_17 : decode cX10_pack 17 = .ok (.iload_n 3, 1) := by decide +kernel
theorem dX10_pack_18 : decode cX10_pack 18 = .ok (.imul, 1) := by decide +kernel
theorem dX10_pack_19 : decode cX10_pack 19 = .ok (.lshl, 1) := by decide +kernel
theorem dX10_pack_20 : decode cX10_pack 20 = .ok (.lor, 1) := by decide +kernel
theorem dX10_pack_21 : decode cX10_pack 21 = .ok (.lstore_n 1, 1) := by decide +kernel
theorem dX10_pack_22 : decode cX10_pack 22 = .ok (.iinc 3 1, 3) := by decide +kernel
theorem dX10_pack_25 : decode cX10_pack 25 = .ok (.goto (-21), 3) := by decide +kernel
theorem dX10_pack_28 : decode cX10_pack 28 = .ok (.lload_n 1, 1) := by decide +kernel
theorem dX10_pack_29 : decode cX10_pack 29 = .ok (.lreturn, 1) := by decide +kernel
theorem dX10_nextSet_0 : decode cX10_nextSet 0 = .ok (.iload_n 0, 1) := by decide +kernel
theorem dX10_nextSet_1 : decode cX10_nextSet 1 = .ok (.iload_n 1, 1) := by decide +kernel
theorem dX10_nextSet_2 : decode cX10_nextSet 2 = .ok (.isub, 1) := by decide +kernel
theorem dX10_nextSet_3 : decode cX10_nextSet 3 = .ok (.iload_n 1, 1) := by decide +kernel
theorem dX10_nextSet_4 : decode cX10_nextSet 4 = .ok (.iand, 1) := by decide +kernel
theorem dX10_nextSet_5 : decode cX10_nextSet 5 = .ok (.ireturn, 1) := by decide +kernel
end
section
theorem dX11_init_0 : decode cX11_init 0 = .ok (.aload_n 0, 1) := by decide +kernel
theorem dX11_init_1 : decode cX11_init 1 = .ok (.invokespecial 1, 3) := by decide +kernel
theorem dX11_init_4 : decode cX11_init 4 = .ok (.aload_n 0, 1) := by decide +kernel
theorem dX11_init_5 : decode cX11_init 5 = .ok (.bipush 8, 2) := by decide +kernel
theorem dX11_init_7 : decode cX11_init 7 = .ok (.newarray .int, 2) := by decide +kernel
theorem dX11_init_9 : decode cX11_init 9 = .ok (.putfield 7, 3) := by decide +kernel
theorem dX11_init_12 : decode cX11_init 12 = .ok (.aload_n 0, 1) := by decide +kernel
theorem dX11_init_13 : decode cX11_init 13 = .ok (.bipush 12, 2) := by decide +kernel
theorem dX11_init_15 : decode cX11_init 15 = .ok (.newarray .int, 2) := by decide +kernel
theorem dX11_init_17 : decode cX11_init 17 = .ok (.putfield 13, 3) := by decide +kernel
theorem dX11_init_20 : decode cX11_init 20 = .ok (.aload_n 0, 1) := by decide +kernel
theorem dX11_init_21 : decode cX11_init 21 = .ok (.bipush 48, 2) := by decide +kernel
theorem dX11_init_23 : decode cX11_init 23 = .ok (.newarray .int, 2) := by decide +kernel
theorem dX11_init_25 : decode cX11_init 25 = .ok (.putfield 16, 3) := by decide +kernel
theorem dX11_init_28 : decode cX11_init 28 = .ok (.aload_n 0, 1) := by decide +kernel
theorem dX11_init_29 : decode cX11_init 29 = .ok (.bipush 60, 2) := by decide +kernel
theorem dX11_init_31 : decode cX11_init 31 = .ok (.newarray .byte, 2) := by decide +kernel
theorem dX11_init_33 : decode cX11_init 33 = .ok (.putfield 19, 3) := by decide +kernel
theorem dX11_init_36 : decode cX11_init 36 = .ok (.aload_n 0, 1) := by decide +kernel
theorem dX11_init_37 : decode cX11_init 37 = .ok (.sipush 360, 3) := by decide +kernel
theorem dX11_init_40 : decode cX11_init 40 = .ok (.newarray .byte, 2) := by decide +kernel
theorem dX11_init_42 : decode cX11_init 42 = .ok (.putfield 23, 3) := by decide +kernel
theorem dX11_init_45 : decode cX11_init 45 = .ok (.aload_n 0, 1) := by decide +kernel
theorem dX11_init_46 : decode cX11_init 46 = .ok (.bipush 6, 2) := by decide +kernel
theorem dX11_init_48 : decode cX11_init 48 = .ok (.newarray .int, 2) := by decide +kernel
theorem dX11_init_50 : decode cX11_init 50 = .ok (.putfield 26, 3) := by decide +kernel
theorem dX11_init_53 : decode cX11_init 53 = .ok (.aload_n 0, 1) := by decide +kernel
theorem dX11_init_54 : decode cX11_init 54 = .ok (.bipush 6, 2) := by decide +kernel
theorem dX11_init_56 : decode cX11_init 56 = .ok (.newarray .boolean, 2) := by decide +kernel
theorem dX11_init_58 : decode cX11_init 58 = .ok (.putfield 29, 3) := by decide +kernel
theorem dX11_init_61 : decode cX11_init 61 = .ok (.aload_n 0, 1) := by decide +kernel
theorem dX11_init_62 : decode cX11_init 62 = .ok (.sipush 480, 3) := by decide +kernel
theorem dX11_init_65 : decode cX11_init 65 = .ok (.newarray .byte, 2) := by decide +kernel
theorem dX11_init_67 : decode cX11_init 67 = .ok (.putfield 33, 3) := by decide +kernel
theorem dX11_init_70 : decode cX11_init 70 = .ok (.aload_n 0, 1) := by decide +kernel
theorem dX11_init_71 : decode cX11_init 71 = .ok (.bipush 8, 2) := by decide +kernel
theorem dX11_init_73 : decode cX11_init 73 = .ok (.newarray .int, 2) := by decide +kernel
theorem dX11_init_75 : decode cX11_init 75 = .ok (.putfield 36, 3) := by decide +kernel
theorem dX11_init_78 : decode cX11_init 78 = .ok (.aload_n 0, 1) := by decide +kernel
theorem dX11_init_79 : decode cX11_init 79 = .ok (.iconst 1, 1) := by decide +kernel
theorem dX11_init_80 : decode cX11_init 80 = .ok (.putfield 39, 3) := by decide +kernel
theorem dX11_init_83 : decode cX11_init 83 = .ok (.aload_n 0, 1) := by decide +kernel
theorem dX11_init_84 : decode cX11_init 84 = .ok (.iconst 5, 1) := by decide +kernel
theorem dX11_init_85 : decode cX11_init 85 = .ok (.putfield 43, 3) := by decide +kernel
theorem dX11_init_88 : decode cX11_init 88 = .ok (.aload_n 0, 1) := by decide +kernel
theorem dX11_init_89 : decode cX11_init 89 = .ok (.bipush 8, 2) := by decide +kernel
theorem dX11_init_91 : decode cX11_init 91 = .ok (.newarray .int, 2) := by decide +kernel
theorem dX11_init_93 : decode cX11_init 93 = .ok (.putfield 46, 3) := by decide +kernel
theorem dX11_init_96 : decode cX11_init 96 = .ok (.aload_n 0, 1) := by decide +kernel
theorem dX11_init_97 : decode cX11_init 97 = .ok (.bipush 61, 2) := by decide +kernel
theorem dX11_init_99 : decode cX11_init 99 = .ok (.newarray .boolean, 2) := by decide +kernel
theorem dX11_init_101 : decode cX11_init 101 = .ok (.putfield 49, 3) := by decide +kernel
theorem dX11_init_104 : decode cX11_init 104 = .ok (.aload_n 0, 1) := by decide +kernel
theorem dX11_init_105 : decode cX11_init 105 = .ok (.bipush 61, 2) := by decide +kernel
theorem dX11_init_107 : decode cX11_init 107 = .ok (.newarray .boolean, 2) := by decide +kernel
theorem dX11_init_109 : decode cX11_init 109 = .ok (.putfield 52, 3) := by decide +kernel
theorem dX11_init_112 : decode cX11_init 112 = .ok (.aload_n 0, 1) := by decide +kernel
theorem dX11_init_113 : decode cX11_init 113 = .ok (.bipush 61, 2) := by decide +kernel
theorem dX11_init_115 : decode cX11_init 115 = .ok (.newarray .boolean, 2) := by decide +kernel
theorem dX11_init_117 : decode cX11_init 117 = .ok (.putfield 55, 3) := by decide +kernel
theorem dX11_init_120 : decode cX11_init 120 = .ok (.aload_n 0, 1) := by decide +kernel
theorem dX11_init_121 : decode cX11_init 121 = .ok (.sipush 4096, 3) := by decide +kernel
theorem dX11_init_124 : decode cX11_init 124 = .ok (.newarray .long, 2) := by decide +kernel
theorem dX11_init_126 : decode cX11_init 126 = .ok (.putfield 58, 3) := by decide +kernel
theorem dX11_init_129 : decode cX11_init 129 = .ok (.aload_n 0, 1) := by decide +kernel
theorem dX11_init_130 : decode cX11_init 130 = .ok (.sipush 4096, 3) := by decide +kernel
theorem dX11_init_133 : decode cX11_init 133 = .ok (.newarray .long, 2) := by decide +kernel
theorem dX11_init_135 : decode cX11_init 135 = .ok (.putfield 62, 3) := by decide +kernel
theorem dX11_init_138 : decode cX11_init 138 = .ok (.aload_n 0, 1) := by decide +kernel
theorem dX11_init_139 : decode cX11_init 139 = .ok (.sipush 4096, 3) := by decide +kernel
theorem dX11_init_142 : decode cX11_init 142 = .ok (.newarray .int, 2) := by decide +kernel
theorem dX11_init_144 : decode cX11_init 144 = .ok (.putfield 65, 3) := by decide +kernel
theorem dX11_init_147 : decode cX11_init 147 = .ok (.aload_n 0, 1) := by decide +kernel
theorem dX11_init_148 : decode cX11_init 148 = .ok (.sipush 4096, 3) := by decide +kernel
theorem dX11_init_151 : decode cX11_init 151 = .ok (.newarray .int, 2) := by decide +kernel
theorem dX11_init_153 : decode cX11_init 153 = .ok (.putfield 68, 3) := by decide +kernel
theorem dX11_init_156 : decode cX11_init 156 = .ok (.aload_n 0, 1) := by decide +kernel
theorem dX11_init_157 : decode cX11_init 157 = .ok (.sipush 4096, 3) := by decide +kernel
theorem dX11_init_160 : decode cX11_init 160 = .ok (.newarray .boolean, 2) := by decide +kernel
theorem dX11_init_162 : decode cX11_init 162 = .ok (.putfield 71, 3) := by decide +kernel
theorem dX11_init_165 : decode cX11_init 165 = .ok (.aload_n 0, 1) := by decide +kernel
theorem dX11_init_166 : decode cX11_init 166 = .ok (.bipush 12, 2) := by decide +kernel
theorem dX11_init_168 : decode cX11_init 168 = .ok (.newarray .int, 2) := by decide +kernel
theorem dX11_init_170 : decode cX11_init 170 = .ok (.putfield 74, 3) := by decide +kernel
theorem dX11_init_173 : decode cX11_init 173 = .ok (.aload_n 0, 1) := by decide +kernel
theorem dX11_init_174 : decode cX11_init 174 = .ok (.bipush 12, 2) := by decide +kernel
theorem dX11_init_176 : decode cX11_init 176 = .ok (.newarray .int, 2) := by decide +kernel
theorem dX11_init_178 : decode cX11_init 178 = .ok (.putfield 77, 3) := by decide +kernel
theorem dX11_init_181 : decode cX11_init 181 = .ok (.aload_n 0, 1) := by decide +kernel
theorem dX11_init_182 : decode cX11_init 182 = .ok (.bipush 26, 2) := by decide +kernel
theorem dX11_init_184 : decode cX11_init 184 = .ok (.newarray .int, 2) := by decide +kernel
theorem dX11_init_186 : decode cX11_init 186 = .ok (.putfield 80, 3) := by decide +kernel
theorem dX11_init_189 : decode cX11_init 189 = .ok (.aload_n 0, 1) := by decide +kernel
theorem dX11_init_190 : decode cX11_init 190 = .ok (.sipush 8192, 3) := by decide +kernel
theorem dX11_init_193 : decode cX11_init 193 = .ok (.newarray .int, 2) := by decide +kernel
theorem dX11_init_195 : decode cX11_init 195 = .ok (.putfield 83, 3) := by decide +kernel
theorem dX11_init_198 : decode cX11_init 198 = .ok (.aload_n 0, 1) := by decide +kernel
theorem dX11_init_199 : decode cX11_init 199 = .ok (.sipush 8192, 3) := by decide +kernel
theorem dX11_init_202 : decode cX11_init 202 = .ok (.newarray .int, 2) := by decide +kernel
theorem dX11_init_204 : decode cX11_init 204 = .ok (.putfield 86, 3) := by decide +kernel
theorem dX11_init_207 : decode cX11_init 207 = .ok (.return_, 1) := by decide +kernel
theorem dX11_in_0 : decode cX11_in 0 = .ok (.iload_n 0, 1) := by decide +kernel
theorem dX11_in_1 : decode cX11_in 1 = .ok (.iload_n 1, 1) := by decide +kernel
theorem dX11_in_2 : decode cX11_in 2 = .ok (.if_icmp .lt 12, 3) := by decide +kernel
theorem dX11_in_5 : decode cX11_in 5 = .ok (.iload_n 0, 1) := by decide +kernel
theorem dX11_in_6 : decode cX11_in 6 = .ok (.iload_n 2, 1) := by decide +kernel
theorem dX11_in_7 : decode cX11_in 7 = .ok (.if_icmp .gt 7, 3) := by decide +kernel
theorem dX11_in_10 : decode cX11_in 10 = .ok (.iconst 1, 1) := by decide +kernel
theorem dX11_in_11 : decode cX11_in 11 = .ok (.goto 4, 3) := by decide +kernel
theorem dX11_in_14 : decode cX11_in 14 = .ok (.iconst 0, 1) := by decide +kernel
theorem dX11_in_15 : decode cX11_in 15 = .ok (.ireturn, 1) := by decide +kernel
theorem dX11_isSector_0 : decode cX11_isSector 0 = .ok (.iload_n 0, 1) := by decide +kernel
theorem dX11_isSector_1 : decode cX11_isSector 1 = .ok (.iconst 0, 1) := by decide +kernel
theorem dX11_isSector_2 : decode cX11_isSector 2 = .ok (.bipush 7, 2) := by decide +kernel
theorem dX11_isSector_4 : decode cX11_isSector 4 = .ok (.invokestatic 89, 3) := by decide +kernel
theorem dX11_isSector_7 : decode cX11_isSector 7 = .ok (.ireturn, 1) := by decide +kernel
theorem dX11_isNumber_0 : decode cX11_isNumber 0 = .ok (.iload_n 0, 1) := by decide +kernel
theorem dX11_isNumber_1 : decode cX11_isNumber 1 = .ok (.iconst 0, 1) := by decide +kernel
theorem dX11_isNumber_2 : decode cX11_isNumber 2 = .ok (.bipush 99, 2) := by decide +kernel
theorem dX11_isNumber_4 : decode cX11_isNumber 4 = .ok (.invokestatic 89, 3) := by decide +kernel
theorem dX11_isNumber_7 : decode cX11_isNumber 7 = .ok (.ireturn, 1) := by decide +kernel
theorem dX11_sector_0 : decode cX11_sector 0 = .ok (.iload_n 1, 1) := by decide +kernel
theorem dX11_sector_1 : decode cX11_sector 1 = .ok (.invokestatic 93, 3) := by decide +kernel
theorem dX11_sector_4 : decode cX11_sector 4 = .ok (.ifCond .ne 6, 3) := by decide +kernel
theorem dX11_sector_7 : decode cX11_sector 7 = .ok (.bipush (-101), 2) := by decide +kernel
theorem dX11_sector_9 : decode cX11_sector 9 = .ok (.ireturn, 1) := by decide +kernel
theorem dX11_sector_10 : decode cX11_sector 10 = .ok (.iload_n 2, 1) := by decide +kernel
theorem dX11_sector_11 : decode cX11_sector 11 = .ok (.invokestatic 97, 3) := by decide +kernel
theorem dX11_sector_14 : decode cX11_sector 14 = .ok (.ifCond .ne 6, 3) := by decide +kernel
theorem dX11_sector_17 : decode cX11_sector 17 = .ok (.bipush (-102), 2) := by decide +kernel
theorem dX11_sector_19 : decode cX11_sector 19 = .ok (.ireturn, 1) := by decide +kernel
theorem dX11_sector_20 : decode cX11_sector 20 = .ok (.aload_n 0, 1) := by decide +kernel
theorem dX11_sector_21 : decode cX11_sector 21 = .ok (.getfield 7, 3) := by decide +kernel
theorem dX11_sector_24 : decode cX11_sector 24 = .ok (.iload_n 1, 1) := by decide +kernel
theorem dX11_sector_25 : decode cX11_sector 25 = .ok (.iaload, 1) := by decide +kernel
theorem dX11_sector_26 : decode cX11_sector 26 = .ok (.istore_n 3, 1) := by decide +kernel
theorem dX11_sector_27 : decode cX11_sector 27 = .ok (.aload_n 0, 1) := by decide +kernel
theorem dX11_sector_28 : decode cX11_sector 28 = .ok (.getfield 7, 3) := by decide +kernel
theorem dX11_sector_31 : decode cX11_sector 31 = .ok (.iload_n 1, 1) := by decide +kernel
theorem dX11_sector_32 : decode cX11_sector 32 = .ok (.iload_n 2, 1) := by decide +kernel
theorem dX11_sector_33 : decode cX11_sector 33 = .ok (.iastore, 1) := by decide +kernel
theorem dX11_sector_34 : decode cX11_sector 34 = .ok (.aload_n 0, 1) := by decide +kernel
theorem dX11_sector_35 : decode cX11_sector 35 = .ok (.iconst 0, 1) := by decide +kernel
theorem dX11_sector_36 : decode cX11_sector 36 = .ok (.putfield 100, 3) := by decide +kernel
theorem dX11_sector_39 : decode cX11_sector 39 = .ok (.iload_n 3, 1) := by decide +kernel
theorem dX11_sector_40 : decode cX11_sector 40 = .ok (.ireturn, 1) := by decide +kernel
theorem dX11_come_0 : decode cX11_come 0 = .ok (.aload_n 0, 1) := by decide +kernel
theorem dX11_come_1 : decode cX11_come 1 = .ok (.getfield 104, 3) := by decide +kernel
theorem dX11_come_4 : decode cX11_come 4 = .ok (.bipush 12, 2) := by decide +kernel
theorem dX11_come_6 : decode cX11_come 6 = .ok (.if_icmp .ne 6, 3) := by decide +kernel
theorem dX11_come_9 : decode cX11_come 9 = .ok (.bipush (-104), 2) := by decide +kernel
theorem dX11_come_11 : decode cX11_come 11 = .ok (.ireturn, 1) := by decide +kernel
theorem dX11_come_12 : decode cX11_come 12 = .ok (.aload_n 0, 1) := by decide +kernel
theorem dX11_come_13 : decode cX11_come 13 = .ok (.getfield 13, 3) := by decide +kernel
theorem dX11_come_16 : decode cX11_come 16 = .ok (.aload_n 0, 1) := by decide +kernel
theorem dX11_come_17 : decode cX11_come 17 = .ok (.getfield 104, 3) := by decide +kernel
theorem dX11_come_20 : decode cX11_come 20 = .ok (.iload_n 1, 1) := by decide +kernel
theorem dX11_come_21 : decode cX11_come 21 = .ok (.iastore, 1) := by decide +kernel
theorem dX11_come_22 : decode cX11_come 22 = .ok (.aload_n 0, 1) := by decide +kernel
theorem dX11_come_23 : decode cX11_come 23 = .ok (.getfield 16, 3) := by decide +kernel
theorem dX11_come_26 : decode cX11_come 26 = .ok (.iconst 4, 1) := by decide +kernel
theorem dX11_come_27 : decode cX11_come 27 = .ok (.aload_n 0, 1) := by decide +kernel
theorem dX11_come_28 : decode cX11_come 28 = .ok (.getfield 104, 3) := by decide +kernel
theorem dX11_come_31 : decode cX11_come 31 = .ok (.imul, 1) := by decide +kernel
theorem dX11_come_32 : decode cX11_come 32 = .ok (.iload_n 2, 1) := by decide +kernel
theorem dX11_come_33 : decode cX11_come 33 = .ok (.iastore, 1) := by decide +kernel
theorem dX11_come_34 : decode cX11_come 34 = .ok (.aload_n 0, 1) := by decide +kernel
theorem dX11_come_35 : decode cX11_come 35 = .ok (.getfield 16, 3) := by decide +kernel
theorem dX11_come_38 : decode cX11_come 38 = .ok (.iconst 4, 1) := by decide +kernel
theorem dX11_come_39 : decode cX11_come 39 = .ok (.aload_n 0, 1) := by decide +kernel
theorem dX11_come_40 : decode cX11_come 40 = .ok (.getfield 104, 3) := by decide +kernel
theorem dX11_come_43 : decode cX11_come 43 = .ok (.imul, 1) := by decide +kernel
theorem dX11_come_44 : decode cX11_come 44 = .ok (.iconst 1, 1) := by decide +kernel
theorem dX11_come_45 : decode cX11_come 45 = .ok (.iadd, 1) := by decide +kernel
theorem dX11_come_46 : decode cX11_come 46 = .ok (.iload_n 3, 1) := by decide +kernel
theorem dX11_come_47 : decode cX11_come 47 = .ok (.iastore, 1) := by decide +kernel
theorem dX11_come_48 : decode cX11_come 48 = .ok (.aload_n 0, 1) := by decide +kernel
theorem dX11_come_49 : decode cX11_come 49 = .ok (.getfield 16, 3) := by decide +kernel
theorem dX11_come_52 : decode cX11_come 52 = .ok (.iconst 4, 1) := by decide +kernel
theorem dX11_come_53 : decode cX11_come 53 = .ok (.aload_n 0, 1) := by decide +kernel
theorem dX11_come_54 : decode cX11_come 54 = .ok (.getfield 104, 3) := by decide +kernel
theorem dX11_come_57 : decode cX11_come 57 = .ok (.imul, 1) := by decide +kernel
theorem dX11_come_58 : decode cX11_come 58 = .ok (.iconst 2, 1) := by decide +kernel
theorem dX11_come_59 : decode cX11_come 59 = .ok (.iadd, 1) := by decide +kernel
theorem dX11_come_60 : decode cX11_come 60 = .ok (.iload 4, 2) := by decide +kernel
theorem dX11_come_62 : decode cX11_come 62 = .ok (.iastore, 1) := by decide +kernel
theorem dX11_come_63 : decode cX11_come 63 = .ok (.aload_n 0, 1) := by decide +kernel
theorem dX11_come_64 : decode cX11_come 64 = .ok (.getfield 16, 3) := by decide +kernel
theorem dX11_come_67 : decode cX11_come 67 = .ok (.iconst 4, 1) := by decide +kernel
theorem dX11_come_68 : decode cX11_come 68 = .ok (.aload_n 0, 1) := by decide +kernel
theorem dX11_come_69 : decode cX11_come 69 = .ok (.getfield 104, 3) := by decide +kernel
theorem dX11_come_72 : decode cX11_come 72 = .ok (.imul, 1) := by decide +kernel
theorem dX11_come_73 : decode cX11_come 73 = .ok (.iconst 3, 1) := by decide +kernel
theorem dX11_come_74 : decode cX11_come 74 = .ok (.iadd, 1) := by decide +kernel
theorem dX11_come_75 : decode cX11_come 75 = .ok (.iload 5, 2) := by decide +kernel
theorem dX11_come_77 : decode cX11_come 77 = .ok (.iastore, 1) := by decide +kernel
theorem dX11_come_78 : decode cX11_come 78 = .ok (.aload_n 0, 1) := by decide +kernel
theorem dX11_come_79 : decode cX11_come 79 = .ok (.dup, 1) := by decide +kernel
theorem dX11_come_80 : decode cX11_come 80 = .ok (.getfield 104, 3) := by decide +kernel
theorem dX11_come_83 : decode cX11_come 83 = .ok (.iconst 1, 1) := by decide +kernel
theorem dX11_come_84 : decode cX11_come 84 = .ok (.iadd, 1) := by decide +kernel
theorem dX11_come_85 : decode cX11_come 85 = .ok (.putfield 104, 3) := by decide +kernel
theorem dX11_come_88 : decode cX11_come 88 = .ok (.aload_n 0, 1) := by decide +kernel
theorem dX11_come_89 : decode cX11_come 89 = .ok (.iconst 0, 1) := by decide +kernel
theorem dX11_come_90 : decode cX11_come 90 = .ok (.putfield 100, 3) := by decide +kernel
theorem dX11_come_93 : decode cX11_come 93 = .ok (.aload_n 0, 1) := by decide +kernel
theorem dX11_come_94 : decode cX11_come 94 = .ok (.getfield 104, 3) := by decide +kernel
theorem dX11_come_97 : decode cX11_come 97 = .ok (.iconst 1, 1) := by decide +kernel
theorem dX11_come_98 : decode cX11_come 98 = .ok (.isub, 1) := by decide +kernel
theorem dX11_come_99 : decode cX11_come 99 = .ok (.ireturn, 1) := by decide +kernel
theorem dX11_write_0 : decode cX11_write 0 = .ok (.iload_n 1, 1) := by decide +kernel
theorem dX11_write_1 : decode cX11_write 1 = .ok (.invokestatic 93, 3) := by decide +kernel
theorem dX11_write_4 : decode cX11_write 4 = .ok (.ifCond .ne 6, 3) := by decide +kernel
theorem dX11_write_7 : decode cX11_write 7 = .ok (.bipush (-101), 2) := by decide +kernel
theorem dX11_write_9 : decode cX11_write 9 = .ok (.ireturn, 1) := by decide +kernel
theorem dX11_write_10 : decode cX11_write 10 = .ok (.iload_n 2, 1) := by decide +kernel
theorem dX11_write_11 : decode cX11_write 11 = .ok (.invokestatic 97, 3) := by decide +kernel
theorem dX11_write_14 : decode cX11_write 14 = .ok (.ifCond .eq 15, 3) := by decide +kernel
theorem dX11_write_17 : decode cX11_write 17 = .ok (.aload_n 0, 1) := by decide +kernel
theorem dX11_write_18 : decode cX11_write 18 = .ok (.iconst 0, 1) := by decide +kernel
theorem dX11_write_19 : decode cX11_write 19 = .ok (.iload_n 1, 1) := by decide +kernel
theorem dX11_write_20 : decode cX11_write 20 = .ok (.iload_n 2, 1) := by decide +kernel
theorem dX11_write_21 : decode cX11_write 21 = .ok (.iconst (-1), 1) := by decide +kernel
theorem dX11_write_22 : decode cX11_write 22 = .ok (.iconst (-1), 1) := by decide +kernel
theorem dX11_write_23 : decode cX11_write 23 = .ok (.invokevirtual 107, 3) := by decide +kernel
theorem dX11_write_26 : decode cX11_write 26 = .ok (.goto 5, 3) := by decide +kernel
theorem dX11_write_29 : decode cX11_write 29 = .ok (.bipush (-102), 2) := by decide +kernel
theorem dX11_write_31 : decode cX11_write 31 = .ok (.ireturn, 1) := by decide +kernel
theorem dX11_whole_0 : decode cX11_whole 0 = .ok (.iload_n 1, 1) := by decide +kernel
theorem dX11_whole_1 : decode cX11_whole 1 = .ok (.invokestatic 93, 3) := by decide +kernel
theorem dX11_whole_4 : decode cX11_whole 4 = .ok (.ifCond .eq 15, 3) := by decide +kernel
theorem dX11_whole_7 : decode cX11_whole 7 = .ok (.iload_n 3, 1) := by decide +kernel
theorem dX11_whole_8 : decode cX11_whole 8 = .ok (.invokestatic 93, 3) := by decide +kernel
theorem dX11_whole_11 : decode cX11_whole 11 = .ok (.ifCond .eq 8, 3) := by decide +kernel
theorem dX11_whole_14 : decode cX11_whole 14 = .ok (.iload_n 1, 1) := by decide +kernel
theorem dX11_whole_15 : decode cX11_whole 15 = .ok (.iload_n 3, 1) := by decide +kernel
theorem dX11_whole_16 : decode cX11_whole 16 = .ok (.if_icmp .ne 6, 3) := by decide +kernel
theorem dX11_whole_19 : decode cX11_whole 19 = .ok (.bipush (-101), 2) := by decide +kernel
theorem dX11_whole_21 : decode cX11_whole 21 = .ok (.ireturn, 1) := by decide +kernel
theorem dX11_whole_22 : decode cX11_whole 22 = .ok (.iload_n 2, 1) := by decide +kernel
theorem dX11_whole_23 : decode cX11_whole 23 = .ok (.invokestatic 97, 3) := by decide +kernel
theorem dX11_whole_26 : decode cX11_whole 26 = .ok (.ifCond .eq 24, 3) := by decide +kernel
theorem dX11_whole_29 : decode cX11_whole 29 = .ok (.iload 4, 2) := by decide +kernel
theorem dX11_whole_31 : decode cX11_whole 31 = .ok (.invokestatic 97, 3) := by decide +kernel
theorem dX11_whole_34 : decode cX11_whole 34 = .ok (.ifCond .eq 16, 3) := by decide +kernel
theorem dX11_whole_37 : decode cX11_whole 37 = .ok (.aload_n 0, 1) := by decide +kernel
theorem dX11_whole_38 : decode cX11_whole 38 = .ok (.iconst 1, 1) := by decide +kernel
theorem dX11_whole_39 : decode cX11_whole 39 = .ok (.iload_n 1, 1) := by decide +kernel
theorem dX11_whole_40 : decode cX11_whole 40 = .ok (.iload_n 2, 1) := by decide +kernel
theorem dX11_whole_41 : decode cX11_whole 41 = .ok (.iload_n 3, 1) := by decide +kernel
theorem dX11_whole_42 : decode cX11_whole 42 = .ok (.iload 4, 2) := by decide +kernel
theorem dX11_whole_44 : decode cX11_whole 44 = .ok (.invokevirtual 107, 3) := by decide +kernel
theorem dX11_whole_47 : decode cX11_whole 47 = .ok (.goto 5, 3) := by decide +kernel
theorem dX11_whole_50 : decode cX11_whole 50 = .ok (.bipush (-102), 2) := by decide +kernel
theorem dX11_whole_52 : decode cX11_whole 52 = .ok (.ireturn, 1) := by decide +kernel
theorem dX11_barrier_0 : decode cX11_barrier 0 = .ok (.aload_n 0, 1) := by decide +kernel
theorem dX11_barrier_1 : decode cX11_barrier 1 = .ok (.iconst 2, 1) := by decide +kernel
theorem dX11_barrier_2 : decode cX11_barrier 2 = .ok (.iconst (-1), 1) := by decide +kernel
theorem dX11_barrier_3 : decode cX11_barrier 3 = .ok (.iconst (-1), 1) := by decide +kernel
theorem dX11_barrier_4 : decode cX11_barrier 4 = .ok (.iconst (-1), 1) := by decide +kernel
theorem dX11_barrier_5 : decode cX11_barrier 5 = .ok (.iconst (-1), 1) := by decide +kernel
theorem dX11_barrier_6 : decode cX11_barrier 6 = .ok (.invokevirtual 107, 3) := by decide +kernel
theorem dX11_barrier_9 : decode cX11_barrier 9 = .ok (.ireturn, 1) := by decide +kernel
theorem dX11_flush_0 : decode cX11_flush 0 = .ok (.aload_n 0, 1) := by decide +kernel
theorem dX11_flush_1 : decode cX11_flush 1 = .ok (.iconst 3, 1) := by decide +kernel
theorem dX11_flush_2 : decode cX11_flush 2 = .ok (.iconst (-1), 1) := by decide +kernel
theorem dX11_flush_3 : decode cX11_flush 3 = .ok (.iconst (-1), 1) := by decide +kernel
theorem dX11_flush_4 : decode cX11_flush 4 = .ok (.iconst (-1), 1) := by decide +kernel
theorem dX11_flush_5 : decode cX11_flush 5 = .ok (.iconst (-1), 1) := by decide +kernel
theorem dX11_flush_6 : decode cX11_flush 6 = .ok (.invokevirtual 107, 3) := by decide +kernel
theorem dX11_flush_9 : decode cX11_flush 9 = .ok (.ireturn, 1) := by decide +kernel
theorem dX11_tell_0 : decode cX11_tell 0 = .ok (.iload_n 1, 1) := by decide +kernel
theorem dX11_tell_1 : decode cX11_tell 1 = .ok (.iconst 0, 1) := by decide +kernel
theorem dX11_tell_2 : decode cX11_tell 2 = .ok (.aload_n 0, 1) := by decide +kernel
theorem dX11_tell_3 : decode cX11_tell 3 = .ok (.getfield 111, 3) := by decide +kernel
theorem dX11_tell_6 : decode cX11_tell 6 = .ok (.iconst 1, 1) := by decide +kernel
theorem dX11_tell_7 : decode cX11_tell 7 = .ok (.isub, 1) := by decide +kernel
theorem dX11_tell_8 : decode cX11_tell 8 = .ok (.invokestatic 89, 3) := by decide +kernel
theorem dX11_tell_11 : decode cX11_tell 11 = .ok (.ifCond .eq 15, 3) := by decide +kernel
theorem dX11_tell_14 : decode cX11_tell 14 = .ok (.aload_n 0, 1) := by decide +kernel
theorem dX11_tell_15 : decode cX11_tell 15 = .ok (.iconst 4, 1) := by decide +kernel
theorem dX11_tell_16 : decode cX11_tell 16 = .ok (.iload_n 1, 1) := by decide +kernel
theorem dX11_tell_17 : decode cX11_tell 17 = .ok (.iconst (-1), 1) := by decide +kernel
theorem dX11_tell_18 : decode cX11_tell 18 = .ok (.iconst (-1), 1) := by decide +kernel
theorem dX11_tell_19 : decode cX11_tell 19 = .ok (.iconst (-1), 1) := by decide +kernel
theorem dX11_tell_20 : decode cX11_tell 20 = .ok (.invokevirtual 107, 3) := by decide +kernel
theorem dX11_tell_23 : decode cX11_tell 23 = .ok (.goto 5, 3) := by decide +kernel
theorem dX11_tell_26 : decode cX11_tell 26 = .ok (.bipush (-101), 2) := by decide +kernel
theorem dX11_tell_28 : decode cX11_tell 28 = .ok (.ireturn, 1) := by decide +kernel
theorem dX11_undo_0 : decode cX11_undo 0 = .ok (.aload_n 0, 1) := by decide +kernel
theorem dX11_undo_1 : decode cX11_undo 1 = .ok (.getfield 104, 3) := by decide +kernel
theorem dX11_undo_4 : decode cX11_undo 4 = .ok (.ifCond .ne 6, 3) := by decide +kernel
theorem dX11_undo_7 : decode cX11_undo 7 = .ok (.bipush (-103), 2) := by decide +kernel
theorem dX11_undo_9 : decode cX11_undo 9 = .ok (.ireturn, 1) := by decide +kernel
theorem dX11_undo_10 : decode cX11_undo 10 = .ok (.aload_n 0, 1) := by decide +kernel
theorem dX11_undo_11 : decode cX11_undo 11 = .ok (.dup, 1) := by decide +kernel
theorem dX11_undo_12 : decode cX11_undo 12 = .ok (.getfield 104, 3) := by decide +kernel
theorem dX11_undo_15 : decode cX11_undo 15 = .ok (.iconst 1, 1) := by decide +kernel
theorem dX11_undo_16 : decode cX11_undo 16 = .ok (.isub, 1) := by decide +kernel
theorem dX11_undo_17 : decode cX11_undo 17 = .ok (.putfield 104, 3) := by decide +kernel
theorem dX11_undo_20 : decode cX11_undo 20 = .ok (.aload_n 0, 1) := by decide +kernel
theorem dX11_undo_21 : decode cX11_undo 21 = .ok (.iconst 0, 1) := by decide +kernel
theorem dX11_undo_22 : decode cX11_undo 22 = .ok (.putfield 100, 3) := by decide +kernel
theorem dX11_undo_25 : decode cX11_undo 25 = .ok (.aload_n 0, 1) := by decide +kernel
theorem dX11_undo_26 : decode cX11_undo 26 = .ok (.getfield 104, 3) := by decide +kernel
theorem dX11_undo_29 : decode cX11_undo 29 = .ok (.ireturn, 1) := by decide +kernel
theorem dX11_swap_0 : decode cX11_swap 0 = .ok (.iload_n 1, 1) := by decide +kernel
theorem dX11_swap_1 : decode cX11_swap 1 = .ok (.iconst 0, 1) := by decide +kernel
theorem dX11_swap_2 : decode cX11_swap 2 = .ok (.aload_n 0, 1) := by decide +kernel
theorem dX11_swap_3 : decode cX11_swap 3 = .ok (.getfield 104, 3) := by decide +kernel
theorem dX11_swap_6 : decode cX11_swap 6 = .ok (.iconst 1, 1) := by decide +kernel
theorem dX11_swap_7 : decode cX11_swap 7 = .ok (.isub, 1) := by decide +kernel
theorem dX11_swap_8 : decode cX11_swap 8 = .ok (.invokestatic 89, 3) := by decide +kernel
theorem dX11_swap_11 : decode cX11_swap 11 = .ok (.ifCond .eq 17, 3) := by decide +kernel
theorem dX11_swap_14 : decode cX11_swap 14 = .ok (.iload_n 2, 1) := by decide +kernel
theorem dX11_swap_15 : decode cX11_swap 15 = .ok (.iconst 0, 1) := by decide +kernel
theorem dX11_swap_16 : decode cX11_swap 16 = .ok (.aload_n 0, 1) := by decide +kernel
theorem dX11_swap_17 : decode cX11_swap 17 = .ok (.getfield 104, 3) := by decide +kernel
theorem dX11_swap_20 : decode cX11_swap 20 = .ok (.iconst 1, 1) := by decide +kernel
theorem dX11_swap_21 : decode cX11_swap 21 = .ok (.isub, 1) := by decide +kernel
theorem dX11_swap_22 : decode cX11_swap 22 = .ok (.invokestatic 89, 3) := by decide +kernel
theorem dX11_swap_25 : decode cX11_swap 25 = .ok (.ifCond .ne 6, 3) := by decide +kernel
theorem dX11_swap_28 : decode cX11_swap 28 = .ok (.bipush (-101), 2) := by decide +kernel
theorem dX11_swap_30 : decode cX11_swap 30 = .ok (.ireturn, 1) := by decide +kernel
theorem dX11_swap_31 : decode cX11_swap 31 = .ok (.aload_n 0, 1) := by decide +kernel
theorem dX11_swap_32 : decode cX11_swap 32 = .ok (.getfield 13, 3) := by decide +kernel
theorem dX11_swap_35 : decode cX11_swap 35 = .ok (.iload_n 1, 1) := by decide +kernel
theorem dX11_swap_36 : decode cX11_swap 36 = .ok (.iaload, 1) := by decide +kernel
theorem dX11_swap_37 : decode cX11_swap 37 = .ok (.istore_n 3, 1) := by decide +kernel
theorem dX11_swap_38 : decode cX11_swap 38 = .ok (.aload_n 0, 1) := by decide +kernel
theorem dX11_swap_39 : decode cX11_swap 39 = .ok (.getfield 13, 3) := by decide +kernel
theorem dX11_swap_42 : decode cX11_swap 42 = .ok (.iload_n 1, 1) := by decide +kernel
theorem dX11_swap_43 : decode cX11_swap 43 = .ok (.aload_n 0, 1) := by decide +kernel
theorem dX11_swap_44 : decode cX11_swap 44 = .ok (.getfield 13, 3) := by decide +kernel
theorem dX11_swap_47 : decode cX11_swap 47 = .ok (.iload_n 2, 1) := by decide +kernel
theorem dX11_swap_48 : decode cX11_swap 48 = .ok (.iaload, 1) := by decide +kernel
theorem dX11_swap_49 : decode cX11_swap 49 = .ok (.iastore, 1) := by decide +kernel
theorem dX11_swap_50 : decode cX11_swap 50 = .ok (.aload_n 0, 1) := by decide +kernel
theorem dX11_swap_51 : decode cX11_swap 51 = .ok (.getfield 13, 3) := by decide +kernel
theorem dX11_swap_54 : decode cX11_swap 54 = .ok (.iload_n 2, 1) := by decide +kernel
theorem dX11_swap_55 : decode cX11_swap 55 = .ok (.iload_n 3, 1) := by decide +kernel
theorem dX11_swap_56 : decode cX11_swap 56 = .ok (.iastore, 1) := by decide +kernel
theorem dX11_swap_57 : decode cX11_swap 57 = .ok (.iconst 0, 1) := by decide +kernel
theorem dX11_swap_58 : decode cX11_swap 58 = .ok (.istore 4, 2) := by decide +kernel
theorem dX11_swap_60 : decode cX11_swap 60 = .ok (.iload 4, 2) := by decide +kernel
theorem dX11_swap_62 : decode cX11_swap 62 = .ok (.iconst 4, 1) := by decide +kernel
theorem dX11_swap_63 : decode cX11_swap 63 = .ok (.if_icmp .ge 57, 3) := by decide +kernel
theorem dX11_swap_66 : decode cX11_swap 66 = .ok (.aload_n 0, 1) := by decide +kernel
theorem dX11_swap_67 : decode cX11_swap 67 = .ok (.getfield 16, 3) := by decide +kernel
theorem dX11_swap_70 : decode cX11_swap 70 = .ok (.iconst 4, 1) := by decide +kernel
theorem dX11_swap_71 : decode cX11_swap 71 = .ok (.iload_n 1, 1) := by decide +kernel
theorem dX11_swap_72 : decode cX11_swap 72 = .ok (.imul, 1) := by decide +kernel
theorem dX11_swap_73 : decode cX11_swap 73 = .ok (.iload 4, 2) := by decide +kernel
theorem dX11_swap_75 : decode cX11_swap 75 = .ok (.iadd, 1) := by decide +kernel
theorem dX11_swap_76 : decode cX11_swap 76 = .ok (.iaload, 1) := by decide +kernel
theorem dX11_swap_77 : decode cX11_swap 77 = .ok (.istore 5, 2) := by decide +kernel
theorem dX11_swap_79 : decode cX11_swap 79 = .ok (.aload_n 0, 1) := by decide +kernel
theorem dX11_swap_80 : decode cX11_swap 80 = .ok (.getfield 16, 3) := by decide +kernel
theorem dX11_swap_83 : decode cX11_swap 83 = .ok (.iconst 4, 1) := by decide +kernel
theorem dX11_swap_84 : decode cX11_swap 84 = .ok (.iload_n 1, 1) := by decide +kernel
theorem dX11_swap_85 : decode cX11_swap 85 = .ok (.imul, 1) := by decide +kernel
theorem dX11_swap_86 : decode cX11_swap 86 = .ok (.iload 4, 2) := by decide +kernel
theorem dX11_swap_88 : decode cX11_swap 88 = .ok (.iadd, 1) := by decide +kernel
theorem dX11_swap_89 : decode cX11_swap 89 = .ok (.aload_n 0, 1) := by decide +kernel
theorem dX11_swap_90 : decode cX11_swap 90 = .ok (.getfield 16, 3) := by decide +kernel
theorem dX11_swap_93 : decode cX11_swap 93 = .ok (.iconst 4, 1) := by decide +kernel
theorem dX11_swap_94 : decode cX11_swap 94 = .ok (.iload_n 2, 1) := by decide +kernel
theorem dX11_swap_95 : decode cX11_swap 95 = .ok (.imul, 1) := by decide +kernel
theorem dX11_swap_96 : decode cX11_swap 96 = .ok (.iload 4, 2) := by decide +kernel
theorem dX11_swap_98 : decode cX11_swap 98 = .ok (.iadd, 1) := by decide +kernel
theorem dX11_swap_99 : decode cX11_swap 99 = .ok (.iaload, 1) := by decide +kernel
theorem dX11_swap_100 : decode cX11_swap 100 = .ok (.iastore, 1) := by decide +kernel
theorem dX11_swap_101 : decode cX11_swap 101 = .ok (.aload_n 0, 1) := by decide +kernel
theorem dX11_swap_102 : decode cX11_swap 102 = .ok (.getfield 16, 3) := by decide +kernel
theorem dX11_swap_105 : decode cX11_swap 105 = .ok (.iconst 4, 1) := by decide +kernel
theorem dX11_swap_106 : decode cX11_swap 106 = .ok (.iload_n 2, 1) := by decide +kernel
theorem dX11_swap_107 : decode cX11_swap 107 = .ok (.imul, 1) := by decide +kernel
theorem dX11_swap_108 : decode cX11_swap 108 = .ok (.iload 4, 2) := by decide +kernel
theorem dX11_swap_110 : decode cX11_swap 110 = .ok (.iadd, 1) := by decide +kernel
theorem dX11_swap_111 : decode cX11_swap 111 = .ok (.iload 5, 2) := by decide +kernel
theorem dX11_swap_113 : decode cX11_swap 113 = .ok (.iastore, 1) := by decide +kernel
theorem dX11_swap_114 : decode cX11_swap 114 = .ok (.iinc 4 1, 3) := by decide +kernel
theorem dX11_swap_117 : decode cX11_swap 117 = .ok (.goto (-57), 3) := by decide +kernel
theorem dX11_swap_120 : decode cX11_swap 120 = .ok (.aload_n 0, 1) := by decide +kernel
theorem dX11_swap_121 : decode cX11_swap 121 = .ok (.iconst 0, 1) := by decide +kernel
theorem dX11_swap_122 : decode cX11_swap 122 = .ok (.putfield 100, 3) := by decide +kernel
theorem dX11_swap_125 : decode cX11_swap 125 = .ok (.iconst 1, 1) := by decide +kernel
theorem dX11_swap_126 : decode cX11_swap 126 = .ok (.ireturn, 1) := by decide +kernel
theorem dX11_act_0 : decode cX11_act 0 = .ok (.iload_n 1, 1) := by decide +kernel
theorem dX11_act_1 : decode cX11_act 1 = .ok (.iconst 0, 1) := by decide +kernel
theorem dX11_act_2 : decode cX11_act 2 = .ok (.aload_n 0, 1) := by decide +kernel
theorem dX11_act_3 : decode cX11_act 3 = .ok (.getfield 104, 3) := by decide +kernel
theorem dX11_act_6 : decode cX11_act 6 = .ok (.iconst 1, 1) := by decide +kernel
theorem dX11_act_7 : decode cX11_act 7 = .ok (.isub, 1) := by decide +kernel
theorem dX11_act_8 : decode cX11_act 8 = .ok (.invokestatic 89, 3) := by decide +kernel
theorem dX11_act_11 : decode cX11_act 11 = .ok (.ifCond .ne 6, 3) := by decide +kernel
theorem dX11_act_14 : decode cX11_act 14 = .ok (.bipush (-101), 2) := by decide +kernel
theorem dX11_act_16 : decode cX11_act 16 = .ok (.ireturn, 1) := by decide +kernel
theorem dX11_act_17 : decode cX11_act 17 = .ok (.iload_n 2, 1) := by decide +kernel
theorem dX11_act_18 : decode cX11_act 18 = .ok (.ifCond .ne 12, 3) := by decide +kernel
theorem dX11_act_21 : decode cX11_act 21 = .ok (.aload_n 0, 1) := by decide +kernel
theorem dX11_act_22 : decode cX11_act 22 = .ok (.getfield 13, 3) := by decide +kernel
theorem dX11_act_25 : decode cX11_act 25 = .ok (.iload_n 1, 1) := by decide +kernel
theorem dX11_act_26 : decode cX11_act 26 = .ok (.iaload, 1) := by decide +kernel
theorem dX11_act_27 : decode cX11_act 27 = .ok (.goto 29, 3) := by decide +kernel
theorem dX11_act_30 : decode cX11_act 30 = .ok (.iload_n 2, 1) := by decide +kernel
theorem dX11_act_31 : decode cX11_act 31 = .ok (.iconst 1, 1) := by decide +kernel
theorem dX11_act_32 : decode cX11_act 32 = .ok (.iconst 4, 1) := by decide +kernel
theorem dX11_act_33 : decode cX11_act 33 = .ok (.invokestatic 89, 3) := by decide +kernel
theorem dX11_act_36 : decode cX11_act 36 = .ok (.ifCond .eq 18, 3) := by decide +kernel
theorem dX11_act_39 : decode cX11_act 39 = .ok (.aload_n 0, 1) := by decide +kernel
theorem dX11_act_40 : decode cX11_act 40 = .ok (.getfield 16, 3) := by decide +kernel
theorem dX11_act_43 : decode cX11_act 43 = .ok (.iconst 4, 1) := by decide +kernel
theorem dX11_act_44 : decode cX11_act 44 = .ok (.iload_n 1, 1) := by decide +kernel
theorem dX11_act_45 : decode cX11_act 45 = .ok (.imul, 1) := by decide +kernel
theorem dX11_act_46 : decode cX11_act 46 = .ok (.iload_n 2, 1) := by decide +kernel
theorem dX11_act_47 : decode cX11_act 47 = .ok (.iadd, 1) := by decide +kernel
theorem dX11_act_48 : decode cX11_act 48 = .ok (.iconst 1, 1) := by decide +kernel
theorem dX11_act_49 : decode cX11_act 49 = .ok (.isub, 1) := by decide +kernel
theorem dX11_act_50 : decode cX11_act 50 = .ok (.iaload, 1) := by decide +kernel
theorem dX11_act_51 : decode cX11_act 51 = .ok (.goto 5, 3) := by decide +kernel
theorem dX11_act_54 : decode cX11_act 54 = .ok (.bipush (-102), 2) := by decide +kernel
theorem dX11_act_56 : decode cX11_act 56 = .ok (.ireturn, 1) := by decide +kernel
theorem dX11_isWrite_0 : decode cX11_isWrite 0 = .ok (.aload_n 0, 1) := by decide +kernel
theorem dX11_isWrite_1 : decode cX11_isWrite 1 = .ok (.getfield 13, 3) := by decide +kernel
theorem dX11_isWrite_4 : decode cX11_isWrite 4 = .ok (.iload_n 1, 1) := by decide +kernel
theorem dX11_isWrite_5 : decode cX11_isWrite 5 = .ok (.iaload, 1) := by decide +kernel
theorem dX11_isWrite_6 : decode cX11_isWrite 6 = .ok (.ifCond .eq 13, 3) := by decide +kernel
theorem dX11_isWrite_9 : decode cX11_isWrite 9 = .ok (.aload_n 0, 1) := by decide +kernel
theorem dX11_isWrite_10 : decode cX11_isWrite 10 = .ok (.getfield 13, 3) := by decide +kernel
theorem dX11_isWrite_13 : decode cX11_isWrite 13 = .ok (.iload_n 1, 1) := by decide +kernel
theorem dX11_isWrite_14 : decode cX11_isWrite 14 = .ok (.iaload, 1) := by decide +kernel
theorem dX11_isWrite_15 : decode cX11_isWrite 15 = .ok (.iconst 1, 1) := by decide +kernel
theorem dX11_isWrite_16 : decode cX11_isWrite 16 = .ok (.if_icmp .ne 7, 3) := by decide +kernel
theorem dX11_isWrite_19 : decode cX11_isWrite 19 = .ok (.iconst 1, 1) := by decide +kernel
theorem dX11_isWrite_20 : decode cX11_isWrite 20 = .ok (.goto 4, 3) := by decide +kernel
theorem dX11_isWrite_23 : decode cX11_isWrite 23 = .ok (.iconst 0, 1) := by decide +kernel
theorem dX11_isWrite_24 : decode cX11_isWrite 24 = .ok (.ireturn, 1) := by decide +kernel
theorem dX11_lay_0 : decode cX11_lay 0 = .ok (.lload_n 1, 1) := by decide +kernel
theorem dX11_lay_1 : decode cX11_lay 1 = .ok (.lstore_n 3, 1) := by decide +kernel
theorem dX11_lay_2 : decode cX11_lay 2 = .ok (.iconst 0, 1) := by decide +kernel
theorem dX11_lay_3 : decode cX11_lay 3 = .ok (.istore 5, 2) := by decide +kernel
theorem dX11_lay_5 : decode cX11_lay 5 = .ok (.iload 5, 2) := by decide +kernel
theorem dX11_lay_7 : decode cX11_lay 7 = .ok (.bipush 8, 2) := by decide +kernel
theorem dX11_lay_9 : decode cX11_lay 9 = .ok (.if_icmp .ge 28, 3) := by decide +kernel
theorem dX11_lay_12 : decode cX11_lay 12 = .ok (.aload_n 0, 1) := by decide +kernel
theorem dX11_lay_13 : decode cX11_lay 13 = .ok (.getfield 46, 3) := by decide +kernel
theorem dX11_lay_16 : decode cX11_lay 16 = .ok (.iload 5, 2) := by decide +kernel
theorem dX11_lay_18 : decode cX11_lay 18 = .ok (.lload_n 3, 1) := by decide +kernel
theorem dX11_lay_19 : decode cX11_lay 19 = .ok (.ldc2_w 114, 3) := by decide +kernel
theorem dX11_lay_22 : decode cX11_lay 22 = .ok (.lrem, 1) := by decide +kernel
theorem dX11_lay_23 : decode cX11_lay 23 = .ok (.l2i, 1) := by decide +kernel
theorem dX11_lay_24 : decode cX11_lay 24 = .ok (.iastore, 1) := by decide +kernel
theorem dX11_lay_25 : decode cX11_lay 25 = .ok (.lload_n 3, 1) := by decide +kernel
theorem dX11_lay_26 : decode cX11_lay 26 = .ok (.ldc2_w 114, 3) := by decide +kernel
theorem dX11_lay_29 : decode cX11_lay 29 = .ok (.ldiv, 1) := by decide +kernel
theorem dX11_lay_30 : decode cX11_lay 30 = .ok (.lstore_n 3, 1) := by decide +kernel
theorem dX11_lay_31 : decode cX11_lay 31 = .ok (.iinc 5 1, 3) := by decide +kernel
theorem dX11_lay_34 : decode cX11_lay 34 = .ok (.goto (-29), 3) := by decide +kernel
theorem dX11_lay_37 : decode cX11_lay 37 = .ok (.return_, 1) := by decide +kernel
theorem dX11_told_0 : decode cX11_told 0 = .ok (.lconst 0, 1) := by decide +kernel
theorem dX11_told_1 : decode cX11_told 1 = .ok (.lstore_n 1, 1) := by decide +kernel
theorem dX11_told_2 : decode cX11_told 2 = .ok (.bipush 7, 2) := by decide +kernel
theorem dX11_told_4 : decode cX11_told 4 = .ok (.istore_n 3, 1) := by decide +kernel
theorem dX11_told_5 : decode cX11_told 5 = .ok (.iload_n 3, 1) := by decide +kernel
theorem dX11_told_6 : decode cX11_told 6 = .ok (.ifCond .lt 23, 3) := by decide +kernel
theorem dX11_told_9 : decode cX11_told 9 = .ok (.ldc2_w 114, 3) := by decide +kernel
theorem dX11_told_12 : decode cX11_told 12 = .ok (.lload_n 1, 1) := by decide +kernel
theorem dX11_told_13 : decode cX11_told 13 = .ok (.lmul, 1) := by decide +kernel
theorem dX11_told_14 : decode cX11_told 14 = .ok (.aload_n 0, 1) := by decide +kernel
theorem dX11_told_15 : decode cX11_told 15 = .ok (.getfield 46, 3) := by decide +kernel
theorem dX11_told_18 : decode cX11_told 18 = .ok (.iload_n 3, 1) := by decide +kernel
theorem dX11_told_19 : decode cX11_told 19 = .ok (.iaload, 1) := by decide +kernel
theorem dX11_told_20 : decode cX11_told 20 = .ok (.i2l, 1) := by decide +kernel
theorem dX11_told_21 : decode cX11_told 21 = .ok (.ladd, 1) := by decide +kernel
theorem dX11_told_22 : decode cX11_told 22 = .ok (.lstore_n 1, 1) := by decide +kernel
theorem dX11_told_23 : decode cX11_told 23 = .ok (.iinc 3 (-1), 3) := by decide +kernel
theorem dX11_told_26 : decode cX11_told 26 = .ok (.goto (-21), 3) := by decide +kernel
theorem dX11_told_29 : decode cX11_told 29 = .ok (.lload_n 1, 1) := by decide +kernel
theorem dX11_told_30 : decode cX11_told 30 = .ok (.lreturn, 1) := by decide +kernel
theorem dX11_plateOf_0 : decode cX11_plateOf 0 = .ok (.iconst 0, 1) := by decide +kernel
theorem dX11_plateOf_1 : decode cX11_plateOf 1 = .ok (.istore_n 2, 1) := by decide +kernel
theorem dX11_plateOf_2 : decode cX11_plateOf 2 = .ok (.iload_n 2, 1) := by decide +kernel
theorem dX11_plateOf_3 : decode cX11_plateOf 3 = .ok (.bipush 8, 2) := by decide +kernel
theorem dX11_plateOf_5 : decode cX11_plateOf 5 = .ok (.if_icmp .ge 21, 3) := by decide +kernel
theorem dX11_plateOf_8 : decode cX11_plateOf 8 = .ok (.aload_n 0, 1) := by decide +kernel
theorem dX11_plateOf_9 : decode cX11_plateOf 9 = .ok (.getfield 46, 3) := by decide +kernel
theorem dX11_plateOf_12 : decode cX11_plateOf 12 = .ok (.iload_n 2, 1) := by decide +kernel
theorem dX11_plateOf_13 : decode cX11_plateOf 13 = .ok (.aload_n 0, 1) := by decide +kernel
theorem dX11_plateOf_14 : decode cX11_plateOf 14 = .ok (.getfield 7, 3) := by decide +kernel
theorem dX11_plateOf_17 : decode cX11_plateOf 17 = .ok (.iload_n 2, 1) := by decide +kernel
theorem dX11_plateOf_18 : decode cX11_plateOf 18 = .ok (.iaload, 1) := by decide +kernel
theorem dX11_plateOf_19 : decode cX11_plateOf 19 = .ok (.iastore, 1) := by decide +kernel
theorem dX11_plateOf_20 : decode cX11_plateOf 20 = .ok (.iinc 2 1, 3) := by decide +kernel
theorem dX11_plateOf_23 : decode cX11_plateOf 23 = .ok (.goto (-21), 3) := by decide +kernel
theorem dX11_plateOf_26 : decode cX11_plateOf 26 = .ok (.iconst 0, 1) := by decide +kernel
theorem dX11_plateOf_27 : decode cX11_plateOf 27 = .ok (.istore_n 2, 1) := by decide +kernel
theorem dX11_plateOf_28 : decode cX11_plateOf 28 = .ok (.iload_n 2, 1) := by decide +kernel
theorem dX11_plateOf_29 : decode cX11_plateOf 29 = .ok (.aload_n 0, 1) := by decide +kernel
theorem dX11_plateOf_30 : decode cX11_plateOf 30 = .ok (.getfield 104, 3) := by decide +kernel
theorem dX11_plateOf_33 : decode cX11_plateOf 33 = .ok (.if_icmp .ge 76, 3) := by decide +kernel
theorem dX11_plateOf_36 : decode cX11_plateOf 36 = .ok (.iload_n 1, 1) := by decide +kernel
theorem dX11_plateOf_37 : decode cX11_plateOf 37 = .ok (.iload_n 2, 1) := by decide +kernel
theorem dX11_plateOf_38 : decode cX11_plateOf 38 = .ok (.ishr, 1) := by decide +kernel
theorem dX11_plateOf_39 : decode cX11_plateOf 39 = .ok (.iconst 1, 1) := by decide +kernel
theorem dX11_plateOf_40 : decode cX11_plateOf 40 = .ok (.iand, 1) := by decide +kernel
theorem dX11_plateOf_41 : decode cX11_plateOf 41 = .ok (.iconst 1, 1) := by decide +kernel
theorem dX11_plateOf_42 : decode cX11_plateOf 42 = .ok (.if_icmp .ne 61, 3) := by decide +kernel
theorem dX11_plateOf_45 : decode cX11_plateOf 45 = .ok (.aload_n 0, 1) := by decide +kernel
theorem dX11_plateOf_46 : decode cX11_plateOf 46 = .ok (.getfield 46, 3) := by decide +kernel
theorem dX11_plateOf_49 : decode cX11_plateOf 49 = .ok (.aload_n 0, 1) := by decide +kernel
theorem dX11_plateOf_50 : decode cX11_plateOf 50 = .ok (.getfield 16, 3) := by decide +kernel
theorem dX11_plateOf_53 : decode cX11_plateOf 53 = .ok (.iconst 4, 1) := by decide +kernel
theorem dX11_plateOf_54 : decode cX11_plateOf 54 = .ok (.iload_n 2, 1) := by decide +kernel
theorem dX11_plateOf_55 : decode cX11_plateOf 55 = .ok (.imul, 1) := by decide +kernel
theorem dX11_plateOf_56 : decode cX11_plateOf 56 = .ok (.iaload, 1) := by decide +kernel
theorem dX11_plateOf_57 : decode cX11_plateOf 57 = .ok (.aload_n 0, 1) := by decide +kernel
theorem dX11_plateOf_58 : decode cX11_plateOf 58 = .ok (.getfield 16, 3) := by decide +kernel
theorem dX11_plateOf_61 : decode cX11_plateOf 61 = .ok (.iconst 4, 1) := by decide +kernel
theorem dX11_plateOf_62 : decode cX11_plateOf 62 = .ok (.iload_n 2, 1) := by decide +kernel
theorem dX11_plateOf_63 : decode cX11_plateOf 63 = .ok (.imul, 1) := by decide +kernel
theorem dX11_plateOf_64 : decode cX11_plateOf 64 = .ok (.iconst 1, 1) := by decide +kernel
theorem dX11_plateOf_65 : decode cX11_plateOf 65 = .ok (.iadd, 1) := by decide +kernel
theorem dX11_plateOf_66 : decode cX11_plateOf 66 = .ok (.iaload, 1) := by decide +kernel
theorem dX11_plateOf_67 : decode cX11_plateOf 67 = .ok (.iastore, 1) := by decide +kernel
theorem dX11_plateOf_68 : decode cX11_plateOf 68 = .ok (.aload_n 0, 1) := by decide +kernel
theorem dX11_plateOf_69 : decode cX11_plateOf 69 = .ok (.getfield 13, 3) := by decide +kernel
theorem dX11_plateOf_72 : decode cX11_plateOf 72 = .ok (.iload_n 2, 1) := by decide +kernel
theorem dX11_plateOf_73 : decode cX11_plateOf 73 = .ok (.iaload, 1) := by decide +kernel
theorem dX11_plateOf_74 : decode cX11_plateOf 74 = .ok (.iconst 1, 1) := by decide +kernel
theorem dX11_plateOf_75 : decode cX11_plateOf 75 = .ok (.if_icmp .ne 28, 3) := by decide +kernel
theorem dX11_plateOf_78 : decode cX11_plateOf 78 = .ok (.aload_n 0, 1) := by decide +kernel
theorem dX11_plateOf_79 : decode cX11_plateOf 79 = .ok (.getfield 46, 3) := by decide +kernel
theorem dX11_plateOf_82 : decode cX11_plateOf 82 = .ok (.aload_n 0, 1) := by decide +kernel
theorem dX11_plateOf_83 : decode cX11_plateOf 83 = .ok (.getfield 16, 3) := by decide +kernel
theorem dX11_plateOf_86 : decode cX11_plateOf 86 = .ok (.iconst 4, 1) := by decide +kernel
theorem dX11_plateOf_87 : decode cX11_plateOf 87 = .ok (.iload_n 2, 1) := by decide +kernel
theorem dX11_plateOf_88 : decode cX11_plateOf 88 = .ok (.imul, 1) := by decide +kernel
theorem dX11_plateOf_89 : decode cX11_plateOf 89 = .ok (.iconst 2, 1) := by decide +kernel
theorem dX11_plateOf_90 : decode cX11_plateOf 90 = .ok (.iadd, 1) := by decide +kernel
theorem dX11_plateOf_91 : decode cX11_plateOf 91 = .ok (.iaload, 1) := by decide +kernel
theorem dX11_plateOf_92 : decode cX11_plateOf 92 = .ok (.aload_n 0, 1) := by decide +kernel
theorem dX11_plateOf_93 : decode cX11_plateOf 93 = .ok (.getfield 16, 3) := by decide +kernel
theorem dX11_plateOf_96 : decode cX11_plateOf 96 = .ok (.iconst 4, 1) := by decide +kernel
theorem dX11_plateOf_97 : decode cX11_plateOf 97 = .ok (.iload_n 2, 1) := by decide +kernel
theorem dX11_plateOf_98 : decode cX11_plateOf 98 = .ok (.imul, 1) := by decide +kernel
theorem dX11_plateOf_99 : decode cX11_plateOf 99 = .ok (.iconst 3, 1) := by decide +kernel
theorem dX11_plateOf_100 : decode cX11_plateOf 100 = .ok (.iadd, 1) := by decide +kernel
theorem dX11_plateOf_101 : decode cX11_plateOf 101 = .ok (.iaload, 1) := by decide +kernel
theorem dX11_plateOf_102 : decode cX11_plateOf 102 = .ok (.iastore, 1) := by decide +kernel
theorem dX11_plateOf_103 : decode cX11_plateOf 103 = .ok (.iinc 2 1, 3) := by decide +kernel
theorem dX11_plateOf_106 : decode cX11_plateOf 106 = .ok (.goto (-78), 3) := by decide +kernel
theorem dX11_plateOf_109 : decode cX11_plateOf 109 = .ok (.aload_n 0, 1) := by decide +kernel
theorem dX11_plateOf_110 : decode cX11_plateOf 110 = .ok (.invokevirtual 116, 3) := by decide +kernel
theorem dX11_plateOf_113 : decode cX11_plateOf 113 = .ok (.lreturn, 1) := by decide +kernel
theorem dX11_writesAhead_0 : decode cX11_writesAhead 0 = .ok (.iconst 0, 1) := by decide +kernel
theorem dX11_writesAhead_1 : decode cX11_writesAhead 1 = .ok (.istore_n 2, 1) := by decide +kernel
theorem dX11_writesAhead_2 : decode cX11_writesAhead 2 = .ok (.iconst 0, 1) := by decide +kernel
theorem dX11_writesAhead_3 : decode cX11_writesAhead 3 = .ok (.istore_n 3, 1) := by decide +kernel
theorem dX11_writesAhead_4 : decode cX11_writesAhead 4 = .ok (.iload_n 3, 1) := by decide +kernel
theorem dX11_writesAhead_5 : decode cX11_writesAhead 5 = .ok (.iload_n 1, 1) := by decide +kernel
theorem dX11_writesAhead_6 : decode cX11_writesAhead 6 = .ok (.if_icmp .ge 27, 3) := by decide +kernel
theorem dX11_writesAhead_9 : decode cX11_writesAhead 9 = .ok (.iload_n 2, 1) := by decide +kernel
theorem dX11_writesAhead_10 : decode cX11_writesAhead 10 = .ok (.aload_n 0, 1) := by decide +kernel
theorem dX11_writesAhead_11 : decode cX11_writesAhead 11 = .ok (.iload_n 3, 1) := by decide +kernel
theorem dX11_writesAhead_12 : decode cX11_writesAhead 12 = .ok (.invokevirtual 120, 3) := by decide +kernel
theorem dX11_writesAhead_15 : decode cX11_writesAhead 15 = .ok (.ifCond .eq 9, 3) := by decide +kernel
theorem dX11_writesAhead_18 : decode cX11_writesAhead 18 = .ok (.iconst 1, 1) := by decide +kernel
theorem dX11_writesAhead_19 : decode cX11_writesAhead 19 = .ok (.iload_n 3, 1) := by decide +kernel
theorem dX11_writesAhead_20 : decode cX11_writesAhead 20 = .ok (.ishl, 1) := by decide +kernel
theorem dX11_writesAhead_21 : decode cX11_writesAhead 21 = .ok (.goto 4, 3) := by decide +kernel
theorem dX11_writesAhead_24 : decode cX11_writesAhead 24 = .ok (.iconst 0, 1) := by decide +kernel
theorem dX11_writesAhead_25 : decode cX11_writesAhead 25 = .ok (.ior, 1) := by decide +kernel
theorem dX11_writesAhead_26 : decode cX11_writesAhead 26 = .ok (.istore_n 2, 1) := by decide +kernel
theorem dX11_writesAhead_27 : decode cX11_writesAhead 27 = .ok (.iinc 3 1, 3) := by decide +kernel
theorem dX11_writesAhead_30 : decode cX11_writesAhead 30 = .ok (.goto (-26), 3) := by decide +kernel
theorem dX11_writesAhead_33 : decode cX11_writesAhead 33 = .ok (.iload_n 2, 1) := by decide +kernel
theorem dX11_writesAhead_34 : decode cX11_writesAhead 34 = .ok (.ireturn, 1) := by decide +kernel
theorem dX11_end_0 : decode cX11_end 0 = .ok (.aload_n 0, 1) := by decide +kernel
theorem dX11_end_1 : decode cX11_end 1 = .ok (.aload_n 0, 1) := by decide +kernel
theorem dX11_end_2 : decode cX11_end 2 = .ok (.aload_n 0, 1) := by decide +kernel
theorem dX11_end_3 : decode cX11_end 3 = .ok (.getfield 104, 3) := by decide +kernel
theorem dX11_end_6 : decode cX11_end 6 = .ok (.invokevirtual 123, 3) := by decide +kernel
theorem dX11_end_9 : decode cX11_end 9 = .ok (.invokevirtual 127, 3) := by decide +kernel
theorem dX11_end_12 : decode cX11_end 12 = .ok (.lreturn, 1) := by decide +kernel
theorem dX11_letters_0 : decode cX11_letters 0 = .ok (.iconst 0, 1) := by decide +kernel
theorem dX11_letters_1 : decode cX11_letters 1 = .ok (.istore_n 3, 1) := by decide +kernel
theorem dX11_letters_2 : decode cX11_letters 2 = .ok (.iconst 0, 1) := by decide +kernel
theorem dX11_letters_3 : decode cX11_letters 3 = .ok (.istore 4, 2) := by decide +kernel
theorem dX11_letters_5 : decode cX11_letters 5 = .ok (.iconst 0, 1) := by decide +kernel
theorem dX11_letters_6 : decode cX11_letters 6 = .ok (.istore 5, 2) := by decide +kernel
theorem dX11_letters_8 : decode cX11_letters 8 = .ok (.iload 5, 2) := by decide +kernel
theorem dX11_letters_10 : decode cX11_letters 10 = .ok (.bipush 8, 2) := by decide +kernel
theorem dX11_letters_12 : decode cX11_letters 12 = .ok (.if_icmp .ge 73, 3) := by decide +kernel
theorem dX11_letters_15 : decode cX11_letters 15 = .ok (.lload_n 1, 1) := by decide +kernel
theorem dX11_letters_16 : decode cX11_letters 16 = .ok (.bipush 8, 2) := by decide +kernel
theorem dX11_letters_18 : decode cX11_letters 18 = .ok (.iload 5, 2) := by decide +kernel
theorem dX11_letters_20 : decode cX11_letters 20 = .ok (.imul, 1) := by decide +kernel
theorem dX11_letters_21 : decode cX11_letters 21 = .ok (.lshr, 1) := by decide +kernel
theorem dX11_letters_22 : decode cX11_letters 22 = .ok (.ldc2_w 131, 3) := by decide +kernel
theorem dX11_letters_25 : decode cX11_letters 25 = .ok (.land, 1) := by decide +kernel
theorem dX11_letters_26 : decode cX11_letters 26 = .ok (.l2i, 1) := by decide +kernel
theorem dX11_letters_27 : decode cX11_letters 27 = .ok (.istore 6, 2) := by decide +kernel
theorem dX11_letters_29 : decode cX11_letters 29 = .ok (.iload 6, 2) := by decide +kernel
theorem dX11_letters_31 : decode cX11_letters 31 = .ok (.bipush 126, 2) := by decide +kernel
theorem dX11_letters_33 : decode cX11_letters 33 = .ok (.if_icmp .gt 13, 3) := by decide +kernel
theorem dX11_letters_36 : decode cX11_letters 36 = .ok (.iload 4, 2) := by decide +kernel
theorem dX11_letters_38 : decode cX11_letters 38 = .ok (.ifCond .eq 11, 3) := by decide +kernel
theorem dX11_letters_41 : decode cX11_letters 41 = .ok (.iload 6, 2) := by decide +kernel
theorem dX11_letters_43 : decode cX11_letters 43 = .ok (.ifCond .eq 6, 3) := by decide +kernel
theorem dX11_letters_46 : decode cX11_letters 46 = .ok (.bipush (-102), 2) := by decide +kernel
theorem dX11_letters_48 : decode cX11_letters 48 = .ok (.ireturn, 1) := by decide +kernel
theorem dX11_letters_49 : decode cX11_letters 49 = .ok (.iload 4, 2) := by decide +kernel
theorem dX11_letters_51 : decode cX11_letters 51 = .ok (.ifCond .ne 8, 3) := by decide +kernel
theorem dX11_letters_54 : decode cX11_letters 54 = .ok (.iload 6, 2) := by decide +kernel
theorem dX11_letters_56 : decode cX11_letters 56 = .ok (.ifCond .ne 7, 3) := by decide +kernel
theorem dX11_letters_59 : decode cX11_letters 59 = .ok (.iconst 1, 1) := by decide +kernel
theorem dX11_letters_60 : decode cX11_letters 60 = .ok (.goto 4, 3) := by decide +kernel
theorem dX11_letters_63 : decode cX11_letters 63 = .ok (.iconst 0, 1) := by decide +kernel
theorem dX11_letters_64 : decode cX11_letters 64 = .ok (.istore 4, 2) := by decide +kernel
theorem dX11_letters_66 : decode cX11_letters 66 = .ok (.iload_n 3, 1) := by decide +kernel
theorem dX11_letters_67 : decode cX11_letters 67 = .ok (.iload 6, 2) := by decide +kernel
theorem dX11_letters_69 : decode cX11_letters 69 = .ok (.ifCond .ne 7, 3) := by decide +kernel
theorem dX11_letters_72 : decode cX11_letters 72 = .ok (.iconst 0, 1) := by decide +kernel
theorem dX11_letters_73 : decode cX11_letters 73 = .ok (.goto 4, 3) := by decide +kernel
theorem dX11_letters_76 : decode cX11_letters 76 = .ok (.iconst 1, 1) := by decide +kernel
theorem dX11_letters_77 : decode cX11_letters 77 = .ok (.iadd, 1) := by decide +kernel
theorem dX11_letters_78 : decode cX11_letters 78 = .ok (.istore_n 3, 1) := by decide +kernel
theorem dX11_letters_79 : decode cX11_letters 79 = .ok (.iinc 5 1, 3) := by decide +kernel
theorem dX11_letters_82 : decode cX11_letters 82 = .ok (.goto (-74), 3) := by decide +kernel
theorem dX11_letters_85 : decode cX11_letters 85 = .ok (.aload_n 0, 1) := by decide +kernel
theorem dX11_letters_86 : decode cX11_letters 86 = .ok (.getfield 133, 3) := by decide +kernel
theorem dX11_letters_89 : decode cX11_letters 89 = .ok (.iload_n 3, 1) := by decide +kernel
theorem dX11_letters_90 : decode cX11_letters 90 = .ok (.iadd, 1) := by decide +kernel
theorem dX11_letters_91 : decode cX11_letters 91 = .ok (.bipush 60, 2) := by decide +kernel
theorem dX11_letters_93 : decode cX11_letters 93 = .ok (.if_icmp .le 6, 3) := by decide +kernel
theorem dX11_letters_96 : decode cX11_letters 96 = .ok (.bipush (-104), 2) := by decide +kernel
theorem dX11_letters_98 : decode cX11_letters 98 = .ok (.ireturn, 1) := by decide +kernel
theorem dX11_letters_99 : decode cX11_letters 99 = .ok (.iconst 0, 1) := by decide +kernel
theorem dX11_letters_100 : decode cX11_letters 100 = .ok (.istore 5, 2) := by decide +kernel
theorem dX11_letters_102 : decode cX11_letters 102 = .ok (.iload 5, 2) := by decide +kernel
theorem dX11_letters_104 : decode cX11_letters 104 = .ok (.iload_n 3, 1) := by decide +kernel
theorem dX11_letters_105 : decode cX11_letters 105 = .ok (.if_icmp .ge 30, 3) := by decide +kernel
theorem dX11_letters_108 : decode cX11_letters 108 = .ok (.aload_n 0, 1) := by decide +kernel
theorem dX11_letters_109 : decode cX11_letters 109 = .ok (.getfield 19, 3) := by decide +kernel
theorem dX11_letters_112 : decode cX11_letters 112 = .ok (.aload_n 0, 1) := by decide +kernel
theorem dX11_letters_113 : decode cX11_letters 113 = .ok (.getfield 133, 3) := by decide +kernel
theorem dX11_letters_116 : decode cX11_letters 116 = .ok (.iload 5, 2) := by decide +kernel
theorem dX11_letters_118 : decode cX11_letters 118 = .ok (.iadd, 1) := by decide +kernel
theorem dX11_letters_119 : decode cX11_letters 119 = .ok (.lload_n 1, 1) := by decide +kernel
theorem dX11_letters_120 : decode cX11_letters 120 = .ok (.bipush 8, 2) := by decide +kernel
theorem dX11_letters_122 : decode cX11_letters 122 = .ok (.iload 5, 2) := by decide +kernel
theorem dX11_letters_124 : decode cX11_letters 124 = .ok (.imul, 1) := by decide +kernel
theorem dX11_letters_125 : decode cX11_letters 125 = .ok (.lshr, 1) := by decide +kernel
theorem dX11_letters_126 : decode cX11_letters 126 = .ok (.l2i, 1) := by decide +kernel
theorem dX11_letters_127 : decode cX11_letters 127 = .ok (.i2b, 1) := by decide +kernel
theorem dX11_letters_128 : decode cX11_letters 128 = .ok (.bastore, 1) := by decide +kernel
theorem dX11_letters_129 : decode cX11_letters 129 = .ok (.iinc 5 1, 3) := by decide +kernel
theorem dX11_letters_132 : decode cX11_letters 132 = .ok (.goto (-30), 3) := by decide +kernel
theorem dX11_letters_135 : decode cX11_letters 135 = .ok (.aload_n 0, 1) := by decide +kernel
theorem dX11_letters_136 : decode cX11_letters 136 = .ok (.dup, 1) := by decide +kernel
theorem dX11_letters_137 : decode cX11_letters 137 = .ok (.getfield 133, 3) := by decide +kernel
theorem dX11_letters_140 : decode cX11_letters 140 = .ok (.iload_n 3, 1) := by decide +kernel
theorem dX11_letters_141 : decode cX11_letters 141 = .ok (.iadd, 1) := by decide +kernel
theorem dX11_letters_142 : decode cX11_letters 142 = .ok (.putfield 133, 3) := by decide +kernel
theorem dX11_letters_145 : decode cX11_letters 145 = .ok (.aload_n 0, 1) := by decide +kernel
theorem dX11_letters_146 : decode cX11_letters 146 = .ok (.getfield 133, 3) := by decide +kernel
theorem dX11_letters_149 : decode cX11_letters 149 = .ok (.ireturn, 1) := by decide +kernel
theorem dX11_blank_0 : decode cX11_blank 0 = .ok (.aload_n 0, 1) := by decide +kernel
theorem dX11_blank_1 : decode cX11_blank 1 = .ok (.getfield 133, 3) := by decide +kernel
theorem dX11_blank_4 : decode cX11_blank 4 = .ok (.istore_n 1, 1) := by decide +kernel
theorem dX11_blank_5 : decode cX11_blank 5 = .ok (.aload_n 0, 1) := by decide +kernel
theorem dX11_blank_6 : decode cX11_blank 6 = .ok (.iconst 0, 1) := by decide +kernel
theorem dX11_blank_7 : decode cX11_blank 7 = .ok (.putfield 133, 3) := by decide +kernel
theorem dX11_blank_10 : decode cX11_blank 10 = .ok (.iload_n 1, 1) := by decide +kernel
theorem dX11_blank_11 : decode cX11_blank 11 = .ok (.ireturn, 1) := by decide +kernel
theorem dX11_isLetter_0 : decode cX11_isLetter 0 = .ok (.iload_n 0, 1) := by decide +kernel
theorem dX11_isLetter_1 : decode cX11_isLetter 1 = .ok (.bipush 97, 2) := by decide +kernel
theorem dX11_isLetter_3 : decode cX11_isLetter 3 = .ok (.bipush 104, 2) := by decide +kernel
theorem dX11_isLetter_5 : decode cX11_isLetter 5 = .ok (.invokestatic 89, 3) := by decide +kernel
theorem dX11_isLetter_8 : decode cX11_isLetter 8 = .ok (.ireturn, 1) := by decide +kernel
theorem dX11_isDigit_0 : decode cX11_isDigit 0 = .ok (.iload_n 0, 1) := by decide +kernel
theorem dX11_isDigit_1 : decode cX11_isDigit 1 = .ok (.bipush 48, 2) := by decide +kernel
theorem dX11_isDigit_3 : decode cX11_isDigit 3 = .ok (.bipush 57, 2) := by decide +kernel
theorem dX11_isDigit_5 : decode cX11_isDigit 5 = .ok (.invokestatic 89, 3) := by decide +kernel
theorem dX11_isDigit_8 : decode cX11_isDigit 8 = .ok (.ireturn, 1) := by decide +kernel
theorem dX11_isMark_0 : decode cX11_isMark 0 = .ok (.iload_n 0, 1) := by decide +kernel
theorem dX11_isMark_1 : decode cX11_isMark 1 = .ok (.bipush 60, 2) := by decide +kernel
theorem dX11_isMark_3 : decode cX11_isMark 3 = .ok (.bipush 62, 2) := by decide +kernel
theorem dX11_isMark_5 : decode cX11_isMark 5 = .ok (.invokestatic 89, 3) := by decide +kernel
theorem dX11_isMark_8 : decode cX11_isMark 8 = .ok (.ireturn, 1) := by decide +kernel
theorem dX11_next_0 : decode cX11_next 0 = .ok (.iload_n 1, 1) := by decide +kernel
theorem dX11_next_1 : decode cX11_next 1 = .ok (.ifCond .eq 19, 3) := by decide +kernel
theorem dX11_next_4 : decode cX11_next 4 = .ok (.iload_n 1, 1) := by decide +kernel
theorem dX11_next_5 : decode cX11_next 5 = .ok (.iconst 1, 1) := by decide +kernel
theorem dX11_next_6 : decode cX11_next 6 = .ok (.if_icmp .eq 14, 3) := by decide +kernel
theorem dX11_next_9 : decode cX11_next 9 = .ok (.iload_n 1, 1) := by decide +kernel
theorem dX11_next_10 : decode cX11_next 10 = .ok (.iconst 4, 1) := by decide +kernel
theorem dX11_next_11 : decode cX11_next 11 = .ok (.if_icmp .eq 9, 3) := by decide +kernel
theorem dX11_next_14 : decode cX11_next 14 = .ok (.iload_n 1, 1) := by decide +kernel
theorem dX11_next_15 : decode cX11_next 15 = .ok (.bipush 10, 2) := by decide +kernel
theorem dX11_next_17 : decode cX11_next 17 = .ok (.if_icmp .ne 7, 3) := by decide +kernel
theorem dX11_next_20 : decode cX11_next 20 = .ok (.iconst 1, 1) := by decide +kernel
theorem dX11_next_21 : decode cX11_next 21 = .ok (.goto 4, 3) := by decide +kernel
theorem dX11_next_24 : decode cX11_next 24 = .ok (.iconst 0, 1) := by decide +kernel
theorem dX11_next_25 : decode cX11_next 25 = .ok (.istore 5, 2) := by decide +kernel
theorem dX11_next_27 : decode cX11_next 27 = .ok (.iload_n 1, 1) := by decide +kernel
theorem dX11_next_28 : decode cX11_next 28 = .ok (.ifCond .eq 8, 3) := by decide +kernel
theorem dX11_next_31 : decode cX11_next 31 = .ok (.iload_n 1, 1) := by decide +kernel
theorem dX11_next_32 : decode cX11_next 32 = .ok (.iconst 1, 1) := by decide +kernel
theorem dX11_next_33 : decode cX11_next 33 = .ok (.if_icmp .ne 7, 3) := by decide +kernel
theorem dX11_next_36 : decode cX11_next 36 = .ok (.iconst 2, 1) := by decide +kernel
theorem dX11_next_37 : decode cX11_next 37 = .ok (.goto 14, 3) := by decide +kernel
theorem dX11_next_40 : decode cX11_next 40 = .ok (.iload_n 1, 1) := by decide +kernel
theorem dX11_next_41 : decode cX11_next 41 = .ok (.iconst 4, 1) := by decide +kernel
theorem dX11_next_42 : decode cX11_next 42 = .ok (.if_icmp .ne 7, 3) := by decide +kernel
theorem dX11_next_45 : decode cX11_next 45 = .ok (.iconst 5, 1) := by decide +kernel
theorem dX11_next_46 : decode cX11_next 46 = .ok (.goto 5, 3) := by decide +kernel
theorem dX11_next_49 : decode cX11_next 49 = .ok (.bipush 11, 2) := by decide +kernel
theorem dX11_next_51 : decode cX11_next 51 = .ok (.istore 6, 2) := by decide +kernel
theorem dX11_next_53 : decode cX11_next 53 = .ok (.iload 5, 2) := by decide +kernel
theorem dX11_next_55 : decode cX11_next 55 = .ok (.ifCond .eq 13, 3) := by decide +kernel
theorem dX11_next_58 : decode cX11_next 58 = .ok (.iload_n 2, 1) := by decide +kernel
theorem dX11_next_59 : decode cX11_next 59 = .ok (.invokestatic 136, 3) := by decide +kernel
theorem dX11_next_62 : decode cX11_next 62 = .ok (.ifCond .eq 6, 3) := by decide +kernel
theorem dX11_next_65 : decode cX11_next 65 = .ok (.iload 6, 2) := by decide +kernel
theorem dX11_next_67 : decode cX11_next 67 = .ok (.ireturn, 1) := by decide +kernel
theorem dX11_next_68 : decode cX11_next 68 = .ok (.iload 5, 2) := by decide +kernel
theorem dX11_next_70 : decode cX11_next 70 = .ok (.ifCond .eq 15, 3) := by decide +kernel
theorem dX11_next_73 : decode cX11_next 73 = .ok (.iload_n 2, 1) := by decide +kernel
theorem dX11_next_74 : decode cX11_next 74 = .ok (.invokestatic 139, 3) := by decide +kernel
theorem dX11_next_77 : decode cX11_next 77 = .ok (.ifCond .eq 8, 3) := by decide +kernel
theorem dX11_next_80 : decode cX11_next 80 = .ok (.iload 6, 2) := by decide +kernel
theorem dX11_next_82 : decode cX11_next 82 = .ok (.iconst 1, 1) := by decide +kernel
theorem dX11_next_83 : decode cX11_next 83 = .ok (.iadd, 1) := by decide +kernel
theorem dX11_next_84 : decode cX11_next 84 = .ok (.ireturn, 1) := by decide +kernel
theorem dX11_next_85 : decode cX11_next 85 = .ok (.iload_n 1, 1) := by decide +kernel
theorem dX11_next_86 : decode cX11_next 86 = .ok (.ifCond .ne 17, 3) := by decide +kernel
theorem dX11_next_89 : decode cX11_next 89 = .ok (.iload_n 2, 1) := by decide +kernel
theorem dX11_next_90 : decode cX11_next 90 = .ok (.bipush 33, 2) := by decide +kernel
theorem dX11_next_92 : decode cX11_next 92 = .ok (.if_icmp .eq 9, 3) := by decide +kernel
theorem dX11_next_95 : decode cX11_next 95 = .ok (.iload_n 2, 1) := by decide +kernel
theorem dX11_next_96 : decode cX11_next 96 = .ok (.bipush 40, 2) := by decide +kernel
theorem dX11_next_98 : decode cX11_next 98 = .ok (.if_icmp .ne 5, 3) := by decide +kernel
theorem dX11_next_101 : decode cX11_next 101 = .ok (.iconst 0, 1) := by decide +kernel
theorem dX11_next_102 : decode cX11_next 102 = .ok (.ireturn, 1) := by decide +kernel
theorem dX11_next_103 : decode cX11_next 103 = .ok (.iload_n 1, 1) := by decide +kernel
theorem dX11_next_104 : decode cX11_next 104 = .ok (.iconst 3, 1) := by decide +kernel
theorem dX11_next_105 : decode cX11_next 105 = .ok (.if_icmp .eq 15, 3) := by decide +kernel
theorem dX11_next_108 : decode cX11_next 108 = .ok (.iload_n 1, 1) := by decide +kernel
theorem dX11_next_109 : decode cX11_next 109 = .ok (.bipush 6, 2) := by decide +kernel
theorem dX11_next_111 : decode cX11_next 111 = .ok (.if_icmp .eq 9, 3) := by decide +kernel
theorem dX11_next_114 : decode cX11_next 114 = .ok (.iload_n 1, 1) := by decide +kernel
theorem dX11_next_115 : decode cX11_next 115 = .ok (.bipush 12, 2) := by decide +kernel
theorem dX11_next_117 : decode cX11_next 117 = .ok (.if_icmp .ne 14, 3) := by decide +kernel
theorem dX11_next_120 : decode cX11_next 120 = .ok (.iload_n 2, 1) := by decide +kernel
theorem dX11_next_121 : decode cX11_next 121 = .ok (.invokestatic 139, 3) := by decide +kernel
theorem dX11_next_124 : decode cX11_next 124 = .ok (.ifCond .eq 7, 3) := by decide +kernel
theorem dX11_next_127 : decode cX11_next 127 = .ok (.iload_n 1, 1) := by decide +kernel
theorem dX11_next_128 : decode cX11_next 128 = .ok (.iconst 1, 1) := by decide +kernel
theorem dX11_next_129 : decode cX11_next 129 = .ok (.isub, 1) := by decide +kernel
theorem dX11_next_130 : decode cX11_next 130 = .ok (.ireturn, 1) := by decide +kernel
theorem dX11_next_131 : decode cX11_next 131 = .ok (.iload_n 2, 1) := by decide +kernel
theorem dX11_next_132 : decode cX11_next 132 = .ok (.bipush 43, 2) := by decide +kernel
theorem dX11_next_134 : decode cX11_next 134 = .ok (.if_icmp .eq 9, 3) := by decide +kernel
theorem dX11_next_137 : decode cX11_next 137 = .ok (.iload_n 2, 1) := by decide +kernel
theorem dX11_next_138 : decode cX11_next 138 = .ok (.bipush 45, 2) := by decide +kernel
theorem dX11_next_140 : decode cX11_next 140 = .ok (.if_icmp .ne 7, 3) := by decide +kernel
theorem dX11_next_143 : decode cX11_next 143 = .ok (.iconst 1, 1) := by decide +kernel
theorem dX11_next_144 : decode cX11_next 144 = .ok (.goto 4, 3) := by decide +kernel
theorem dX11_next_147 : decode cX11_next 147 = .ok (.iconst 0, 1) := by decide +kernel
theorem dX11_next_148 : decode cX11_next 148 = .ok (.istore 7, 2) := by decide +kernel
theorem dX11_next_150 : decode cX11_next 150 = .ok (.iload_n 1, 1) := by decide +kernel
theorem dX11_next_151 : decode cX11_next 151 = .ok (.iconst 2, 1) := by decide +kernel
theorem dX11_next_152 : decode cX11_next 152 = .ok (.if_icmp .eq 8, 3) := by decide +kernel
theorem dX11_next_155 : decode cX11_next 155 = .ok (.iload_n 1, 1) := by decide +kernel
theorem dX11_next_156 : decode cX11_next 156 = .ok (.iconst 3, 1) := by decide +kernel
theorem dX11_next_157 : decode cX11_next 157 = .ok (.if_icmp .ne 25, 3) := by decide +kernel
theorem dX11_next_160 : decode cX11_next 160 = .ok (.iload 7, 2) := by decide +kernel
theorem dX11_next_162 : decode cX11_next 162 = .ok (.ifCond .eq 7, 3) := by decide +kernel
theorem dX11_next_165 : decode cX11_next 165 = .ok (.iconst 1, 1) := by decide +kernel
theorem dX11_next_166 : decode cX11_next 166 = .ok (.goto 15, 3) := by decide +kernel
theorem dX11_next_169 : decode cX11_next 169 = .ok (.iload_n 2, 1) := by decide +kernel
theorem dX11_next_170 : decode cX11_next 170 = .ok (.invokestatic 142, 3) := by decide +kernel
theorem dX11_next_173 : decode cX11_next 173 = .ok (.ifCond .eq 7, 3) := by decide +kernel
theorem dX11_next_176 : decode cX11_next 176 = .ok (.iconst 4, 1) := by decide +kernel
theorem dX11_next_177 : decode cX11_next 177 = .ok (.goto 4, 3) := by decide +kernel
theorem dX11_next_180 : decode cX11_next 180 = .ok (.iconst (-1), 1) := by decide +kernel
theorem dX11_next_181 : decode cX11_next 181 = .ok (.ireturn, 1) := by decide +kernel
theorem dX11_next_182 : decode cX11_next 182 = .ok (.iload_n 1, 1) := by decide +kernel
theorem dX11_next_183 : decode cX11_next 183 = .ok (.iconst 5, 1) := by decide +kernel
theorem dX11_next_184 : decode cX11_next 184 = .ok (.if_icmp .eq 9, 3) := by decide +kernel
theorem dX11_next_187 : decode cX11_next 187 = .ok (.iload_n 1, 1) := by decide +kernel
theorem dX11_next_188 : decode cX11_next 188 = .ok (.bipush 6, 2) := by decide +kernel
theorem dX11_next_190 : decode cX11_next 190 = .ok (.if_icmp .ne 10, 3) := by decide +kernel
theorem dX11_next_193 : decode cX11_next 193 = .ok (.iload 7, 2) := by decide +kernel
theorem dX11_next_195 : decode cX11_next 195 = .ok (.ifCond .eq 5, 3) := by decide +kernel
theorem dX11_next_198 : decode cX11_next 198 = .ok (.iconst 4, 1) := by decide +kernel
theorem dX11_next_199 : decode cX11_next 199 = .ok (.ireturn, 1) := by decide +kernel
theorem dX11_next_200 : decode cX11_next 200 = .ok (.iload_n 1, 1) := by decide +kernel
theorem dX11_next_201 : decode cX11_next 201 = .ok (.bipush 11, 2) := by decide +kernel
theorem dX11_next_203 : decode cX11_next 203 = .ok (.if_icmp .eq 9, 3) := by decide +kernel
theorem dX11_next_206 : decode cX11_next 206 = .ok (.iload_n 1, 1) := by decide +kernel
theorem dX11_next_207 : decode cX11_next 207 = .ok (.bipush 12, 2) := by decide +kernel
theorem dX11_next_209 : decode cX11_next 209 = .ok (.if_icmp .ne 11, 3) := by decide +kernel
theorem dX11_next_212 : decode cX11_next 212 = .ok (.iload 7, 2) := by decide +kernel
theorem dX11_next_214 : decode cX11_next 214 = .ok (.ifCond .eq 6, 3) := by decide +kernel
theorem dX11_next_217 : decode cX11_next 217 = .ok (.bipush 10, 2) := by decide +kernel
theorem dX11_next_219 : decode cX11_next 219 = .ok (.ireturn, 1) := by decide +kernel
theorem dX11_next_220 : decode cX11_next 220 = .ok (.iload_n 1, 1) := by decide +kernel
theorem dX11_next_221 : decode cX11_next 221 = .ok (.iconst 5, 1) := by decide +kernel
theorem dX11_next_222 : decode cX11_next 222 = .ok (.bipush 7, 2) := by decide +kernel
theorem dX11_next_224 : decode cX11_next 224 = .ok (.invokestatic 89, 3) := by decide +kernel
theorem dX11_next_227 : decode cX11_next 227 = .ok (.ifCond .eq 70, 3) := by decide +kernel
theorem dX11_next_230 : decode cX11_next 230 = .ok (.iload_n 2, 1) := by decide +kernel
theorem dX11_next_231 : decode cX11_next 231 = .ok (.bipush 41, 2) := by decide +kernel
theorem dX11_next_233 : decode cX11_next 233 = .ok (.if_icmp .ne 12, 3) := by decide +kernel
theorem dX11_next_236 : decode cX11_next 236 = .ok (.iload 4, 2) := by decide +kernel
theorem dX11_next_238 : decode cX11_next 238 = .ok (.ifCond .le 7, 3) := by decide +kernel
theorem dX11_next_241 : decode cX11_next 241 = .ok (.iconst 1, 1) := by decide +kernel
theorem dX11_next_242 : decode cX11_next 242 = .ok (.goto 4, 3) := by decide +kernel
theorem dX11_next_245 : decode cX11_next 245 = .ok (.iconst 0, 1) := by decide +kernel
theorem dX11_next_246 : decode cX11_next 246 = .ok (.istore 8, 2) := by decide +kernel
theorem dX11_next_248 : decode cX11_next 248 = .ok (.iload_n 2, 1) := by decide +kernel
theorem dX11_next_249 : decode cX11_next 249 = .ok (.bipush 38, 2) := by decide +kernel
theorem dX11_next_251 : decode cX11_next 251 = .ok (.if_icmp .eq 9, 3) := by decide +kernel
theorem dX11_next_254 : decode cX11_next 254 = .ok (.iload_n 2, 1) := by decide +kernel
theorem dX11_next_255 : decode cX11_next 255 = .ok (.bipush 124, 2) := by decide +kernel
theorem dX11_next_257 : decode cX11_next 257 = .ok (.if_icmp .ne 7, 3) := by decide +kernel
theorem dX11_next_260 : decode cX11_next 260 = .ok (.iconst 0, 1) := by decide +kernel
theorem dX11_next_261 : decode cX11_next 261 = .ok (.goto 35, 3) := by decide +kernel
theorem dX11_next_264 : decode cX11_next 264 = .ok (.iload 8, 2) := by decide +kernel
theorem dX11_next_266 : decode cX11_next 266 = .ok (.ifCond .eq 8, 3) := by decide +kernel
theorem dX11_next_269 : decode cX11_next 269 = .ok (.bipush 7, 2) := by decide +kernel
theorem dX11_next_271 : decode cX11_next 271 = .ok (.goto 25, 3) := by decide +kernel
theorem dX11_next_274 : decode cX11_next 274 = .ok (.iload_n 2, 1) := by decide +kernel
theorem dX11_next_275 : decode cX11_next 275 = .ok (.bipush 58, 2) := by decide +kernel
theorem dX11_next_277 : decode cX11_next 277 = .ok (.if_icmp .ne 18, 3) := by decide +kernel
theorem dX11_next_280 : decode cX11_next 280 = .ok (.iload 4, 2) := by decide +kernel
theorem dX11_next_282 : decode cX11_next 282 = .ok (.ifCond .ne 13, 3) := by decide +kernel
theorem dX11_next_285 : decode cX11_next 285 = .ok (.iload_n 3, 1) := by decide +kernel
theorem dX11_next_286 : decode cX11_next 286 = .ok (.iconst 1, 1) := by decide +kernel
theorem dX11_next_287 : decode cX11_next 287 = .ok (.if_icmp .ne 8, 3) := by decide +kernel
theorem dX11_next_290 : decode cX11_next 290 = .ok (.bipush 8, 2) := by decide +kernel
theorem dX11_next_292 : decode cX11_next 292 = .ok (.goto 4, 3) := by decide +kernel
theorem dX11_next_295 : decode cX11_next 295 = .ok (.iconst (-1), 1) := by decide +kernel
theorem dX11_next_296 : decode cX11_next 296 = .ok (.ireturn, 1) := by decide +kernel
theorem dX11_next_297 : decode cX11_next 297 = .ok (.iload_n 1, 1) := by decide +kernel
theorem dX11_next_298 : decode cX11_next 298 = .ok (.bipush 8, 2) := by decide +kernel
theorem dX11_next_300 : decode cX11_next 300 = .ok (.if_icmp .ne 15, 3) := by decide +kernel
theorem dX11_next_303 : decode cX11_next 303 = .ok (.iload_n 2, 1) := by decide +kernel
theorem dX11_next_304 : decode cX11_next 304 = .ok (.invokestatic 136, 3) := by decide +kernel
theorem dX11_next_307 : decode cX11_next 307 = .ok (.ifCond .eq 8, 3) := by decide +kernel
theorem dX11_next_310 : decode cX11_next 310 = .ok (.bipush 9, 2) := by decide +kernel
theorem dX11_next_312 : decode cX11_next 312 = .ok (.goto 21, 3) := by decide +kernel
theorem dX11_next_315 : decode cX11_next 315 = .ok (.iload_n 1, 1) := by decide +kernel
theorem dX11_next_316 : decode cX11_next 316 = .ok (.bipush 9, 2) := by decide +kernel
theorem dX11_next_318 : decode cX11_next 318 = .ok (.if_icmp .ne 14, 3) := by decide +kernel
theorem dX11_next_321 : decode cX11_next 321 = .ok (.iload_n 2, 1) := by decide +kernel
theorem dX11_next_322 : decode cX11_next 322 = .ok (.bipush 61, 2) := by decide +kernel
theorem dX11_next_324 : decode cX11_next 324 = .ok (.if_icmp .ne 8, 3) := by decide +kernel
theorem dX11_next_327 : decode cX11_next 327 = .ok (.bipush 10, 2) := by decide +kernel
theorem dX11_next_329 : decode cX11_next 329 = .ok (.goto 4, 3) := by decide +kernel
theorem dX11_next_332 : decode cX11_next 332 = .ok (.iconst (-1), 1) := by decide +kernel
theorem dX11_next_333 : decode cX11_next 333 = .ok (.ireturn, 1) := by decide +kernel
theorem dX11_readText_0 : decode cX11_readText 0 = .ok (.iconst 0, 1) := by decide +kernel
theorem dX11_readText_1 : decode cX11_readText 1 = .ok (.istore_n 2, 1) := by decide +kernel
theorem dX11_readText_2 : decode cX11_readText 2 = .ok (.iconst 0, 1) := by decide +kernel
theorem dX11_readText_3 : decode cX11_readText 3 = .ok (.istore_n 3, 1) := by decide +kernel
theorem dX11_readText_4 : decode cX11_readText 4 = .ok (.iconst 0, 1) := by decide +kernel
theorem dX11_readText_5 : decode cX11_readText 5 = .ok (.istore 4, 2) := by decide +kernel
theorem dX11_readText_7 : decode cX11_readText 7 = .ok (.iconst 1, 1) := by decide +kernel
theorem dX11_readText_8 : decode cX11_readText 8 = .ok (.istore 5, 2) := by decide +kernel
theorem dX11_readText_10 : decode cX11_readText 10 = .ok (.iload 4, 2) := by decide +kernel
theorem dX11_readText_12 : decode cX11_readText 12 = .ok (.aload_n 0, 1) := by decide +kernel
theorem dX11_readText_13 : decode cX11_readText 13 = .ok (.getfield 133, 3) := by decide +kernel
theorem dX11_readText_16 : decode cX11_readText 16 = .ok (.if_icmp .ge 87, 3) := by decide +kernel
theorem dX11_readText_19 : decode cX11_readText 19 = .ok (.iload 5, 2) := by decide +kernel
theorem dX11_readText_21 : decode cX11_readText 21 = .ok (.ifCond .eq 82, 3) := by decide +kernel
theorem dX11_readText_24 : decode cX11_readText 24 = .ok (.aload_n 0, 1) := by decide +kernel
theorem dX11_readText_25 : decode cX11_readText 25 = .ok (.iload_n 2, 1) := by decide +kernel
theorem dX11_readText_26 : decode cX11_readText 26 = .ok (.aload_n 0, 1) := by decide +kernel
theorem dX11_readText_27 : decode cX11_readText 27 = .ok (.getfield 19, 3) := by decide +kernel
theorem dX11_readText_30 : decode cX11_readText 30 = .ok (.iload 4, 2) := by decide +kernel
theorem dX11_readText_32 : decode cX11_readText 32 = .ok (.baload, 1) := by decide +kernel
theorem dX11_readText_33 : decode cX11_readText 33 = .ok (.iload_n 1, 1) := by decide +kernel
theorem dX11_readText_34 : decode cX11_readText 34 = .ok (.iload_n 3, 1) := by decide +kernel
theorem dX11_readText_35 : decode cX11_readText 35 = .ok (.invokevirtual 145, 3) := by decide +kernel
theorem dX11_readText_38 : decode cX11_readText 38 = .ok (.istore 6, 2) := by decide +kernel
theorem dX11_readText_40 : decode cX11_readText 40 = .ok (.iload 6, 2) := by decide +kernel
theorem dX11_readText_42 : decode cX11_readText 42 = .ok (.iconst (-1), 1) := by decide +kernel
theorem dX11_readText_43 : decode cX11_readText 43 = .ok (.if_icmp .eq 7, 3) := by decide +kernel
theorem dX11_readText_46 : decode cX11_readText 46 = .ok (.iconst 1, 1) := by decide +kernel
theorem dX11_readText_47 : decode cX11_readText 47 = .ok (.goto 4, 3) := by decide +kernel
theorem dX11_readText_50 : decode cX11_readText 50 = .ok (.iconst 0, 1) := by decide +kernel
theorem dX11_readText_51 : decode cX11_readText 51 = .ok (.istore 5, 2) := by decide +kernel
theorem dX11_readText_53 : decode cX11_readText 53 = .ok (.iload 5, 2) := by decide +kernel
theorem dX11_readText_55 : decode cX11_readText 55 = .ok (.ifCond .eq 45, 3) := by decide +kernel
theorem dX11_readText_58 : decode cX11_readText 58 = .ok (.iload_n 3, 1) := by decide +kernel
theorem dX11_readText_59 : decode cX11_readText 59 = .ok (.aload_n 0, 1) := by decide +kernel
theorem dX11_readText_60 : decode cX11_readText 60 = .ok (.getfield 19, 3) := by decide +kernel
theorem dX11_readText_63 : decode cX11_readText 63 = .ok (.iload 4, 2) := by decide +kernel
theorem dX11_readText_65 : decode cX11_readText 65 = .ok (.baload, 1) := by decide +kernel
theorem dX11_readText_66 : decode cX11_readText 66 = .ok (.bipush 40, 2) := by decide +kernel
theorem dX11_readText_68 : decode cX11_readText 68 = .ok (.if_icmp .ne 7, 3) := by decide +kernel
theorem dX11_readText_71 : decode cX11_readText 71 = .ok (.iconst 1, 1) := by decide +kernel
theorem dX11_readText_72 : decode cX11_readText 72 = .ok (.goto 20, 3) := by decide +kernel
theorem dX11_readText_75 : decode cX11_readText 75 = .ok (.aload_n 0, 1) := by decide +kernel
theorem dX11_readText_76 : decode cX11_readText 76 = .ok (.getfield 19, 3) := by decide +kernel
theorem dX11_readText_79 : decode cX11_readText 79 = .ok (.iload 4, 2) := by decide +kernel
theorem dX11_readText_81 : decode cX11_readText 81 = .ok (.baload, 1) := by decide +kernel
theorem dX11_readText_82 : decode cX11_readText 82 = .ok (.bipush 41, 2) := by decide +kernel
theorem dX11_readText_84 : decode cX11_readText 84 = .ok (.if_icmp .ne 7, 3) := by decide +kernel
theorem dX11_readText_87 : decode cX11_readText 87 = .ok (.iconst (-1), 1) := by decide +kernel
theorem dX11_readText_88 : decode cX11_readText 88 = .ok (.goto 4, 3) := by decide +kernel
theorem dX11_readText_91 : decode cX11_readText 91 = .ok (.iconst 0, 1) := by decide +kernel
theorem dX11_readText_92 : decode cX11_readText 92 = .ok (.iadd, 1) := by decide +kernel
theorem dX11_readText_93 : decode cX11_readText 93 = .ok (.istore_n 3, 1) := by decide +kernel
theorem dX11_readText_94 : decode cX11_readText 94 = .ok (.iload 6, 2) := by decide +kernel
theorem dX11_readText_96 : decode cX11_readText 96 = .ok (.istore_n 2, 1) := by decide +kernel
theorem dX11_readText_97 : decode cX11_readText 97 = .ok (.iinc 4 1, 3) := by decide +kernel
theorem dX11_readText_100 : decode cX11_readText 100 = .ok (.goto (-90), 3) := by decide +kernel
theorem dX11_readText_103 : decode cX11_readText 103 = .ok (.aload_n 0, 1) := by decide +kernel
theorem dX11_readText_104 : decode cX11_readText 104 = .ok (.iload 4, 2) := by decide +kernel
theorem dX11_readText_106 : decode cX11_readText 106 = .ok (.putfield 149, 3) := by decide +kernel
theorem dX11_readText_109 : decode cX11_readText 109 = .ok (.aload_n 0, 1) := by decide +kernel
theorem dX11_readText_110 : decode cX11_readText 110 = .ok (.iload 4, 2) := by decide +kernel
theorem dX11_readText_112 : decode cX11_readText 112 = .ok (.aload_n 0, 1) := by decide +kernel
theorem dX11_readText_113 : decode cX11_readText 113 = .ok (.getfield 133, 3) := by decide +kernel
theorem dX11_readText_116 : decode cX11_readText 116 = .ok (.if_icmp .ne 39, 3) := by decide +kernel
theorem dX11_readText_119 : decode cX11_readText 119 = .ok (.iload_n 3, 1) := by decide +kernel
theorem dX11_readText_120 : decode cX11_readText 120 = .ok (.ifCond .ne 35, 3) := by decide +kernel
theorem dX11_readText_123 : decode cX11_readText 123 = .ok (.iload_n 1, 1) := by decide +kernel
theorem dX11_readText_124 : decode cX11_readText 124 = .ok (.ifCond .ne 16, 3) := by decide +kernel
theorem dX11_readText_127 : decode cX11_readText 127 = .ok (.iload_n 2, 1) := by decide +kernel
theorem dX11_readText_128 : decode cX11_readText 128 = .ok (.iconst 5, 1) := by decide +kernel
theorem dX11_readText_129 : decode cX11_readText 129 = .ok (.bipush 7, 2) := by decide +kernel
theorem dX11_readText_131 : decode cX11_readText 131 = .ok (.invokestatic 89, 3) := by decide +kernel
theorem dX11_readText_134 : decode cX11_readText 134 = .ok (.ifCond .eq 21, 3) := by decide +kernel
theorem dX11_readText_137 : decode cX11_readText 137 = .ok (.goto 14, 3) := by decide +kernel
theorem dX11_readText_140 : decode cX11_readText 140 = .ok (.iload_n 2, 1) := by decide +kernel
theorem dX11_readText_141 : decode cX11_readText 141 = .ok (.bipush 11, 2) := by decide +kernel
theorem dX11_readText_143 : decode cX11_readText 143 = .ok (.bipush 12, 2) := by decide +kernel
theorem dX11_readText_145 : decode cX11_readText 145 = .ok (.invokestatic 89, 3) := by decide +kernel
theorem dX11_readText_148 : decode cX11_readText 148 = .ok (.ifCond .eq 7, 3) := by decide +kernel
theorem dX11_readText_151 : decode cX11_readText 151 = .ok (.iconst 1, 1) := by decide +kernel
theorem dX11_readText_152 : decode cX11_readText 152 = .ok (.goto 4, 3) := by decide +kernel
theorem dX11_readText_155 : decode cX11_readText 155 = .ok (.iconst 0, 1) := by decide +kernel
theorem dX11_readText_156 : decode cX11_readText 156 = .ok (.putfield 152, 3) := by decide +kernel
theorem dX11_readText_159 : decode cX11_readText 159 = .ok (.return_, 1) := by decide +kernel
theorem dX11_good_0 : decode cX11_good 0 = .ok (.iload_n 1, 1) := by decide +kernel
theorem dX11_good_1 : decode cX11_good 1 = .ok (.iconst 0, 1) := by decide +kernel
theorem dX11_good_2 : decode cX11_good 2 = .ok (.iconst 1, 1) := by decide +kernel
theorem dX11_good_3 : decode cX11_good 3 = .ok (.invokestatic 89, 3) := by decide +kernel
theorem dX11_good_6 : decode cX11_good 6 = .ok (.ifCond .ne 6, 3) := by decide +kernel
theorem dX11_good_9 : decode cX11_good 9 = .ok (.bipush (-102), 2) := by decide +kernel
theorem dX11_good_11 : decode cX11_good 11 = .ok (.ireturn, 1) := by decide +kernel
theorem dX11_good_12 : decode cX11_good 12 = .ok (.aload_n 0, 1) := by decide +kernel
theorem dX11_good_13 : decode cX11_good 13 = .ok (.iload_n 1, 1) := by decide +kernel
theorem dX11_good_14 : decode cX11_good 14 = .ok (.invokevirtual 155, 3) := by decide +kernel
theorem dX11_good_17 : decode cX11_good 17 = .ok (.aload_n 0, 1) := by decide +kernel
theorem dX11_good_18 : decode cX11_good 18 = .ok (.getfield 149, 3) := by decide +kernel
theorem dX11_good_21 : decode cX11_good 21 = .ok (.ireturn, 1) := by decide +kernel
theorem dX11_rule_0 : decode cX11_rule 0 = .ok (.aload_n 0, 1) := by decide +kernel
theorem dX11_rule_1 : decode cX11_rule 1 = .ok (.iconst 0, 1) := by decide +kernel
theorem dX11_rule_2 : decode cX11_rule 2 = .ok (.invokevirtual 155, 3) := by decide +kernel
theorem dX11_rule_5 : decode cX11_rule 5 = .ok (.aload_n 0, 1) := by decide +kernel
theorem dX11_rule_6 : decode cX11_rule 6 = .ok (.getfield 152, 3) := by decide +kernel
theorem dX11_rule_9 : decode cX11_rule 9 = .ok (.ifCond .ne 6, 3) := by decide +kernel
theorem dX11_rule_12 : decode cX11_rule 12 = .ok (.bipush (-103), 2) := by decide +kernel
theorem dX11_rule_14 : decode cX11_rule 14 = .ok (.ireturn, 1) := by decide +kernel
theorem dX11_rule_15 : decode cX11_rule 15 = .ok (.aload_n 0, 1) := by decide +kernel
theorem dX11_rule_16 : decode cX11_rule 16 = .ok (.getfield 111, 3) := by decide +kernel
theorem dX11_rule_19 : decode cX11_rule 19 = .ok (.bipush 6, 2) := by decide +kernel
theorem dX11_rule_21 : decode cX11_rule 21 = .ok (.if_icmp .ne 6, 3) := by decide +kernel
theorem dX11_rule_24 : decode cX11_rule 24 = .ok (.bipush (-104), 2) := by decide +kernel
theorem dX11_rule_26 : decode cX11_rule 26 = .ok (.ireturn, 1) := by decide +kernel
theorem dX11_rule_27 : decode cX11_rule 27 = .ok (.iconst 0, 1) := by decide +kernel
theorem dX11_rule_28 : decode cX11_rule 28 = .ok (.istore_n 1, 1) := by decide +kernel
theorem dX11_rule_29 : decode cX11_rule 29 = .ok (.iload_n 1, 1) := by decide +kernel
theorem dX11_rule_30 : decode cX11_rule 30 = .ok (.aload_n 0, 1) := by decide +kernel
theorem dX11_rule_31 : decode cX11_rule 31 = .ok (.getfield 133, 3) := by decide +kernel
theorem dX11_rule_34 : decode cX11_rule 34 = .ok (.if_icmp .ge 29, 3) := by decide +kernel
theorem dX11_rule_37 : decode cX11_rule 37 = .ok (.aload_n 0, 1) := by decide +kernel
theorem dX11_rule_38 : decode cX11_rule 38 = .ok (.getfield 23, 3) := by decide +kernel
theorem dX11_rule_41 : decode cX11_rule 41 = .ok (.bipush 60, 2) := by decide +kernel
theorem dX11_rule_43 : decode cX11_rule 43 = .ok (.aload_n 0, 1) := by decide +kernel
theorem dX11_rule_44 : decode cX11_rule 44 = .ok (.getfield 111, 3) := by decide +kernel
theorem dX11_rule_47 : decode cX11_rule 47 = .ok (.imul, 1) := by decide +kernel
theorem dX11_rule_48 : decode cX11_rule 48 = .ok (.iload_n 1, 1) := by decide +kernel
theorem dX11_rule_49 : decode cX11_rule 49 = .ok (.iadd, 1) := by decide +kernel
theorem dX11_rule_50 : decode cX11_rule 50 = .ok (.aload_n 0, 1) := by decide +kernel
theorem dX11_rule_51 : decode cX11_rule 51 = .ok (.getfield 19, 3) := by decide +kernel
theorem dX11_rule_54 : decode cX11_rule 54 = .ok (.iload_n 1, 1) := by decide +kernel
theorem dX11_rule_55 : decode cX11_rule 55 = .ok (.baload, 1) := by decide +kernel
theorem dX11_rule_56 : decode cX11_rule 56 = .ok (.bastore, 1) := by decide +kernel
theorem dX11_rule_57 : decode cX11_rule 57 = .ok (.iinc 1 1, 3) := by decide +kernel
theorem dX11_rule_60 : decode cX11_rule 60 = .ok (.goto (-31), 3) := by decide +kernel
theorem dX11_rule_63 : decode cX11_rule 63 = .ok (.aload_n 0, 1) := by decide +kernel
theorem dX11_rule_64 : decode cX11_rule 64 = .ok (.getfield 26, 3) := by decide +kernel
theorem dX11_rule_67 : decode cX11_rule 67 = .ok (.aload_n 0, 1) := by decide +kernel
theorem dX11_rule_68 : decode cX11_rule 68 = .ok (.getfield 111, 3) := by decide +kernel
theorem dX11_rule_71 : decode cX11_rule 71 = .ok (.aload_n 0, 1) := by decide +kernel
theorem dX11_rule_72 : decode cX11_rule 72 = .ok (.getfield 133, 3) := by decide +kernel
theorem dX11_rule_75 : decode cX11_rule 75 = .ok (.iastore, 1) := by decide +kernel
theorem dX11_rule_76 : decode cX11_rule 76 = .ok (.aload_n 0, 1) := by decide +kernel
theorem dX11_rule_77 : decode cX11_rule 77 = .ok (.getfield 29, 3) := by decide +kernel
theorem dX11_rule_80 : decode cX11_rule 80 = .ok (.aload_n 0, 1) := by decide +kernel
theorem dX11_rule_81 : decode cX11_rule 81 = .ok (.getfield 111, 3) := by decide +kernel
theorem dX11_rule_84 : decode cX11_rule 84 = .ok (.iconst 0, 1) := by decide +kernel
theorem dX11_rule_85 : decode cX11_rule 85 = .ok (.bastore, 1) := by decide +kernel
theorem dX11_rule_86 : decode cX11_rule 86 = .ok (.aload_n 0, 1) := by decide +kernel
theorem dX11_rule_87 : decode cX11_rule 87 = .ok (.dup, 1) := by decide +kernel
theorem dX11_rule_88 : decode cX11_rule 88 = .ok (.getfield 111, 3) := by decide +kernel
theorem dX11_rule_91 : decode cX11_rule 91 = .ok (.iconst 1, 1) := by decide +kernel
theorem dX11_rule_92 : decode cX11_rule 92 = .ok (.iadd, 1) := by decide +kernel
theorem dX11_rule_93 : decode cX11_rule 93 = .ok (.putfield 111, 3) := by decide +kernel
theorem dX11_rule_96 : decode cX11_rule 96 = .ok (.aload_n 0, 1) := by decide +kernel
theorem dX11_rule_97 : decode cX11_rule 97 = .ok (.iconst 0, 1) := by decide +kernel
theorem dX11_rule_98 : decode cX11_rule 98 = .ok (.putfield 133, 3) := by decide +kernel
theorem dX11_rule_101 : decode cX11_rule 101 = .ok (.aload_n 0, 1) := by decide +kernel
theorem dX11_rule_102 : decode cX11_rule 102 = .ok (.iconst 0, 1) := by decide +kernel
theorem dX11_rule_103 : decode cX11_rule 103 = .ok (.putfield 100, 3) := by decide +kernel
theorem dX11_rule_106 : decode cX11_rule 106 = .ok (.aload_n 0, 1) := by decide +kernel
theorem dX11_rule_107 : decode cX11_rule 107 = .ok (.getfield 111, 3) := by decide +kernel
theorem dX11_rule_110 : decode cX11_rule 110 = .ok (.iconst 1, 1) := by decide +kernel
theorem dX11_rule_111 : decode cX11_rule 111 = .ok (.isub, 1) := by decide +kernel
theorem dX11_rule_112 : decode cX11_rule 112 = .ok (.ireturn, 1) := by decide +kernel
theorem dX11_step_0 : decode cX11_step 0 = .ok (.aload_n 0, 1) := by decide +kernel
theorem dX11_step_1 : decode cX11_step 1 = .ok (.iconst 1, 1) := by decide +kernel
theorem dX11_step_2 : decode cX11_step 2 = .ok (.invokevirtual 155, 3) := by decide +kernel
theorem dX11_step_5 : decode cX11_step 5 = .ok (.aload_n 0, 1) := by decide +kernel
theorem dX11_step_6 : decode cX11_step 6 = .ok (.getfield 152, 3) := by decide +kernel
theorem dX11_step_9 : decode cX11_step 9 = .ok (.ifCond .ne 6, 3) := by decide +kernel
theorem dX11_step_12 : decode cX11_step 12 = .ok (.bipush (-103), 2) := by decide +kernel
theorem dX11_step_14 : decode cX11_step 14 = .ok (.ireturn, 1) := by decide +kernel
theorem dX11_step_15 : decode cX11_step 15 = .ok (.aload_n 0, 1) := by decide +kernel
theorem dX11_step_16 : decode cX11_step 16 = .ok (.getfield 159, 3) := by decide +kernel
theorem dX11_step_19 : decode cX11_step 19 = .ok (.bipush 8, 2) := by decide +kernel
theorem dX11_step_21 : decode cX11_step 21 = .ok (.if_icmp .ne 6, 3) := by decide +kernel
theorem dX11_step_24 : decode cX11_step 24 = .ok (.bipush (-104), 2) := by decide +kernel
theorem dX11_step_26 : decode cX11_step 26 = .ok (.ireturn, 1) := by decide +kernel
theorem dX11_step_27 : decode cX11_step 27 = .ok (.iconst 0, 1) := by decide +kernel
theorem dX11_step_28 : decode cX11_step 28 = .ok (.istore_n 1, 1) := by decide +kernel
theorem dX11_step_29 : decode cX11_step 29 = .ok (.iload_n 1, 1) := by decide +kernel
theorem dX11_step_30 : decode cX11_step 30 = .ok (.aload_n 0, 1) := by decide +kernel
theorem dX11_step_31 : decode cX11_step 31 = .ok (.getfield 133, 3) := by decide +kernel
theorem dX11_step_34 : decode cX11_step 34 = .ok (.if_icmp .ge 29, 3) := by decide +kernel
theorem dX11_step_37 : decode cX11_step 37 = .ok (.aload_n 0, 1) := by decide +kernel
theorem dX11_step_38 : decode cX11_step 38 = .ok (.getfield 33, 3) := by decide +kernel
theorem dX11_step_41 : decode cX11_step 41 = .ok (.bipush 60, 2) := by decide +kernel
theorem dX11_step_43 : decode cX11_step 43 = .ok (.aload_n 0, 1) := by decide +kernel
theorem dX11_step_44 : decode cX11_step 44 = .ok (.getfield 159, 3) := by decide +kernel
theorem dX11_step_47 : decode cX11_step 47 = .ok (.imul, 1) := by decide +kernel
theorem dX11_step_48 : decode cX11_step 48 = .ok (.iload_n 1, 1) := by decide +kernel
theorem dX11_step_49 : decode cX11_step 49 = .ok (.iadd, 1) := by decide +kernel
theorem dX11_step_50 : decode cX11_step 50 = .ok (.aload_n 0, 1) := by decide +kernel
theorem dX11_step_51 : decode cX11_step 51 = .ok (.getfield 19, 3) := by decide +kernel
theorem dX11_step_54 : decode cX11_step 54 = .ok (.iload_n 1, 1) := by decide +kernel
theorem dX11_step_55 : decode cX11_step 55 = .ok (.baload, 1) := by decide +kernel
theorem dX11_step_56 : decode cX11_step 56 = .ok (.bastore, 1) := by decide +kernel
theorem dX11_step_57 : decode cX11_step 57 = .ok (.iinc 1 1, 3) := by decide +kernel
theorem dX11_step_60 : decode cX11_step 60 = .ok (.goto (-31), 3) := by decide +kernel
theorem dX11_step_63 : decode cX11_step 63 = .ok (.aload_n 0, 1) := by decide +kernel
theorem dX11_step_64 : decode cX11_step 64 = .ok (.getfield 36, 3) := by decide +kernel
theorem dX11_step_67 : decode cX11_step 67 = .ok (.aload_n 0, 1) := by decide +kernel
theorem dX11_step_68 : decode cX11_step 68 = .ok (.getfield 159, 3) := by decide +kernel
theorem dX11_step_71 : decode cX11_step 71 = .ok (.aload_n 0, 1) := by decide +kernel
theorem dX11_step_72 : decode cX11_step 72 = .ok (.getfield 133, 3) := by decide +kernel
theorem dX11_step_75 : decode cX11_step 75 = .ok (.iastore, 1) := by decide +kernel
theorem dX11_step_76 : decode cX11_step 76 = .ok (.aload_n 0, 1) := by decide +kernel
theorem dX11_step_77 : decode cX11_step 77 = .ok (.dup, 1) := by decide +kernel
theorem dX11_step_78 : decode cX11_step 78 = .ok (.getfield 159, 3) := by decide +kernel
theorem dX11_step_81 : decode cX11_step 81 = .ok (.iconst 1, 1) := by decide +kernel
theorem dX11_step_82 : decode cX11_step 82 = .ok (.iadd, 1) := by decide +kernel
theorem dX11_step_83 : decode cX11_step 83 = .ok (.putfield 159, 3) := by decide +kernel
theorem dX11_step_86 : decode cX11_step 86 = .ok (.aload_n 0, 1) := by decide +kernel
theorem dX11_step_87 : decode cX11_step 87 = .ok (.iconst 0, 1) := by decide +kernel
theorem dX11_step_88 : decode cX11_step 88 = .ok (.putfield 133, 3) := by decide +kernel
theorem dX11_step_91 : decode cX11_step 91 = .ok (.aload_n 0, 1) := by decide +kernel
theorem dX11_step_92 : decode cX11_step 92 = .ok (.iconst 0, 1) := by decide +kernel
theorem dX11_step_93 : decode cX11_step 93 = .ok (.putfield 100, 3) := by decide +kernel
theorem dX11_step_96 : decode cX11_step 96 = .ok (.aload_n 0, 1) := by decide +kernel
theorem dX11_step_97 : decode cX11_step 97 = .ok (.getfield 159, 3) := by decide +kernel
theorem dX11_step_100 : decode cX11_step 100 = .ok (.iconst 1, 1) := by decide +kernel
theorem dX11_step_101 : decode cX11_step 101 = .ok (.isub, 1) := by decide +kernel
theorem dX11_step_102 : decode cX11_step 102 = .ok (.ireturn, 1) := by decide +kernel
theorem dX11_bare_0 : decode cX11_bare 0 = .ok (.aload_n 0, 1) := by decide +kernel
theorem dX11_bare_1 : decode cX11_bare 1 = .ok (.getfield 159, 3) := by decide +kernel
theorem dX11_bare_4 : decode cX11_bare 4 = .ok (.istore_n 1, 1) := by decide +kernel
theorem dX11_bare_5 : decode cX11_bare 5 = .ok (.aload_n 0, 1) := by decide +kernel
theorem dX11_bare_6 : decode cX11_bare 6 = .ok (.iconst 0, 1) := by decide +kernel
theorem dX11_bare_7 : decode cX11_bare 7 = .ok (.putfield 159, 3) := by decide +kernel
theorem dX11_bare_10 : decode cX11_bare 10 = .ok (.aload_n 0, 1) := by decide +kernel
theorem dX11_bare_11 : decode cX11_bare 11 = .ok (.iconst 0, 1) := by decide +kernel
theorem dX11_bare_12 : decode cX11_bare 12 = .ok (.putfield 100, 3) := by decide +kernel
theorem dX11_bare_15 : decode cX11_bare 15 = .ok (.iload_n 1, 1) := by decide +kernel
theorem dX11_bare_16 : decode cX11_bare 16 = .ok (.ireturn, 1) := by decide +kernel
theorem dX11_always_0 : decode cX11_always 0 = .ok (.iload_n 1, 1) := by decide +kernel
theorem dX11_always_1 : decode cX11_always 1 = .ok (.iconst 0, 1) := by decide +kernel
theorem dX11_always_2 : decode cX11_always 2 = .ok (.aload_n 0, 1) := by decide +kernel
theorem dX11_always_3 : decode cX11_always 3 = .ok (.getfield 111, 3) := by decide +kernel
theorem dX11_always_6 : decode cX11_always 6 = .ok (.iconst 1, 1) := by decide +kernel
theorem dX11_always_7 : decode cX11_always 7 = .ok (.isub, 1) := by decide +kernel
theorem dX11_always_8 : decode cX11_always 8 = .ok (.invokestatic 89, 3) := by decide +kernel
theorem dX11_always_11 : decode cX11_always 11 = .ok (.ifCond .ne 6, 3) := by decide +kernel
theorem dX11_always_14 : decode cX11_always 14 = .ok (.bipush (-101), 2) := by decide +kernel
theorem dX11_always_16 : decode cX11_always 16 = .ok (.ireturn, 1) := by decide +kernel
theorem dX11_always_17 : decode cX11_always 17 = .ok (.aload_n 0, 1) := by decide +kernel
theorem dX11_always_18 : decode cX11_always 18 = .ok (.getfield 29, 3) := by decide +kernel
theorem dX11_always_21 : decode cX11_always 21 = .ok (.iload_n 1, 1) := by decide +kernel
theorem dX11_always_22 : decode cX11_always 22 = .ok (.baload, 1) := by decide +kernel
theorem dX11_always_23 : decode cX11_always 23 = .ok (.ifCond .eq 7, 3) := by decide +kernel
theorem dX11_always_26 : decode cX11_always 26 = .ok (.iconst 1, 1) := by decide +kernel
theorem dX11_always_27 : decode cX11_always 27 = .ok (.goto 4, 3) := by decide +kernel
theorem dX11_always_30 : decode cX11_always 30 = .ok (.iconst 0, 1) := by decide +kernel
theorem dX11_always_31 : decode cX11_always 31 = .ok (.istore_n 3, 1) := by decide +kernel
theorem dX11_always_32 : decode cX11_always 32 = .ok (.aload_n 0, 1) := by decide +kernel
theorem dX11_always_33 : decode cX11_always 33 = .ok (.getfield 29, 3) := by decide +kernel
theorem dX11_always_36 : decode cX11_always 36 = .ok (.iload_n 1, 1) := by decide +kernel
theorem dX11_always_37 : decode cX11_always 37 = .ok (.iload_n 2, 1) := by decide +kernel
theorem dX11_always_38 : decode cX11_always 38 = .ok (.bastore, 1) := by decide +kernel
theorem dX11_always_39 : decode cX11_always 39 = .ok (.iload_n 3, 1) := by decide +kernel
theorem dX11_always_40 : decode cX11_always 40 = .ok (.ireturn, 1) := by decide +kernel
theorem dX11_sign_0 : decode cX11_sign 0 = .ok (.aload_n 0, 1) := by decide +kernel
theorem dX11_sign_1 : decode cX11_sign 1 = .ok (.getfield 162, 3) := by decide +kernel
theorem dX11_sign_4 : decode cX11_sign 4 = .ok (.aload_n 0, 1) := by decide +kernel
theorem dX11_sign_5 : decode cX11_sign 5 = .ok (.getfield 165, 3) := by decide +kernel
theorem dX11_sign_8 : decode cX11_sign 8 = .ok (.if_icmp .lt 7, 3) := by decide +kernel
theorem dX11_sign_11 : decode cX11_sign 11 = .ok (.iconst 0, 1) := by decide +kernel
theorem dX11_sign_12 : decode cX11_sign 12 = .ok (.goto 41, 3) := by decide +kernel
theorem dX11_sign_15 : decode cX11_sign 15 = .ok (.aload_n 0, 1) := by decide +kernel
theorem dX11_sign_16 : decode cX11_sign 16 = .ok (.getfield 168, 3) := by decide +kernel
theorem dX11_sign_19 : decode cX11_sign 19 = .ok (.ifCond .eq 20, 3) := by decide +kernel
theorem dX11_sign_22 : decode cX11_sign 22 = .ok (.aload_n 0, 1) := by decide +kernel
theorem dX11_sign_23 : decode cX11_sign 23 = .ok (.getfield 33, 3) := by decide +kernel
theorem dX11_sign_26 : decode cX11_sign 26 = .ok (.aload_n 0, 1) := by decide +kernel
theorem dX11_sign_27 : decode cX11_sign 27 = .ok (.getfield 171, 3) := by decide +kernel
theorem dX11_sign_30 : decode cX11_sign 30 = .ok (.aload_n 0, 1) := by decide +kernel
theorem dX11_sign_31 : decode cX11_sign 31 = .ok (.getfield 162, 3) := by decide +kernel
theorem dX11_sign_34 : decode cX11_sign 34 = .ok (.iadd, 1) := by decide +kernel
theorem dX11_sign_35 : decode cX11_sign 35 = .ok (.baload, 1) := by decide +kernel
theorem dX11_sign_36 : decode cX11_sign 36 = .ok (.goto 17, 3) := by decide +kernel
theorem dX11_sign_39 : decode cX11_sign 39 = .ok (.aload_n 0, 1) := by decide +kernel
theorem dX11_sign_40 : decode cX11_sign 40 = .ok (.getfield 23, 3) := by decide +kernel
theorem dX11_sign_43 : decode cX11_sign 43 = .ok (.aload_n 0, 1) := by decide +kernel
theorem dX11_sign_44 : decode cX11_sign 44 = .ok (.getfield 171, 3) := by decide +kernel
theorem dX11_sign_47 : decode cX11_sign 47 = .ok (.aload_n 0, 1) := by decide +kernel
theorem dX11_sign_48 : decode cX11_sign 48 = .ok (.getfield 162, 3) := by decide +kernel
theorem dX11_sign_51 : decode cX11_sign 51 = .ok (.iadd, 1) := by decide +kernel
theorem dX11_sign_52 : decode cX11_sign 52 = .ok (.baload, 1) := by decide +kernel
theorem dX11_sign_53 : decode cX11_sign 53 = .ok (.ireturn, 1) := by decide +kernel
theorem dX11_sumHere_0 : decode cX11_sumHere 0 = .ok (.iconst 0, 1) := by decide +kernel
theorem dX11_sumHere_1 : decode cX11_sumHere 1 = .ok (.istore_n 1, 1) := by decide +kernel
theorem dX11_sumHere_2 : decode cX11_sumHere 2 = .ok (.iconst 1, 1) := by decide +kernel
theorem dX11_sumHere_3 : decode cX11_sumHere 3 = .ok (.istore_n 2, 1) := by decide +kernel
theorem dX11_sumHere_4 : decode cX11_sumHere 4 = .ok (.iconst 1, 1) := by decide +kernel
theorem dX11_sumHere_5 : decode cX11_sumHere 5 = .ok (.istore_n 3, 1) := by decide +kernel
theorem dX11_sumHere_6 : decode cX11_sumHere 6 = .ok (.iload_n 3, 1) := by decide +kernel
theorem dX11_sumHere_7 : decode cX11_sumHere 7 = .ok (.ifCond .eq 157, 3) := by decide +kernel
theorem dX11_sumHere_10 : decode cX11_sumHere 10 = .ok (.aload_n 0, 1) := by decide +kernel
theorem dX11_sumHere_11 : decode cX11_sumHere 11 = .ok (.invokevirtual 174, 3) := by decide +kernel
theorem dX11_sumHere_14 : decode cX11_sumHere 14 = .ok (.istore 4, 2) := by decide +kernel
theorem dX11_sumHere_16 : decode cX11_sumHere 16 = .ok (.aload_n 0, 1) := by decide +kernel
theorem dX11_sumHere_17 : decode cX11_sumHere 17 = .ok (.dup, 1) := by decide +kernel
theorem dX11_sumHere_18 : decode cX11_sumHere 18 = .ok (.getfield 162, 3) := by decide +kernel
theorem dX11_sumHere_21 : decode cX11_sumHere 21 = .ok (.iconst 1, 1) := by decide +kernel
theorem dX11_sumHere_22 : decode cX11_sumHere 22 = .ok (.iadd, 1) := by decide +kernel
theorem dX11_sumHere_23 : decode cX11_sumHere 23 = .ok (.putfield 162, 3) := by decide +kernel
theorem dX11_sumHere_26 : decode cX11_sumHere 26 = .ok (.iload 4, 2) := by decide +kernel
theorem dX11_sumHere_28 : decode cX11_sumHere 28 = .ok (.invokestatic 136, 3) := by decide +kernel
theorem dX11_sumHere_31 : decode cX11_sumHere 31 = .ok (.ifCond .eq 16, 3) := by decide +kernel
theorem dX11_sumHere_34 : decode cX11_sumHere 34 = .ok (.aload_n 0, 1) := by decide +kernel
theorem dX11_sumHere_35 : decode cX11_sumHere 35 = .ok (.getfield 46, 3) := by decide +kernel
theorem dX11_sumHere_38 : decode cX11_sumHere 38 = .ok (.iload 4, 2) := by decide +kernel
theorem dX11_sumHere_40 : decode cX11_sumHere 40 = .ok (.bipush 97, 2) := by decide +kernel
theorem dX11_sumHere_42 : decode cX11_sumHere 42 = .ok (.isub, 1) := by decide +kernel
theorem dX11_sumHere_43 : decode cX11_sumHere 43 = .ok (.iaload, 1) := by decide +kernel
theorem dX11_sumHere_44 : decode cX11_sumHere 44 = .ok (.goto 8, 3) := by decide +kernel
theorem dX11_sumHere_47 : decode cX11_sumHere 47 = .ok (.iload 4, 2) := by decide +kernel
theorem dX11_sumHere_49 : decode cX11_sumHere 49 = .ok (.bipush 48, 2) := by decide +kernel
theorem dX11_sumHere_51 : decode cX11_sumHere 51 = .ok (.isub, 1) := by decide +kernel
theorem dX11_sumHere_52 : decode cX11_sumHere 52 = .ok (.istore 5, 2) := by decide +kernel
theorem dX11_sumHere_54 : decode cX11_sumHere 54 = .ok (.iload 4, 2) := by decide +kernel
theorem dX11_sumHere_56 : decode cX11_sumHere 56 = .ok (.invokestatic 139, 3) := by decide +kernel
theorem dX11_sumHere_59 : decode cX11_sumHere 59 = .ok (.ifCond .eq 38, 3) := by decide +kernel
theorem dX11_sumHere_62 : decode cX11_sumHere 62 = .ok (.aload_n 0, 1) := by decide +kernel
theorem dX11_sumHere_63 : decode cX11_sumHere 63 = .ok (.invokevirtual 174, 3) := by decide +kernel
theorem dX11_sumHere_66 : decode cX11_sumHere 66 = .ok (.invokestatic 139, 3) := by decide +kernel
theorem dX11_sumHere_69 : decode cX11_sumHere 69 = .ok (.ifCond .eq 28, 3) := by decide +kernel
theorem dX11_sumHere_72 : decode cX11_sumHere 72 = .ok (.bipush 10, 2) := by decide +kernel
theorem dX11_sumHere_74 : decode cX11_sumHere 74 = .ok (.iload 5, 2) := by decide +kernel
theorem dX11_sumHere_76 : decode cX11_sumHere 76 = .ok (.imul, 1) := by decide +kernel
theorem dX11_sumHere_77 : decode cX11_sumHere 77 = .ok (.aload_n 0, 1) := by decide +kernel
theorem dX11_sumHere_78 : decode cX11_sumHere 78 = .ok (.invokevirtual 174, 3) := by decide +kernel
theorem dX11_sumHere_81 : decode cX11_sumHere 81 = .ok (.iadd, 1) := by decide +kernel
theorem dX11_sumHere_82 : decode cX11_sumHere 82 = .ok (.bipush 48, 2) := by decide +kernel
theorem dX11_sumHere_84 : decode cX11_sumHere 84 = .ok (.isub, 1) := by decide +kernel
theorem dX11_sumHere_85 : decode cX11_sumHere 85 = .ok (.istore 5, 2) := by decide +kernel
theorem dX11_sumHere_87 : decode cX11_sumHere 87 = .ok (.aload_n 0, 1) := by decide +kernel
theorem dX11_sumHere_88 : decode cX11_sumHere 88 = .ok (.dup, 1) := by decide +kernel
theorem dX11_sumHere_89 : decode cX11_sumHere 89 = .ok (.getfield 162, 3) := by decide +kernel
theorem dX11_sumHere_92 : decode cX11_sumHere 92 = .ok (.iconst 1, 1) := by decide +kernel
theorem dX11_sumHere_93 : decode cX11_sumHere 93 = .ok (.iadd, 1) := by decide +kernel
theorem dX11_sumHere_94 : decode cX11_sumHere 94 = .ok (.putfield 162, 3) := by decide +kernel
theorem dX11_sumHere_97 : decode cX11_sumHere 97 = .ok (.iload_n 1, 1) := by decide +kernel
theorem dX11_sumHere_98 : decode cX11_sumHere 98 = .ok (.iload_n 2, 1) := by decide +kernel
theorem dX11_sumHere_99 : decode cX11_sumHere 99 = .ok (.iload 5, 2) := by decide +kernel
theorem dX11_sumHere_101 : decode cX11_sumHere 101 = .ok (.imul, 1) := by decide +kernel
theorem dX11_sumHere_102 : decode cX11_sumHere 102 = .ok (.iadd, 1) := by decide +kernel
theorem dX11_sumHere_103 : decode cX11_sumHere 103 = .ok (.istore_n 1, 1) := by decide +kernel
theorem dX11_sumHere_104 : decode cX11_sumHere 104 = .ok (.aload_n 0, 1) := by decide +kernel
theorem dX11_sumHere_105 : decode cX11_sumHere 105 = .ok (.invokevirtual 174, 3) := by decide +kernel
theorem dX11_sumHere_108 : decode cX11_sumHere 108 = .ok (.bipush 43, 2) := by decide +kernel
theorem dX11_sumHere_110 : decode cX11_sumHere 110 = .ok (.if_icmp .eq 12, 3) := by decide +kernel
theorem dX11_sumHere_113 : decode cX11_sumHere 113 = .ok (.aload_n 0, 1) := by decide +kernel
theorem dX11_sumHere_114 : decode cX11_sumHere 114 = .ok (.invokevirtual 174, 3) := by decide +kernel
theorem dX11_sumHere_117 : decode cX11_sumHere 117 = .ok (.bipush 45, 2) := by decide +kernel
theorem dX11_sumHere_119 : decode cX11_sumHere 119 = .ok (.if_icmp .ne 7, 3) := by decide +kernel
theorem dX11_sumHere_122 : decode cX11_sumHere 122 = .ok (.iconst 1, 1) := by decide +kernel
theorem dX11_sumHere_123 : decode cX11_sumHere 123 = .ok (.goto 4, 3) := by decide +kernel
theorem dX11_sumHere_126 : decode cX11_sumHere 126 = .ok (.iconst 0, 1) := by decide +kernel
theorem dX11_sumHere_127 : decode cX11_sumHere 127 = .ok (.istore_n 3, 1) := by decide +kernel
theorem dX11_sumHere_128 : decode cX11_sumHere 128 = .ok (.aload_n 0, 1) := by decide +kernel
theorem dX11_sumHere_129 : decode cX11_sumHere 129 = .ok (.invokevirtual 174, 3) := by decide +kernel
theorem dX11_sumHere_132 : decode cX11_sumHere 132 = .ok (.bipush 43, 2) := by decide +kernel
theorem dX11_sumHere_134 : decode cX11_sumHere 134 = .ok (.if_icmp .ne 7, 3) := by decide +kernel
theorem dX11_sumHere_137 : decode cX11_sumHere 137 = .ok (.iconst 1, 1) := by decide +kernel
theorem dX11_sumHere_138 : decode cX11_sumHere 138 = .ok (.goto 4, 3) := by decide +kernel
theorem dX11_sumHere_141 : decode cX11_sumHere 141 = .ok (.iconst (-1), 1) := by decide +kernel
theorem dX11_sumHere_142 : decode cX11_sumHere 142 = .ok (.istore_n 2, 1) := by decide +kernel
theorem dX11_sumHere_143 : decode cX11_sumHere 143 = .ok (.aload_n 0, 1) := by decide +kernel
theorem dX11_sumHere_144 : decode cX11_sumHere 144 = .ok (.dup, 1) := by decide +kernel
theorem dX11_sumHere_145 : decode cX11_sumHere 145 = .ok (.getfield 162, 3) := by decide +kernel
theorem dX11_sumHere_148 : decode cX11_sumHere 148 = .ok (.iload_n 3, 1) := by decide +kernel
theorem dX11_sumHere_149 : decode cX11_sumHere 149 = .ok (.ifCond .eq 7, 3) := by decide +kernel
theorem dX11_sumHere_152 : decode cX11_sumHere 152 = .ok (.iconst 1, 1) := by decide +kernel
theorem dX11_sumHere_153 : decode cX11_sumHere 153 = .ok (.goto 4, 3) := by decide +kernel
theorem dX11_sumHere_156 : decode cX11_sumHere 156 = .ok (.iconst 0, 1) := by decide +kernel
theorem dX11_sumHere_157 : decode cX11_sumHere 157 = .ok (.iadd, 1) := by decide +kernel
theorem dX11_sumHere_158 : decode cX11_sumHere 158 = .ok (.putfield 162, 3) := by decide +kernel
theorem dX11_sumHere_161 : decode cX11_sumHere 161 = .ok (.goto (-155), 3) := by decide +kernel
theorem dX11_sumHere_164 : decode cX11_sumHere 164 = .ok (.iload_n 1, 1) := by decide +kernel
theorem dX11_sumHere_165 : decode cX11_sumHere 165 = .ok (.ireturn, 1) := by decide +kernel
theorem dX11_openGroup_0 : decode cX11_openGroup 0 = .ok (.aload_n 0, 1) := by decide +kernel
theorem dX11_openGroup_1 : decode cX11_openGroup 1 = .ok (.dup, 1) := by decide +kernel
theorem dX11_openGroup_2 : decode cX11_openGroup 2 = .ok (.getfield 178, 3) := by decide +kernel
theorem dX11_openGroup_5 : decode cX11_openGroup 5 = .ok (.iconst 1, 1) := by decide +kernel
theorem dX11_openGroup_6 : decode cX11_openGroup 6 = .ok (.iadd, 1) := by decide +kernel
theorem dX11_openGroup_7 : decode cX11_openGroup 7 = .ok (.putfield 178, 3) := by decide +kernel
theorem dX11_openGroup_10 : decode cX11_openGroup 10 = .ok (.aload_n 0, 1) := by decide +kernel
theorem dX11_openGroup_11 : decode cX11_openGroup 11 = .ok (.getfield 49, 3) := by decide +kernel
theorem dX11_openGroup_14 : decode cX11_openGroup 14 = .ok (.aload_n 0, 1) := by decide +kernel
theorem dX11_openGroup_15 : decode cX11_openGroup 15 = .ok (.getfield 178, 3) := by decide +kernel
theorem dX11_openGroup_18 : decode cX11_openGroup 18 = .ok (.iconst 0, 1) := by decide +kernel
theorem dX11_openGroup_19 : decode cX11_openGroup 19 = .ok (.bastore, 1) := by decide +kernel
theorem dX11_openGroup_20 : decode cX11_openGroup 20 = .ok (.aload_n 0, 1) := by decide +kernel
theorem dX11_openGroup_21 : decode cX11_openGroup 21 = .ok (.getfield 52, 3) := by decide +kernel
theorem dX11_openGroup_24 : decode cX11_openGroup 24 = .ok (.aload_n 0, 1) := by decide +kernel
theorem dX11_openGroup_25 : decode cX11_openGroup 25 = .ok (.getfield 178, 3) := by decide +kernel
theorem dX11_openGroup_28 : decode cX11_openGroup 28 = .ok (.iconst 1, 1) := by decide +kernel
theorem dX11_openGroup_29 : decode cX11_openGroup 29 = .ok (.bastore, 1) := by decide +kernel
theorem dX11_openGroup_30 : decode cX11_openGroup 30 = .ok (.aload_n 0, 1) := by decide +kernel
theorem dX11_openGroup_31 : decode cX11_openGroup 31 = .ok (.getfield 55, 3) := by decide +kernel
theorem dX11_openGroup_34 : decode cX11_openGroup 34 = .ok (.aload_n 0, 1) := by decide +kernel
theorem dX11_openGroup_35 : decode cX11_openGroup 35 = .ok (.getfield 178, 3) := by decide +kernel
theorem dX11_openGroup_38 : decode cX11_openGroup 38 = .ok (.iconst 0, 1) := by decide +kernel
theorem dX11_openGroup_39 : decode cX11_openGroup 39 = .ok (.bastore, 1) := by decide +kernel
theorem dX11_openGroup_40 : decode cX11_openGroup 40 = .ok (.return_, 1) := by decide +kernel
theorem dX11_factor_0 : decode cX11_factor 0 = .ok (.aload_n 0, 1) := by decide +kernel
theorem dX11_factor_1 : decode cX11_factor 1 = .ok (.getfield 52, 3) := by decide +kernel
theorem dX11_factor_4 : decode cX11_factor 4 = .ok (.aload_n 0, 1) := by decide +kernel
theorem dX11_factor_5 : decode cX11_factor 5 = .ok (.getfield 178, 3) := by decide +kernel
theorem dX11_factor_8 : decode cX11_factor 8 = .ok (.aload_n 0, 1) := by decide +kernel
theorem dX11_factor_9 : decode cX11_factor 9 = .ok (.getfield 52, 3) := by decide +kernel
theorem dX11_factor_12 : decode cX11_factor 12 = .ok (.aload_n 0, 1) := by decide +kernel
theorem dX11_factor_13 : decode cX11_factor 13 = .ok (.getfield 178, 3) := by decide +kernel
theorem dX11_factor_16 : decode cX11_factor 16 = .ok (.baload, 1) := by decide +kernel
theorem dX11_factor_17 : decode cX11_factor 17 = .ok (.ifCond .eq 20, 3) := by decide +kernel
theorem dX11_factor_20 : decode cX11_factor 20 = .ok (.iload_n 1, 1) := by decide +kernel
theorem dX11_factor_21 : decode cX11_factor 21 = .ok (.aload_n 0, 1) := by decide +kernel
theorem dX11_factor_22 : decode cX11_factor 22 = .ok (.getfield 55, 3) := by decide +kernel
theorem dX11_factor_25 : decode cX11_factor 25 = .ok (.aload_n 0, 1) := by decide +kernel
theorem dX11_factor_26 : decode cX11_factor 26 = .ok (.getfield 178, 3) := by decide +kernel
theorem dX11_factor_29 : decode cX11_factor 29 = .ok (.baload, 1) := by decide +kernel
theorem dX11_factor_30 : decode cX11_factor 30 = .ok (.if_icmp .eq 7, 3) := by decide +kernel
theorem dX11_factor_33 : decode cX11_factor 33 = .ok (.iconst 1, 1) := by decide +kernel
theorem dX11_factor_34 : decode cX11_factor 34 = .ok (.goto 4, 3) := by decide +kernel
theorem dX11_factor_37 : decode cX11_factor 37 = .ok (.iconst 0, 1) := by decide +kernel
theorem dX11_factor_38 : decode cX11_factor 38 = .ok (.bastore, 1) := by decide +kernel
theorem dX11_factor_39 : decode cX11_factor 39 = .ok (.aload_n 0, 1) := by decide +kernel
theorem dX11_factor_40 : decode cX11_factor 40 = .ok (.getfield 55, 3) := by decide +kernel
theorem dX11_factor_43 : decode cX11_factor 43 = .ok (.aload_n 0, 1) := by decide +kernel
theorem dX11_factor_44 : decode cX11_factor 44 = .ok (.getfield 178, 3) := by decide +kernel
theorem dX11_factor_47 : decode cX11_factor 47 = .ok (.iconst 0, 1) := by decide +kernel
theorem dX11_factor_48 : decode cX11_factor 48 = .ok (.bastore, 1) := by decide +kernel
theorem dX11_factor_49 : decode cX11_factor 49 = .ok (.return_, 1) := by decide +kernel
theorem dX11_holdsHere_0 : decode cX11_holdsHere 0 = .ok (.aload_n 0, 1) := by decide +kernel
theorem dX11_holdsHere_1 : decode cX11_holdsHere 1 = .ok (.iconst (-1), 1) := by decide +kernel
theorem dX11_holdsHere_2 : decode cX11_holdsHere 2 = .ok (.putfield 178, 3) := by decide +kernel
theorem dX11_holdsHere_5 : decode cX11_holdsHere 5 = .ok (.aload_n 0, 1) := by decide +kernel
theorem dX11_holdsHere_6 : decode cX11_holdsHere 6 = .ok (.invokevirtual 181, 3) := by decide +kernel
theorem dX11_holdsHere_9 : decode cX11_holdsHere 9 = .ok (.aload_n 0, 1) := by decide +kernel
theorem dX11_holdsHere_10 : decode cX11_holdsHere 10 = .ok (.invokevirtual 174, 3) := by decide +kernel
theorem dX11_holdsHere_13 : decode cX11_holdsHere 13 = .ok (.ifCond .eq 319, 3) := by decide +kernel
theorem dX11_holdsHere_16 : decode cX11_holdsHere 16 = .ok (.aload_n 0, 1) := by decide +kernel
theorem dX11_holdsHere_17 : decode cX11_holdsHere 17 = .ok (.invokevirtual 174, 3) := by decide +kernel
theorem dX11_holdsHere_20 : decode cX11_holdsHere 20 = .ok (.bipush 58, 2) := by decide +kernel
theorem dX11_holdsHere_22 : decode cX11_holdsHere 22 = .ok (.if_icmp .eq 310, 3) := by decide +kernel
theorem dX11_holdsHere_25 : decode cX11_holdsHere 25 = .ok (.aload_n 0, 1) := by decide +kernel
theorem dX11_holdsHere_26 : decode cX11_holdsHere 26 = .ok (.invokevirtual 174, 3) := by decide +kernel
theorem dX11_holdsHere_29 : decode cX11_holdsHere 29 = .ok (.istore_n 1, 1) := by decide +kernel
theorem dX11_holdsHere_30 : decode cX11_holdsHere 30 = .ok (.iload_n 1, 1) := by decide +kernel
theorem dX11_holdsHere_31 : decode cX11_holdsHere 31 = .ok (.bipush 33, 2) := by decide +kernel
theorem dX11_holdsHere_33 : decode cX11_holdsHere 33 = .ok (.if_icmp .ne 42, 3) := by decide +kernel
theorem dX11_holdsHere_36 : decode cX11_holdsHere 36 = .ok (.aload_n 0, 1) := by decide +kernel
theorem dX11_holdsHere_37 : decode cX11_holdsHere 37 = .ok (.getfield 55, 3) := by decide +kernel
theorem dX11_holdsHere_40 : decode cX11_holdsHere 40 = .ok (.aload_n 0, 1) := by decide +kernel
theorem dX11_holdsHere_41 : decode cX11_holdsHere 41 = .ok (.getfield 178, 3) := by decide +kernel
theorem dX11_holdsHere_44 : decode cX11_holdsHere 44 = .ok (.aload_n 0, 1) := by decide +kernel
theorem dX11_holdsHere_45 : decode cX11_holdsHere 45 = .ok (.getfield 55, 3) := by decide +kernel
theorem dX11_holdsHere_48 : decode cX11_holdsHere 48 = .ok (.aload_n 0, 1) := by decide +kernel
theorem dX11_holdsHere_49 : decode cX11_holdsHere 49 = .ok (.getfield 178, 3) := by decide +kernel
theorem dX11_holdsHere_52 : decode cX11_holdsHere 52 = .ok (.baload, 1) := by decide +kernel
theorem dX11_holdsHere_53 : decode cX11_holdsHere 53 = .ok (.ifCond .ne 7, 3) := by decide +kernel
theorem dX11_holdsHere_56 : decode cX11_holdsHere 56 = .ok (.iconst 1, 1) := by decide +kernel
theorem dX11_holdsHere_57 : decode cX11_holdsHere 57 = .ok (.goto 4, 3) := by decide +kernel
theorem dX11_holdsHere_60 : decode cX11_holdsHere 60 = .ok (.iconst 0, 1) := by decide +kernel
theorem dX11_holdsHere_61 : decode cX11_holdsHere 61 = .ok (.bastore, 1) := by decide +kernel
theorem dX11_holdsHere_62 : decode cX11_holdsHere 62 = .ok (.aload_n 0, 1) := by decide +kernel
theorem dX11_holdsHere_63 : decode cX11_holdsHere 63 = .ok (.dup, 1) := by decide +kernel
theorem dX11_holdsHere_64 : decode cX11_holdsHere 64 = .ok (.getfield 162, 3) := by decide +kernel
theorem dX11_holdsHere_67 : decode cX11_holdsHere 67 = .ok (.iconst 1, 1) := by decide +kernel
theorem dX11_holdsHere_68 : decode cX11_holdsHere 68 = .ok (.iadd, 1) := by decide +kernel
theorem dX11_holdsHere_69 : decode cX11_holdsHere 69 = .ok (.putfield 162, 3) := by decide +kernel
theorem dX11_holdsHere_72 : decode cX11_holdsHere 72 = .ok (.goto 257, 3) := by decide +kernel
theorem dX11_holdsHere_75 : decode cX11_holdsHere 75 = .ok (.iload_n 1, 1) := by decide +kernel
theorem dX11_holdsHere_76 : decode cX11_holdsHere 76 = .ok (.bipush 40, 2) := by decide +kernel
theorem dX11_holdsHere_78 : decode cX11_holdsHere 78 = .ok (.if_icmp .ne 20, 3) := by decide +kernel
theorem dX11_holdsHere_81 : decode cX11_holdsHere 81 = .ok (.aload_n 0, 1) := by decide +kernel
theorem dX11_holdsHere_82 : decode cX11_holdsHere 82 = .ok (.invokevirtual 181, 3) := by decide +kernel
theorem dX11_holdsHere_85 : decode cX11_holdsHere 85 = .ok (.aload_n 0, 1) := by decide +kernel
theorem dX11_holdsHere_86 : decode cX11_holdsHere 86 = .ok (.dup, 1) := by decide +kernel
theorem dX11_holdsHere_87 : decode cX11_holdsHere 87 = .ok (.getfield 162, 3) := by decide +kernel
theorem dX11_holdsHere_90 : decode cX11_holdsHere 90 = .ok (.iconst 1, 1) := by decide +kernel
theorem dX11_holdsHere_91 : decode cX11_holdsHere 91 = .ok (.iadd, 1) := by decide +kernel
theorem dX11_holdsHere_92 : decode cX11_holdsHere 92 = .ok (.putfield 162, 3) := by decide +kernel
theorem dX11_holdsHere_95 : decode cX11_holdsHere 95 = .ok (.goto 234, 3) := by decide +kernel
theorem dX11_holdsHere_98 : decode cX11_holdsHere 98 = .ok (.iload_n 1, 1) := by decide +kernel
theorem dX11_holdsHere_99 : decode cX11_holdsHere 99 = .ok (.bipush 41, 2) := by decide +kernel
theorem dX11_holdsHere_101 : decode cX11_holdsHere 101 = .ok (.if_icmp .ne 61, 3) := by decide +kernel
theorem dX11_holdsHere_104 : decode cX11_holdsHere 104 = .ok (.aload_n 0, 1) := by decide +kernel
theorem dX11_holdsHere_105 : decode cX11_holdsHere 105 = .ok (.getfield 49, 3) := by decide +kernel
theorem dX11_holdsHere_108 : decode cX11_holdsHere 108 = .ok (.aload_n 0, 1) := by decide +kernel
theorem dX11_holdsHere_109 : decode cX11_holdsHere 109 = .ok (.getfield 178, 3) := by decide +kernel
theorem dX11_holdsHere_112 : decode cX11_holdsHere 112 = .ok (.baload, 1) := by decide +kernel
theorem dX11_holdsHere_113 : decode cX11_holdsHere 113 = .ok (.ifCond .ne 15, 3) := by decide +kernel
theorem dX11_holdsHere_116 : decode cX11_holdsHere 116 = .ok (.aload_n 0, 1) := by decide +kernel
theorem dX11_holdsHere_117 : decode cX11_holdsHere 117 = .ok (.getfield 52, 3) := by decide +kernel
theorem dX11_holdsHere_120 : decode cX11_holdsHere 120 = .ok (.aload_n 0, 1) := by decide +kernel
theorem dX11_holdsHere_121 : decode cX11_holdsHere 121 = .ok (.getfield 178, 3) := by decide +kernel
theorem dX11_holdsHere_124 : decode cX11_holdsHere 124 = .ok (.baload, 1) := by decide +kernel
theorem dX11_holdsHere_125 : decode cX11_holdsHere 125 = .ok (.ifCond .eq 7, 3) := by decide +kernel
theorem dX11_holdsHere_128 : decode cX11_holdsHere 128 = .ok (.iconst 1, 1) := by decide +kernel
theorem dX11_holdsHere_129 : decode cX11_holdsHere 129 = .ok (.goto 4, 3) := by decide +kernel
theorem dX11_holdsHere_132 : decode cX11_holdsHere 132 = .ok (.iconst 0, 1) := by decide +kernel
theorem dX11_holdsHere_133 : decode cX11_holdsHere 133 = .ok (.istore_n 2, 1) := by decide +kernel
theorem dX11_holdsHere_134 : decode cX11_holdsHere 134 = .ok (.aload_n 0, 1) := by decide +kernel
theorem dX11_holdsHere_135 : decode cX11_holdsHere 135 = .ok (.dup, 1) := by decide +kernel
theorem dX11_holdsHere_136 : decode cX11_holdsHere 136 = .ok (.getfield 178, 3) := by decide +kernel
theorem dX11_holdsHere_139 : decode cX11_holdsHere 139 = .ok (.iconst 1, 1) := by decide +kernel
theorem dX11_holdsHere_140 : decode cX11_holdsHere 140 = .ok (.isub, 1) := by decide +kernel
theorem dX11_holdsHere_141 : decode cX11_holdsHere 141 = .ok (.putfield 178, 3) := by decide +kernel
theorem dX11_holdsHere_144 : decode cX11_holdsHere 144 = .ok (.aload_n 0, 1) := by decide +kernel
theorem dX11_holdsHere_145 : decode cX11_holdsHere 145 = .ok (.iload_n 2, 1) := by decide +kernel
theorem dX11_holdsHere_146 : decode cX11_holdsHere 146 = .ok (.invokevirtual 184, 3) := by decide +kernel
theorem dX11_holdsHere_149 : decode cX11_holdsHere 149 = .ok (.aload_n 0, 1) := by decide +kernel
theorem dX11_holdsHere_150 : decode cX11_holdsHere 150 = .ok (.dup, 1) := by decide +kernel
theorem dX11_holdsHere_151 : decode cX11_holdsHere 151 = .ok (.getfield 162, 3) := by decide +kernel
theorem dX11_holdsHere_154 : decode cX11_holdsHere 154 = .ok (.iconst 1, 1) := by decide +kernel
theorem dX11_holdsHere_155 : decode cX11_holdsHere 155 = .ok (.iadd, 1) := by decide +kernel
theorem dX11_holdsHere_156 : decode cX11_holdsHere 156 = .ok (.putfield 162, 3) := by decide +kernel
theorem dX11_holdsHere_159 : decode cX11_holdsHere 159 = .ok (.goto 170, 3) := by decide +kernel
theorem dX11_holdsHere_162 : decode cX11_holdsHere 162 = .ok (.iload_n 1, 1) := by decide +kernel
theorem dX11_holdsHere_163 : decode cX11_holdsHere 163 = .ok (.bipush 124, 2) := by decide +kernel
theorem dX11_holdsHere_165 : decode cX11_holdsHere 165 = .ok (.if_icmp .ne 64, 3) := by decide +kernel
theorem dX11_holdsHere_168 : decode cX11_holdsHere 168 = .ok (.aload_n 0, 1) := by decide +kernel
theorem dX11_holdsHere_169 : decode cX11_holdsHere 169 = .ok (.getfield 49, 3) := by decide +kernel
theorem dX11_holdsHere_172 : decode cX11_holdsHere 172 = .ok (.aload_n 0, 1) := by decide +kernel
theorem dX11_holdsHere_173 : decode cX11_holdsHere 173 = .ok (.getfield 178, 3) := by decide +kernel
theorem dX11_holdsHere_176 : decode cX11_holdsHere 176 = .ok (.aload_n 0, 1) := by decide +kernel
theorem dX11_holdsHere_177 : decode cX11_holdsHere 177 = .ok (.getfield 49, 3) := by decide +kernel
theorem dX11_holdsHere_180 : decode cX11_holdsHere 180 = .ok (.aload_n 0, 1) := by decide +kernel
theorem dX11_holdsHere_181 : decode cX11_holdsHere 181 = .ok (.getfield 178, 3) := by decide +kernel
theorem dX11_holdsHere_184 : decode cX11_holdsHere 184 = .ok (.baload, 1) := by decide +kernel
theorem dX11_holdsHere_185 : decode cX11_holdsHere 185 = .ok (.ifCond .ne 15, 3) := by decide +kernel
theorem dX11_holdsHere_188 : decode cX11_holdsHere 188 = .ok (.aload_n 0, 1) := by decide +kernel
theorem dX11_holdsHere_189 : decode cX11_holdsHere 189 = .ok (.getfield 52, 3) := by decide +kernel
theorem dX11_holdsHere_192 : decode cX11_holdsHere 192 = .ok (.aload_n 0, 1) := by decide +kernel
theorem dX11_holdsHere_193 : decode cX11_holdsHere 193 = .ok (.getfield 178, 3) := by decide +kernel
theorem dX11_holdsHere_196 : decode cX11_holdsHere 196 = .ok (.baload, 1) := by decide +kernel
theorem dX11_holdsHere_197 : decode cX11_holdsHere 197 = .ok (.ifCond .eq 7, 3) := by decide +kernel
theorem dX11_holdsHere_200 : decode cX11_holdsHere 200 = .ok (.iconst 1, 1) := by decide +kernel
theorem dX11_holdsHere_201 : decode cX11_holdsHere 201 = .ok (.goto 4, 3) := by decide +kernel
theorem dX11_holdsHere_204 : decode cX11_holdsHere 204 = .ok (.iconst 0, 1) := by decide +kernel
theorem dX11_holdsHere_205 : decode cX11_holdsHere 205 = .ok (.bastore, 1) := by decide +kernel
theorem dX11_holdsHere_206 : decode cX11_holdsHere 206 = .ok (.aload_n 0, 1) := by decide +kernel
theorem dX11_holdsHere_207 : decode cX11_holdsHere 207 = .ok (.getfield 52, 3) := by decide +kernel
theorem dX11_holdsHere_210 : decode cX11_holdsHere 210 = .ok (.aload_n 0, 1) := by decide +kernel
theorem dX11_holdsHere_211 : decode cX11_holdsHere 211 = .ok (.getfield 178, 3) := by decide +kernel
theorem dX11_holdsHere_214 : decode cX11_holdsHere 214 = .ok (.iconst 1, 1) := by decide +kernel
theorem dX11_holdsHere_215 : decode cX11_holdsHere 215 = .ok (.bastore, 1) := by decide +kernel
theorem dX11_holdsHere_216 : decode cX11_holdsHere 216 = .ok (.aload_n 0, 1) := by decide +kernel
theorem dX11_holdsHere_217 : decode cX11_holdsHere 217 = .ok (.dup, 1) := by decide +kernel
theorem dX11_holdsHere_218 : decode cX11_holdsHere 218 = .ok (.getfield 162, 3) := by decide +kernel
theorem dX11_holdsHere_221 : decode cX11_holdsHere 221 = .ok (.iconst 1, 1) := by decide +kernel
theorem dX11_holdsHere_222 : decode cX11_holdsHere 222 = .ok (.iadd, 1) := by decide +kernel
theorem dX11_holdsHere_223 : decode cX11_holdsHere 223 = .ok (.putfield 162, 3) := by decide +kernel
theorem dX11_holdsHere_226 : decode cX11_holdsHere 226 = .ok (.goto 103, 3) := by decide +kernel
theorem dX11_holdsHere_229 : decode cX11_holdsHere 229 = .ok (.iload_n 1, 1) := by decide +kernel
theorem dX11_holdsHere_230 : decode cX11_holdsHere 230 = .ok (.bipush 38, 2) := by decide +kernel
theorem dX11_holdsHere_232 : decode cX11_holdsHere 232 = .ok (.if_icmp .ne 16, 3) := by decide +kernel
theorem dX11_holdsHere_235 : decode cX11_holdsHere 235 = .ok (.aload_n 0, 1) := by decide +kernel
theorem dX11_holdsHere_236 : decode cX11_holdsHere 236 = .ok (.dup, 1) := by decide +kernel
theorem dX11_holdsHere_237 : decode cX11_holdsHere 237 = .ok (.getfield 162, 3) := by decide +kernel
theorem dX11_holdsHere_240 : decode cX11_holdsHere 240 = .ok (.iconst 1, 1) := by decide +kernel
theorem dX11_holdsHere_241 : decode cX11_holdsHere 241 = .ok (.iadd, 1) := by decide +kernel
theorem dX11_holdsHere_242 : decode cX11_holdsHere 242 = .ok (.putfield 162, 3) := by decide +kernel
theorem dX11_holdsHere_245 : decode cX11_holdsHere 245 = .ok (.goto 84, 3) := by decide +kernel
theorem dX11_holdsHere_248 : decode cX11_holdsHere 248 = .ok (.aload_n 0, 1) := by decide +kernel
theorem dX11_holdsHere_249 : decode cX11_holdsHere 249 = .ok (.invokevirtual 188, 3) := by decide +kernel
theorem dX11_holdsHere_252 : decode cX11_holdsHere 252 = .ok (.istore_n 2, 1) := by decide +kernel
theorem dX11_holdsHere_253 : decode cX11_holdsHere 253 = .ok (.aload_n 0, 1) := by decide +kernel
theorem dX11_holdsHere_254 : decode cX11_holdsHere 254 = .ok (.invokevirtual 174, 3) := by decide +kernel
theorem dX11_holdsHere_257 : decode cX11_holdsHere 257 = .ok (.istore_n 3, 1) := by decide +kernel
theorem dX11_holdsHere_258 : decode cX11_holdsHere 258 = .ok (.aload_n 0, 1) := by decide +kernel
theorem dX11_holdsHere_259 : decode cX11_holdsHere 259 = .ok (.dup, 1) := by decide +kernel
theorem dX11_holdsHere_260 : decode cX11_holdsHere 260 = .ok (.getfield 162, 3) := by decide +kernel
theorem dX11_holdsHere_263 : decode cX11_holdsHere 263 = .ok (.iconst 1, 1) := by decide +kernel
theorem dX11_holdsHere_264 : decode cX11_holdsHere 264 = .ok (.iadd, 1) := by decide +kernel
theorem dX11_holdsHere_265 : decode cX11_holdsHere 265 = .ok (.putfield 162, 3) := by decide +kernel
theorem dX11_holdsHere_268 : decode cX11_holdsHere 268 = .ok (.aload_n 0, 1) := by decide +kernel
theorem dX11_holdsHere_269 : decode cX11_holdsHere 269 = .ok (.invokevirtual 188, 3) := by decide +kernel
theorem dX11_holdsHere_272 : decode cX11_holdsHere 272 = .ok (.istore 4, 2) := by decide +kernel
theorem dX11_holdsHere_274 : decode cX11_holdsHere 274 = .ok (.aload_n 0, 1) := by decide +kernel
theorem dX11_holdsHere_275 : decode cX11_holdsHere 275 = .ok (.iload_n 3, 1) := by decide +kernel
theorem dX11_holdsHere_276 : decode cX11_holdsHere 276 = .ok (.bipush 60, 2) := by decide +kernel
theorem dX11_holdsHere_278 : decode cX11_holdsHere 278 = .ok (.if_icmp .ne 17, 3) := by decide +kernel
theorem dX11_holdsHere_281 : decode cX11_holdsHere 281 = .ok (.iload_n 2, 1) := by decide +kernel
theorem dX11_holdsHere_282 : decode cX11_holdsHere 282 = .ok (.iload 4, 2) := by decide +kernel
theorem dX11_holdsHere_284 : decode cX11_holdsHere 284 = .ok (.if_icmp .ge 7, 3) := by decide +kernel
theorem dX11_holdsHere_287 : decode cX11_holdsHere 287 = .ok (.iconst 1, 1) := by decide +kernel
theorem dX11_holdsHere_288 : decode cX11_holdsHere 288 = .ok (.goto 38, 3) := by decide +kernel
theorem dX11_holdsHere_291 : decode cX11_holdsHere 291 = .ok (.iconst 0, 1) := by decide +kernel
theorem dX11_holdsHere_292 : decode cX11_holdsHere 292 = .ok (.goto 34, 3) := by decide +kernel
theorem dX11_holdsHere_295 : decode cX11_holdsHere 295 = .ok (.iload_n 3, 1) := by decide +kernel
theorem dX11_holdsHere_296 : decode cX11_holdsHere 296 = .ok (.bipush 61, 2) := by decide +kernel
theorem dX11_holdsHere_298 : decode cX11_holdsHere 298 = .ok (.if_icmp .ne 17, 3) := by decide +kernel
theorem dX11_holdsHere_301 : decode cX11_holdsHere 301 = .ok (.iload_n 2, 1) := by decide +kernel
theorem dX11_holdsHere_302 : decode cX11_holdsHere 302 = .ok (.iload 4, 2) := by decide +kernel
theorem dX11_holdsHere_304 : decode cX11_holdsHere 304 = .ok (.if_icmp .ne 7, 3) := by decide +kernel
theorem dX11_holdsHere_307 : decode cX11_holdsHere 307 = .ok (.iconst 1, 1) := by decide +kernel
theorem dX11_holdsHere_308 : decode cX11_holdsHere 308 = .ok (.goto 18, 3) := by decide +kernel
theorem dX11_holdsHere_311 : decode cX11_holdsHere 311 = .ok (.iconst 0, 1) := by decide +kernel
theorem dX11_holdsHere_312 : decode cX11_holdsHere 312 = .ok (.goto 14, 3) := by decide +kernel
theorem dX11_holdsHere_315 : decode cX11_holdsHere 315 = .ok (.iload_n 2, 1) := by decide +kernel
theorem dX11_holdsHere_316 : decode cX11_holdsHere 316 = .ok (.iload 4, 2) := by decide +kernel
theorem dX11_holdsHere_318 : decode cX11_holdsHere 318 = .ok (.if_icmp .le 7, 3) := by decide +kernel
theorem dX11_holdsHere_321 : decode cX11_holdsHere 321 = .ok (.iconst 1, 1) := by decide +kernel
theorem dX11_holdsHere_322 : decode cX11_holdsHere 322 = .ok (.goto 4, 3) := by decide +kernel
theorem dX11_holdsHere_325 : decode cX11_holdsHere 325 = .ok (.iconst 0, 1) := by decide +kernel
theorem dX11_holdsHere_326 : decode cX11_holdsHere 326 = .ok (.invokevirtual 184, 3) := by decide +kernel
theorem dX11_holdsHere_329 : decode cX11_holdsHere 329 = .ok (.goto (-320), 3) := by decide +kernel
theorem dX11_holdsHere_332 : decode cX11_holdsHere 332 = .ok (.aload_n 0, 1) := by decide +kernel
theorem dX11_holdsHere_333 : decode cX11_holdsHere 333 = .ok (.getfield 49, 3) := by decide +kernel
theorem dX11_holdsHere_336 : decode cX11_holdsHere 336 = .ok (.iconst 0, 1) := by decide +kernel
theorem dX11_holdsHere_337 : decode cX11_holdsHere 337 = .ok (.baload, 1) := by decide +kernel
theorem dX11_holdsHere_338 : decode cX11_holdsHere 338 = .ok (.ifCond .ne 12, 3) := by decide +kernel
theorem dX11_holdsHere_341 : decode cX11_holdsHere 341 = .ok (.aload_n 0, 1) := by decide +kernel
theorem dX11_holdsHere_342 : decode cX11_holdsHere 342 = .ok (.getfield 52, 3) := by decide +kernel
theorem dX11_holdsHere_345 : decode cX11_holdsHere 345 = .ok (.iconst 0, 1) := by decide +kernel
theorem dX11_holdsHere_346 : decode cX11_holdsHere 346 = .ok (.baload, 1) := by decide +kernel
theorem dX11_holdsHere_347 : decode cX11_holdsHere 347 = .ok (.ifCond .eq 7, 3) := by decide +kernel
theorem dX11_holdsHere_350 : decode cX11_holdsHere 350 = .ok (.iconst 1, 1) := by decide +kernel
theorem dX11_holdsHere_351 : decode cX11_holdsHere 351 = .ok (.goto 4, 3) := by decide +kernel
theorem dX11_holdsHere_354 : decode cX11_holdsHere 354 = .ok (.iconst 0, 1) := by decide +kernel
theorem dX11_holdsHere_355 : decode cX11_holdsHere 355 = .ok (.ireturn, 1) := by decide +kernel
theorem dX11_holdsNow_0 : decode cX11_holdsNow 0 = .ok (.aload_n 0, 1) := by decide +kernel
theorem dX11_holdsNow_1 : decode cX11_holdsNow 1 = .ok (.iconst 0, 1) := by decide +kernel
theorem dX11_holdsNow_2 : decode cX11_holdsNow 2 = .ok (.putfield 168, 3) := by decide +kernel
theorem dX11_holdsNow_5 : decode cX11_holdsNow 5 = .ok (.aload_n 0, 1) := by decide +kernel
theorem dX11_holdsNow_6 : decode cX11_holdsNow 6 = .ok (.bipush 60, 2) := by decide +kernel
theorem dX11_holdsNow_8 : decode cX11_holdsNow 8 = .ok (.iload_n 1, 1) := by decide +kernel
theorem dX11_holdsNow_9 : decode cX11_holdsNow 9 = .ok (.imul, 1) := by decide +kernel
theorem dX11_holdsNow_10 : decode cX11_holdsNow 10 = .ok (.putfield 171, 3) := by decide +kernel
theorem dX11_holdsNow_13 : decode cX11_holdsNow 13 = .ok (.aload_n 0, 1) := by decide +kernel
theorem dX11_holdsNow_14 : decode cX11_holdsNow 14 = .ok (.iconst 0, 1) := by decide +kernel
theorem dX11_holdsNow_15 : decode cX11_holdsNow 15 = .ok (.putfield 162, 3) := by decide +kernel
theorem dX11_holdsNow_18 : decode cX11_holdsNow 18 = .ok (.aload_n 0, 1) := by decide +kernel
theorem dX11_holdsNow_19 : decode cX11_holdsNow 19 = .ok (.aload_n 0, 1) := by decide +kernel
theorem dX11_holdsNow_20 : decode cX11_holdsNow 20 = .ok (.getfield 26, 3) := by decide +kernel
theorem dX11_holdsNow_23 : decode cX11_holdsNow 23 = .ok (.iload_n 1, 1) := by decide +kernel
theorem dX11_holdsNow_24 : decode cX11_holdsNow 24 = .ok (.iaload, 1) := by decide +kernel
theorem dX11_holdsNow_25 : decode cX11_holdsNow 25 = .ok (.putfield 165, 3) := by decide +kernel
theorem dX11_holdsNow_28 : decode cX11_holdsNow 28 = .ok (.aload_n 0, 1) := by decide +kernel
theorem dX11_holdsNow_29 : decode cX11_holdsNow 29 = .ok (.invokevirtual 191, 3) := by decide +kernel
theorem dX11_holdsNow_32 : decode cX11_holdsNow 32 = .ok (.ireturn, 1) := by decide +kernel
theorem dX11_stepNow_0 : decode cX11_stepNow 0 = .ok (.aload_n 0, 1) := by decide +kernel
theorem dX11_stepNow_1 : decode cX11_stepNow 1 = .ok (.iconst 1, 1) := by decide +kernel
theorem dX11_stepNow_2 : decode cX11_stepNow 2 = .ok (.putfield 168, 3) := by decide +kernel
theorem dX11_stepNow_5 : decode cX11_stepNow 5 = .ok (.aload_n 0, 1) := by decide +kernel
theorem dX11_stepNow_6 : decode cX11_stepNow 6 = .ok (.bipush 60, 2) := by decide +kernel
theorem dX11_stepNow_8 : decode cX11_stepNow 8 = .ok (.iload_n 1, 1) := by decide +kernel
theorem dX11_stepNow_9 : decode cX11_stepNow 9 = .ok (.imul, 1) := by decide +kernel
theorem dX11_stepNow_10 : decode cX11_stepNow 10 = .ok (.putfield 171, 3) := by decide +kernel
theorem dX11_stepNow_13 : decode cX11_stepNow 13 = .ok (.aload_n 0, 1) := by decide +kernel
theorem dX11_stepNow_14 : decode cX11_stepNow 14 = .ok (.iconst 0, 1) := by decide +kernel
theorem dX11_stepNow_15 : decode cX11_stepNow 15 = .ok (.putfield 162, 3) := by decide +kernel
theorem dX11_stepNow_18 : decode cX11_stepNow 18 = .ok (.aload_n 0, 1) := by decide +kernel
theorem dX11_stepNow_19 : decode cX11_stepNow 19 = .ok (.aload_n 0, 1) := by decide +kernel
theorem dX11_stepNow_20 : decode cX11_stepNow 20 = .ok (.getfield 36, 3) := by decide +kernel
theorem dX11_stepNow_23 : decode cX11_stepNow 23 = .ok (.iload_n 1, 1) := by decide +kernel
theorem dX11_stepNow_24 : decode cX11_stepNow 24 = .ok (.iaload, 1) := by decide +kernel
theorem dX11_stepNow_25 : decode cX11_stepNow 25 = .ok (.putfield 165, 3) := by decide +kernel
theorem dX11_stepNow_28 : decode cX11_stepNow 28 = .ok (.aload_n 0, 1) := by decide +kernel
theorem dX11_stepNow_29 : decode cX11_stepNow 29 = .ok (.invokevirtual 191, 3) := by decide +kernel
theorem dX11_stepNow_32 : decode cX11_stepNow 32 = .ok (.ifCond .eq 61, 3) := by decide +kernel
theorem dX11_stepNow_35 : decode cX11_stepNow 35 = .ok (.aload_n 0, 1) := by decide +kernel
theorem dX11_stepNow_36 : decode cX11_stepNow 36 = .ok (.getfield 33, 3) := by decide +kernel
theorem dX11_stepNow_39 : decode cX11_stepNow 39 = .ok (.aload_n 0, 1) := by decide +kernel
theorem dX11_stepNow_40 : decode cX11_stepNow 40 = .ok (.getfield 171, 3) := by decide +kernel
theorem dX11_stepNow_43 : decode cX11_stepNow 43 = .ok (.aload_n 0, 1) := by decide +kernel
theorem dX11_stepNow_44 : decode cX11_stepNow 44 = .ok (.getfield 162, 3) := by decide +kernel
theorem dX11_stepNow_47 : decode cX11_stepNow 47 = .ok (.iadd, 1) := by decide +kernel
theorem dX11_stepNow_48 : decode cX11_stepNow 48 = .ok (.iconst 1, 1) := by decide +kernel
theorem dX11_stepNow_49 : decode cX11_stepNow 49 = .ok (.iadd, 1) := by decide +kernel
theorem dX11_stepNow_50 : decode cX11_stepNow 50 = .ok (.baload, 1) := by decide +kernel
theorem dX11_stepNow_51 : decode cX11_stepNow 51 = .ok (.bipush 97, 2) := by decide +kernel
theorem dX11_stepNow_53 : decode cX11_stepNow 53 = .ok (.isub, 1) := by decide +kernel
theorem dX11_stepNow_54 : decode cX11_stepNow 54 = .ok (.istore_n 2, 1) := by decide +kernel
theorem dX11_stepNow_55 : decode cX11_stepNow 55 = .ok (.aload_n 0, 1) := by decide +kernel
theorem dX11_stepNow_56 : decode cX11_stepNow 56 = .ok (.dup, 1) := by decide +kernel
theorem dX11_stepNow_57 : decode cX11_stepNow 57 = .ok (.getfield 162, 3) := by decide +kernel
theorem dX11_stepNow_60 : decode cX11_stepNow 60 = .ok (.iconst 3, 1) := by decide +kernel
theorem dX11_stepNow_61 : decode cX11_stepNow 61 = .ok (.iadd, 1) := by decide +kernel
theorem dX11_stepNow_62 : decode cX11_stepNow 62 = .ok (.putfield 162, 3) := by decide +kernel
theorem dX11_stepNow_65 : decode cX11_stepNow 65 = .ok (.aload_n 0, 1) := by decide +kernel
theorem dX11_stepNow_66 : decode cX11_stepNow 66 = .ok (.invokevirtual 188, 3) := by decide +kernel
theorem dX11_stepNow_69 : decode cX11_stepNow 69 = .ok (.istore_n 3, 1) := by decide +kernel
theorem dX11_stepNow_70 : decode cX11_stepNow 70 = .ok (.aload_n 0, 1) := by decide +kernel
theorem dX11_stepNow_71 : decode cX11_stepNow 71 = .ok (.getfield 46, 3) := by decide +kernel
theorem dX11_stepNow_74 : decode cX11_stepNow 74 = .ok (.iload_n 2, 1) := by decide +kernel
theorem dX11_stepNow_75 : decode cX11_stepNow 75 = .ok (.iload_n 3, 1) := by decide +kernel
theorem dX11_stepNow_76 : decode cX11_stepNow 76 = .ok (.invokestatic 97, 3) := by decide +kernel
theorem dX11_stepNow_79 : decode cX11_stepNow 79 = .ok (.ifCond .eq 7, 3) := by decide +kernel
theorem dX11_stepNow_82 : decode cX11_stepNow 82 = .ok (.iload_n 3, 1) := by decide +kernel
theorem dX11_stepNow_83 : decode cX11_stepNow 83 = .ok (.goto 9, 3) := by decide +kernel
theorem dX11_stepNow_86 : decode cX11_stepNow 86 = .ok (.aload_n 0, 1) := by decide +kernel
theorem dX11_stepNow_87 : decode cX11_stepNow 87 = .ok (.getfield 46, 3) := by decide +kernel
theorem dX11_stepNow_90 : decode cX11_stepNow 90 = .ok (.iload_n 2, 1) := by decide +kernel
theorem dX11_stepNow_91 : decode cX11_stepNow 91 = .ok (.iaload, 1) := by decide +kernel
theorem dX11_stepNow_92 : decode cX11_stepNow 92 = .ok (.iastore, 1) := by decide +kernel
theorem dX11_stepNow_93 : decode cX11_stepNow 93 = .ok (.return_, 1) := by decide +kernel
theorem dX11_healed_0 : decode cX11_healed 0 = .ok (.aload_n 0, 1) := by decide +kernel
theorem dX11_healed_1 : decode cX11_healed 1 = .ok (.lload_n 1, 1) := by decide +kernel
theorem dX11_healed_2 : decode cX11_healed 2 = .ok (.invokevirtual 195, 3) := by decide +kernel
theorem dX11_healed_5 : decode cX11_healed 5 = .ok (.iconst 0, 1) := by decide +kernel
theorem dX11_healed_6 : decode cX11_healed 6 = .ok (.istore_n 3, 1) := by decide +kernel
theorem dX11_healed_7 : decode cX11_healed 7 = .ok (.iload_n 3, 1) := by decide +kernel
theorem dX11_healed_8 : decode cX11_healed 8 = .ok (.aload_n 0, 1) := by decide +kernel
theorem dX11_healed_9 : decode cX11_healed 9 = .ok (.getfield 159, 3) := by decide +kernel
theorem dX11_healed_12 : decode cX11_healed 12 = .ok (.if_icmp .ge 14, 3) := by decide +kernel
theorem dX11_healed_15 : decode cX11_healed 15 = .ok (.aload_n 0, 1) := by decide +kernel
theorem dX11_healed_16 : decode cX11_healed 16 = .ok (.iload_n 3, 1) := by decide +kernel
theorem dX11_healed_17 : decode cX11_healed 17 = .ok (.invokevirtual 199, 3) := by decide +kernel
theorem dX11_healed_20 : decode cX11_healed 20 = .ok (.iinc 3 1, 3) := by decide +kernel
theorem dX11_healed_23 : decode cX11_healed 23 = .ok (.goto (-16), 3) := by decide +kernel
theorem dX11_healed_26 : decode cX11_healed 26 = .ok (.aload_n 0, 1) := by decide +kernel
theorem dX11_healed_27 : decode cX11_healed 27 = .ok (.invokevirtual 116, 3) := by decide +kernel
theorem dX11_healed_30 : decode cX11_healed 30 = .ok (.lreturn, 1) := by decide +kernel
theorem dX11_cutAt_0 : decode cX11_cutAt 0 = .ok (.aload_n 0, 1) := by decide +kernel
theorem dX11_cutAt_1 : decode cX11_cutAt 1 = .ok (.lload_n 1, 1) := by decide +kernel
theorem dX11_cutAt_2 : decode cX11_cutAt 2 = .ok (.invokevirtual 195, 3) := by decide +kernel
theorem dX11_cutAt_5 : decode cX11_cutAt 5 = .ok (.iconst 0, 1) := by decide +kernel
theorem dX11_cutAt_6 : decode cX11_cutAt 6 = .ok (.istore 4, 2) := by decide +kernel
theorem dX11_cutAt_8 : decode cX11_cutAt 8 = .ok (.iload 4, 2) := by decide +kernel
theorem dX11_cutAt_10 : decode cX11_cutAt 10 = .ok (.iload_n 3, 1) := by decide +kernel
theorem dX11_cutAt_11 : decode cX11_cutAt 11 = .ok (.if_icmp .ge 15, 3) := by decide +kernel
theorem dX11_cutAt_14 : decode cX11_cutAt 14 = .ok (.aload_n 0, 1) := by decide +kernel
theorem dX11_cutAt_15 : decode cX11_cutAt 15 = .ok (.iload 4, 2) := by decide +kernel
theorem dX11_cutAt_17 : decode cX11_cutAt 17 = .ok (.invokevirtual 199, 3) := by decide +kernel
theorem dX11_cutAt_20 : decode cX11_cutAt 20 = .ok (.iinc 4 1, 3) := by decide +kernel
theorem dX11_cutAt_23 : decode cX11_cutAt 23 = .ok (.goto (-15), 3) := by decide +kernel
theorem dX11_cutAt_26 : decode cX11_cutAt 26 = .ok (.aload_n 0, 1) := by decide +kernel
theorem dX11_cutAt_27 : decode cX11_cutAt 27 = .ok (.aload_n 0, 1) := by decide +kernel
theorem dX11_cutAt_28 : decode cX11_cutAt 28 = .ok (.invokevirtual 116, 3) := by decide +kernel
theorem dX11_cutAt_31 : decode cX11_cutAt 31 = .ok (.invokevirtual 202, 3) := by decide +kernel
theorem dX11_cutAt_34 : decode cX11_cutAt 34 = .ok (.lreturn, 1) := by decide +kernel
theorem dX11_isSteady_0 : decode cX11_isSteady 0 = .ok (.aload_n 0, 1) := by decide +kernel
theorem dX11_isSteady_1 : decode cX11_isSteady 1 = .ok (.lload_n 1, 1) := by decide +kernel
theorem dX11_isSteady_2 : decode cX11_isSteady 2 = .ok (.invokevirtual 202, 3) := by decide +kernel
theorem dX11_isSteady_5 : decode cX11_isSteady 5 = .ok (.lstore_n 3, 1) := by decide +kernel
theorem dX11_isSteady_6 : decode cX11_isSteady 6 = .ok (.iconst 1, 1) := by decide +kernel
theorem dX11_isSteady_7 : decode cX11_isSteady 7 = .ok (.istore 5, 2) := by decide +kernel
theorem dX11_isSteady_9 : decode cX11_isSteady 9 = .ok (.iconst 0, 1) := by decide +kernel
theorem dX11_isSteady_10 : decode cX11_isSteady 10 = .ok (.istore 6, 2) := by decide +kernel
theorem dX11_isSteady_12 : decode cX11_isSteady 12 = .ok (.iload 6, 2) := by decide +kernel
theorem dX11_isSteady_14 : decode cX11_isSteady 14 = .ok (.aload_n 0, 1) := by decide +kernel
theorem dX11_isSteady_15 : decode cX11_isSteady 15 = .ok (.getfield 159, 3) := by decide +kernel
theorem dX11_isSteady_18 : decode cX11_isSteady 18 = .ok (.if_icmp .gt 33, 3) := by decide +kernel
theorem dX11_isSteady_21 : decode cX11_isSteady 21 = .ok (.iload 5, 2) := by decide +kernel
theorem dX11_isSteady_23 : decode cX11_isSteady 23 = .ok (.ifCond .eq 28, 3) := by decide +kernel
theorem dX11_isSteady_26 : decode cX11_isSteady 26 = .ok (.aload_n 0, 1) := by decide +kernel
theorem dX11_isSteady_27 : decode cX11_isSteady 27 = .ok (.lload_n 1, 1) := by decide +kernel
theorem dX11_isSteady_28 : decode cX11_isSteady 28 = .ok (.iload 6, 2) := by decide +kernel
theorem dX11_isSteady_30 : decode cX11_isSteady 30 = .ok (.invokevirtual 206, 3) := by decide +kernel
theorem dX11_isSteady_33 : decode cX11_isSteady 33 = .ok (.lload_n 3, 1) := by decide +kernel
theorem dX11_isSteady_34 : decode cX11_isSteady 34 = .ok (.lcmp, 1) := by decide +kernel
theorem dX11_isSteady_35 : decode cX11_isSteady 35 = .ok (.ifCond .ne 7, 3) := by decide +kernel
theorem dX11_isSteady_38 : decode cX11_isSteady 38 = .ok (.iconst 1, 1) := by decide +kernel
theorem dX11_isSteady_39 : decode cX11_isSteady 39 = .ok (.goto 4, 3) := by decide +kernel
theorem dX11_isSteady_42 : decode cX11_isSteady 42 = .ok (.iconst 0, 1) := by decide +kernel
theorem dX11_isSteady_43 : decode cX11_isSteady 43 = .ok (.istore 5, 2) := by decide +kernel
theorem dX11_isSteady_45 : decode cX11_isSteady 45 = .ok (.iinc 6 1, 3) := by decide +kernel
theorem dX11_isSteady_48 : decode cX11_isSteady 48 = .ok (.goto (-36), 3) := by decide +kernel
theorem dX11_isSteady_51 : decode cX11_isSteady 51 = .ok (.iload 5, 2) := by decide +kernel
theorem dX11_isSteady_53 : decode cX11_isSteady 53 = .ok (.ireturn, 1) := by decide +kernel
theorem dX11_isPlate_0 : decode cX11_isPlate 0 = .ok (.lload_n 0, 1) := by decide +kernel
theorem dX11_isPlate_1 : decode cX11_isPlate 1 = .ok (.lconst 0, 1) := by decide +kernel
theorem dX11_isPlate_2 : decode cX11_isPlate 2 = .ok (.lcmp, 1) := by decide +kernel
theorem dX11_isPlate_3 : decode cX11_isPlate 3 = .ok (.ifCond .lt 15, 3) := by decide +kernel
theorem dX11_isPlate_6 : decode cX11_isPlate 6 = .ok (.lload_n 0, 1) := by decide +kernel
theorem dX11_isPlate_7 : decode cX11_isPlate 7 = .ok (.ldc2_w 210, 3) := by decide +kernel
theorem dX11_isPlate_10 : decode cX11_isPlate 10 = .ok (.lcmp, 1) := by decide +kernel
theorem dX11_isPlate_11 : decode cX11_isPlate 11 = .ok (.ifCond .gt 7, 3) := by decide +kernel
theorem dX11_isPlate_14 : decode cX11_isPlate 14 = .ok (.iconst 1, 1) := by decide +kernel
theorem dX11_isPlate_15 : decode cX11_isPlate 15 = .ok (.goto 4, 3) := by decide +kernel
theorem dX11_isPlate_18 : decode cX11_isPlate 18 = .ok (.iconst 0, 1) := by decide +kernel
theorem dX11_isPlate_19 : decode cX11_isPlate 19 = .ok (.ireturn, 1) := by decide +kernel
theorem dX11_holds_0 : decode cX11_holds 0 = .ok (.iload_n 1, 1) := by decide +kernel
theorem dX11_holds_1 : decode cX11_holds 1 = .ok (.iconst 0, 1) := by decide +kernel
theorem dX11_holds_2 : decode cX11_holds 2 = .ok (.aload_n 0, 1) := by decide +kernel
theorem dX11_holds_3 : decode cX11_holds 3 = .ok (.getfield 111, 3) := by decide +kernel
theorem dX11_holds_6 : decode cX11_holds 6 = .ok (.iconst 1, 1) := by decide +kernel
theorem dX11_holds_7 : decode cX11_holds 7 = .ok (.isub, 1) := by decide +kernel
theorem dX11_holds_8 : decode cX11_holds 8 = .ok (.invokestatic 89, 3) := by decide +kernel
theorem dX11_holds_11 : decode cX11_holds 11 = .ok (.ifCond .ne 6, 3) := by decide +kernel
theorem dX11_holds_14 : decode cX11_holds 14 = .ok (.bipush (-101), 2) := by decide +kernel
theorem dX11_holds_16 : decode cX11_holds 16 = .ok (.ireturn, 1) := by decide +kernel
theorem dX11_holds_17 : decode cX11_holds 17 = .ok (.lload_n 2, 1) := by decide +kernel
theorem dX11_holds_18 : decode cX11_holds 18 = .ok (.invokestatic 212, 3) := by decide +kernel
theorem dX11_holds_21 : decode cX11_holds 21 = .ok (.ifCond .ne 6, 3) := by decide +kernel
theorem dX11_holds_24 : decode cX11_holds 24 = .ok (.bipush (-102), 2) := by decide +kernel
theorem dX11_holds_26 : decode cX11_holds 26 = .ok (.ireturn, 1) := by decide +kernel
theorem dX11_holds_27 : decode cX11_holds 27 = .ok (.aload_n 0, 1) := by decide +kernel
theorem dX11_holds_28 : decode cX11_holds 28 = .ok (.lload_n 2, 1) := by decide +kernel
theorem dX11_holds_29 : decode cX11_holds 29 = .ok (.invokevirtual 195, 3) := by decide +kernel
theorem dX11_holds_32 : decode cX11_holds 32 = .ok (.aload_n 0, 1) := by decide +kernel
theorem dX11_holds_33 : decode cX11_holds 33 = .ok (.iload_n 1, 1) := by decide +kernel
theorem dX11_holds_34 : decode cX11_holds 34 = .ok (.invokevirtual 216, 3) := by decide +kernel
theorem dX11_holds_37 : decode cX11_holds 37 = .ok (.ifCond .eq 7, 3) := by decide +kernel
theorem dX11_holds_40 : decode cX11_holds 40 = .ok (.iconst 1, 1) := by decide +kernel
theorem dX11_holds_41 : decode cX11_holds 41 = .ok (.goto 4, 3) := by decide +kernel
theorem dX11_holds_44 : decode cX11_holds 44 = .ok (.iconst 0, 1) := by decide +kernel
theorem dX11_holds_45 : decode cX11_holds 45 = .ok (.ireturn, 1) := by decide +kernel
theorem dX11_heal_0 : decode cX11_heal 0 = .ok (.lload_n 1, 1) := by decide +kernel
theorem dX11_heal_1 : decode cX11_heal 1 = .ok (.invokestatic 212, 3) := by decide +kernel
theorem dX11_heal_4 : decode cX11_heal 4 = .ok (.ifCond .eq 11, 3) := by decide +kernel
theorem dX11_heal_7 : decode cX11_heal 7 = .ok (.aload_n 0, 1) := by decide +kernel
theorem dX11_heal_8 : decode cX11_heal 8 = .ok (.lload_n 1, 1) := by decide +kernel
theorem dX11_heal_9 : decode cX11_heal 9 = .ok (.invokevirtual 202, 3) := by decide +kernel
theorem dX11_heal_12 : decode cX11_heal 12 = .ok (.goto 6, 3) := by decide +kernel
theorem dX11_heal_15 : decode cX11_heal 15 = .ok (.ldc2_w 219, 3) := by decide +kernel
theorem dX11_heal_18 : decode cX11_heal 18 = .ok (.lreturn, 1) := by decide +kernel
theorem dX11_cut_0 : decode cX11_cut 0 = .ok (.lload_n 1, 1) := by decide +kernel
theorem dX11_cut_1 : decode cX11_cut 1 = .ok (.invokestatic 212, 3) := by decide +kernel
theorem dX11_cut_4 : decode cX11_cut 4 = .ok (.ifCond .ne 7, 3) := by decide +kernel
theorem dX11_cut_7 : decode cX11_cut 7 = .ok (.ldc2_w 219, 3) := by decide +kernel
theorem dX11_cut_10 : decode cX11_cut 10 = .ok (.lreturn, 1) := by decide +kernel
theorem dX11_cut_11 : decode cX11_cut 11 = .ok (.iload_n 3, 1) := by decide +kernel
theorem dX11_cut_12 : decode cX11_cut 12 = .ok (.iconst 0, 1) := by decide +kernel
end
section
theorem dX11_cut_13 : decode cX11_cut 13 = .ok (.aload_n 0, 1) := by decide +kernel
theorem dX11_cut_14 : decode cX11_cut 14 = .ok (.getfield 159, 3) := by decide +kernel
theorem dX11_cut_17 : decode cX11_cut 17 = .ok (.invokestatic 89, 3) := by decide +kernel
theorem dX11_cut_20 : decode cX11_cut 20 = .ok (.ifCond .eq 12, 3) := by decide +kernel
theorem dX11_cut_23 : decode cX11_cut 23 = .ok (.aload_n 0, 1) := by decide +kernel
theorem dX11_cut_24 : decode cX11_cut 24 = .ok (.lload_n 1, 1) := by decide +kernel
theorem dX11_cut_25 : decode cX11_cut 25 = .ok (.iload_n 3, 1) := by decide +kernel
theorem dX11_cut_26 : decode cX11_cut 26 = .ok (.invokevirtual 206, 3) := by decide +kernel
theorem dX11_cut_29 : decode cX11_cut 29 = .ok (.goto 6, 3) := by decide +kernel
theorem dX11_cut_32 : decode cX11_cut 32 = .ok (.ldc2_w 221, 3) := by decide +kernel
theorem dX11_cut_35 : decode cX11_cut 35 = .ok (.lreturn, 1) := by decide +kernel
theorem dX11_steady_0 : decode cX11_steady 0 = .ok (.lload_n 1, 1) := by decide +kernel
theorem dX11_steady_1 : decode cX11_steady 1 = .ok (.invokestatic 212, 3) := by decide +kernel
theorem dX11_steady_4 : decode cX11_steady 4 = .ok (.ifCond .ne 8, 3) := by decide +kernel
theorem dX11_steady_7 : decode cX11_steady 7 = .ok (.bipush (-102), 2) := by decide +kernel
theorem dX11_steady_9 : decode cX11_steady 9 = .ok (.goto 16, 3) := by decide +kernel
theorem dX11_steady_12 : decode cX11_steady 12 = .ok (.aload_n 0, 1) := by decide +kernel
theorem dX11_steady_13 : decode cX11_steady 13 = .ok (.lload_n 1, 1) := by decide +kernel
theorem dX11_steady_14 : decode cX11_steady 14 = .ok (.invokevirtual 223, 3) := by decide +kernel
theorem dX11_steady_17 : decode cX11_steady 17 = .ok (.ifCond .eq 7, 3) := by decide +kernel
theorem dX11_steady_20 : decode cX11_steady 20 = .ok (.iconst 1, 1) := by decide +kernel
theorem dX11_steady_21 : decode cX11_steady 21 = .ok (.goto 4, 3) := by decide +kernel
theorem dX11_steady_24 : decode cX11_steady 24 = .ok (.iconst 0, 1) := by decide +kernel
theorem dX11_steady_25 : decode cX11_steady 25 = .ok (.ireturn, 1) := by decide +kernel
theorem dX11_rulesNow_0 : decode cX11_rulesNow 0 = .ok (.iconst 0, 1) := by decide +kernel
theorem dX11_rulesNow_1 : decode cX11_rulesNow 1 = .ok (.istore_n 1, 1) := by decide +kernel
theorem dX11_rulesNow_2 : decode cX11_rulesNow 2 = .ok (.iconst 0, 1) := by decide +kernel
theorem dX11_rulesNow_3 : decode cX11_rulesNow 3 = .ok (.istore_n 2, 1) := by decide +kernel
theorem dX11_rulesNow_4 : decode cX11_rulesNow 4 = .ok (.iload_n 2, 1) := by decide +kernel
theorem dX11_rulesNow_5 : decode cX11_rulesNow 5 = .ok (.aload_n 0, 1) := by decide +kernel
theorem dX11_rulesNow_6 : decode cX11_rulesNow 6 = .ok (.getfield 111, 3) := by decide +kernel
theorem dX11_rulesNow_9 : decode cX11_rulesNow 9 = .ok (.if_icmp .ge 27, 3) := by decide +kernel
theorem dX11_rulesNow_12 : decode cX11_rulesNow 12 = .ok (.iload_n 1, 1) := by decide +kernel
theorem dX11_rulesNow_13 : decode cX11_rulesNow 13 = .ok (.aload_n 0, 1) := by decide +kernel
theorem dX11_rulesNow_14 : decode cX11_rulesNow 14 = .ok (.iload_n 2, 1) := by decide +kernel
theorem dX11_rulesNow_15 : decode cX11_rulesNow 15 = .ok (.invokevirtual 216, 3) := by decide +kernel
theorem dX11_rulesNow_18 : decode cX11_rulesNow 18 = .ok (.ifCond .eq 9, 3) := by decide +kernel
theorem dX11_rulesNow_21 : decode cX11_rulesNow 21 = .ok (.iconst 1, 1) := by decide +kernel
theorem dX11_rulesNow_22 : decode cX11_rulesNow 22 = .ok (.iload_n 2, 1) := by decide +kernel
theorem dX11_rulesNow_23 : decode cX11_rulesNow 23 = .ok (.ishl, 1) := by decide +kernel
theorem dX11_rulesNow_24 : decode cX11_rulesNow 24 = .ok (.goto 4, 3) := by decide +kernel
theorem dX11_rulesNow_27 : decode cX11_rulesNow 27 = .ok (.iconst 0, 1) := by decide +kernel
theorem dX11_rulesNow_28 : decode cX11_rulesNow 28 = .ok (.ior, 1) := by decide +kernel
theorem dX11_rulesNow_29 : decode cX11_rulesNow 29 = .ok (.istore_n 1, 1) := by decide +kernel
theorem dX11_rulesNow_30 : decode cX11_rulesNow 30 = .ok (.iinc 2 1, 3) := by decide +kernel
theorem dX11_rulesNow_33 : decode cX11_rulesNow 33 = .ok (.goto (-29), 3) := by decide +kernel
theorem dX11_rulesNow_36 : decode cX11_rulesNow 36 = .ok (.iload_n 1, 1) := by decide +kernel
theorem dX11_rulesNow_37 : decode cX11_rulesNow 37 = .ok (.ireturn, 1) := by decide +kernel
theorem dX11_asActs_0 : decode cX11_asActs 0 = .ok (.iconst 0, 1) := by decide +kernel
theorem dX11_asActs_1 : decode cX11_asActs 1 = .ok (.istore_n 2, 1) := by decide +kernel
theorem dX11_asActs_2 : decode cX11_asActs 2 = .ok (.iconst 0, 1) := by decide +kernel
theorem dX11_asActs_3 : decode cX11_asActs 3 = .ok (.istore_n 3, 1) := by decide +kernel
theorem dX11_asActs_4 : decode cX11_asActs 4 = .ok (.iload_n 3, 1) := by decide +kernel
theorem dX11_asActs_5 : decode cX11_asActs 5 = .ok (.aload_n 0, 1) := by decide +kernel
theorem dX11_asActs_6 : decode cX11_asActs 6 = .ok (.getfield 226, 3) := by decide +kernel
theorem dX11_asActs_9 : decode cX11_asActs 9 = .ok (.if_icmp .ge 33, 3) := by decide +kernel
theorem dX11_asActs_12 : decode cX11_asActs 12 = .ok (.iload_n 2, 1) := by decide +kernel
theorem dX11_asActs_13 : decode cX11_asActs 13 = .ok (.iload_n 1, 1) := by decide +kernel
theorem dX11_asActs_14 : decode cX11_asActs 14 = .ok (.iload_n 3, 1) := by decide +kernel
theorem dX11_asActs_15 : decode cX11_asActs 15 = .ok (.ishr, 1) := by decide +kernel
theorem dX11_asActs_16 : decode cX11_asActs 16 = .ok (.iconst 1, 1) := by decide +kernel
theorem dX11_asActs_17 : decode cX11_asActs 17 = .ok (.iand, 1) := by decide +kernel
theorem dX11_asActs_18 : decode cX11_asActs 18 = .ok (.iconst 1, 1) := by decide +kernel
theorem dX11_asActs_19 : decode cX11_asActs 19 = .ok (.if_icmp .ne 14, 3) := by decide +kernel
theorem dX11_asActs_22 : decode cX11_asActs 22 = .ok (.iconst 1, 1) := by decide +kernel
theorem dX11_asActs_23 : decode cX11_asActs 23 = .ok (.aload_n 0, 1) := by decide +kernel
theorem dX11_asActs_24 : decode cX11_asActs 24 = .ok (.getfield 74, 3) := by decide +kernel
theorem dX11_asActs_27 : decode cX11_asActs 27 = .ok (.iload_n 3, 1) := by decide +kernel
theorem dX11_asActs_28 : decode cX11_asActs 28 = .ok (.iaload, 1) := by decide +kernel
theorem dX11_asActs_29 : decode cX11_asActs 29 = .ok (.ishl, 1) := by decide +kernel
theorem dX11_asActs_30 : decode cX11_asActs 30 = .ok (.goto 4, 3) := by decide +kernel
theorem dX11_asActs_33 : decode cX11_asActs 33 = .ok (.iconst 0, 1) := by decide +kernel
theorem dX11_asActs_34 : decode cX11_asActs 34 = .ok (.ior, 1) := by decide +kernel
theorem dX11_asActs_35 : decode cX11_asActs 35 = .ok (.istore_n 2, 1) := by decide +kernel
theorem dX11_asActs_36 : decode cX11_asActs 36 = .ok (.iinc 3 1, 3) := by decide +kernel
theorem dX11_asActs_39 : decode cX11_asActs 39 = .ok (.goto (-35), 3) := by decide +kernel
theorem dX11_asActs_42 : decode cX11_asActs 42 = .ok (.iload_n 2, 1) := by decide +kernel
theorem dX11_asActs_43 : decode cX11_asActs 43 = .ok (.ireturn, 1) := by decide +kernel
theorem dX11_asCode_0 : decode cX11_asCode 0 = .ok (.iconst 0, 1) := by decide +kernel
theorem dX11_asCode_1 : decode cX11_asCode 1 = .ok (.istore_n 2, 1) := by decide +kernel
theorem dX11_asCode_2 : decode cX11_asCode 2 = .ok (.iconst 0, 1) := by decide +kernel
theorem dX11_asCode_3 : decode cX11_asCode 3 = .ok (.istore_n 3, 1) := by decide +kernel
theorem dX11_asCode_4 : decode cX11_asCode 4 = .ok (.iload_n 3, 1) := by decide +kernel
theorem dX11_asCode_5 : decode cX11_asCode 5 = .ok (.aload_n 0, 1) := by decide +kernel
theorem dX11_asCode_6 : decode cX11_asCode 6 = .ok (.getfield 226, 3) := by decide +kernel
theorem dX11_asCode_9 : decode cX11_asCode 9 = .ok (.if_icmp .ge 33, 3) := by decide +kernel
theorem dX11_asCode_12 : decode cX11_asCode 12 = .ok (.iload_n 2, 1) := by decide +kernel
theorem dX11_asCode_13 : decode cX11_asCode 13 = .ok (.iload_n 1, 1) := by decide +kernel
theorem dX11_asCode_14 : decode cX11_asCode 14 = .ok (.aload_n 0, 1) := by decide +kernel
theorem dX11_asCode_15 : decode cX11_asCode 15 = .ok (.getfield 74, 3) := by decide +kernel
theorem dX11_asCode_18 : decode cX11_asCode 18 = .ok (.iload_n 3, 1) := by decide +kernel
theorem dX11_asCode_19 : decode cX11_asCode 19 = .ok (.iaload, 1) := by decide +kernel
theorem dX11_asCode_20 : decode cX11_asCode 20 = .ok (.ishr, 1) := by decide +kernel
theorem dX11_asCode_21 : decode cX11_asCode 21 = .ok (.iconst 1, 1) := by decide +kernel
theorem dX11_asCode_22 : decode cX11_asCode 22 = .ok (.iand, 1) := by decide +kernel
theorem dX11_asCode_23 : decode cX11_asCode 23 = .ok (.iconst 1, 1) := by decide +kernel
theorem dX11_asCode_24 : decode cX11_asCode 24 = .ok (.if_icmp .ne 9, 3) := by decide +kernel
theorem dX11_asCode_27 : decode cX11_asCode 27 = .ok (.iconst 1, 1) := by decide +kernel
theorem dX11_asCode_28 : decode cX11_asCode 28 = .ok (.iload_n 3, 1) := by decide +kernel
theorem dX11_asCode_29 : decode cX11_asCode 29 = .ok (.ishl, 1) := by decide +kernel
theorem dX11_asCode_30 : decode cX11_asCode 30 = .ok (.goto 4, 3) := by decide +kernel
theorem dX11_asCode_33 : decode cX11_asCode 33 = .ok (.iconst 0, 1) := by decide +kernel
theorem dX11_asCode_34 : decode cX11_asCode 34 = .ok (.ior, 1) := by decide +kernel
theorem dX11_asCode_35 : decode cX11_asCode 35 = .ok (.istore_n 2, 1) := by decide +kernel
theorem dX11_asCode_36 : decode cX11_asCode 36 = .ok (.iinc 3 1, 3) := by decide +kernel
theorem dX11_asCode_39 : decode cX11_asCode 39 = .ok (.goto (-35), 3) := by decide +kernel
theorem dX11_asCode_42 : decode cX11_asCode 42 = .ok (.iload_n 2, 1) := by decide +kernel
theorem dX11_asCode_43 : decode cX11_asCode 43 = .ok (.ireturn, 1) := by decide +kernel
theorem dX11_layAll_0 : decode cX11_layAll 0 = .ok (.aload_n 0, 1) := by decide +kernel
theorem dX11_layAll_1 : decode cX11_layAll 1 = .ok (.getfield 100, 3) := by decide +kernel
theorem dX11_layAll_4 : decode cX11_layAll 4 = .ok (.ifCond .ne 162, 3) := by decide +kernel
theorem dX11_layAll_7 : decode cX11_layAll 7 = .ok (.aload_n 0, 1) := by decide +kernel
theorem dX11_layAll_8 : decode cX11_layAll 8 = .ok (.iconst 0, 1) := by decide +kernel
theorem dX11_layAll_9 : decode cX11_layAll 9 = .ok (.putfield 226, 3) := by decide +kernel
theorem dX11_layAll_12 : decode cX11_layAll 12 = .ok (.iconst 0, 1) := by decide +kernel
theorem dX11_layAll_13 : decode cX11_layAll 13 = .ok (.istore_n 1, 1) := by decide +kernel
theorem dX11_layAll_14 : decode cX11_layAll 14 = .ok (.iload_n 1, 1) := by decide +kernel
theorem dX11_layAll_15 : decode cX11_layAll 15 = .ok (.aload_n 0, 1) := by decide +kernel
theorem dX11_layAll_16 : decode cX11_layAll 16 = .ok (.getfield 104, 3) := by decide +kernel
theorem dX11_layAll_19 : decode cX11_layAll 19 = .ok (.if_icmp .ge 37, 3) := by decide +kernel
theorem dX11_layAll_22 : decode cX11_layAll 22 = .ok (.aload_n 0, 1) := by decide +kernel
theorem dX11_layAll_23 : decode cX11_layAll 23 = .ok (.iload_n 1, 1) := by decide +kernel
theorem dX11_layAll_24 : decode cX11_layAll 24 = .ok (.invokevirtual 120, 3) := by decide +kernel
theorem dX11_layAll_27 : decode cX11_layAll 27 = .ok (.ifCond .eq 23, 3) := by decide +kernel
theorem dX11_layAll_30 : decode cX11_layAll 30 = .ok (.aload_n 0, 1) := by decide +kernel
theorem dX11_layAll_31 : decode cX11_layAll 31 = .ok (.getfield 74, 3) := by decide +kernel
theorem dX11_layAll_34 : decode cX11_layAll 34 = .ok (.aload_n 0, 1) := by decide +kernel
theorem dX11_layAll_35 : decode cX11_layAll 35 = .ok (.getfield 226, 3) := by decide +kernel
theorem dX11_layAll_38 : decode cX11_layAll 38 = .ok (.iload_n 1, 1) := by decide +kernel
theorem dX11_layAll_39 : decode cX11_layAll 39 = .ok (.iastore, 1) := by decide +kernel
theorem dX11_layAll_40 : decode cX11_layAll 40 = .ok (.aload_n 0, 1) := by decide +kernel
theorem dX11_layAll_41 : decode cX11_layAll 41 = .ok (.dup, 1) := by decide +kernel
theorem dX11_layAll_42 : decode cX11_layAll 42 = .ok (.getfield 226, 3) := by decide +kernel
theorem dX11_layAll_45 : decode cX11_layAll 45 = .ok (.iconst 1, 1) := by decide +kernel
theorem dX11_layAll_46 : decode cX11_layAll 46 = .ok (.iadd, 1) := by decide +kernel
theorem dX11_layAll_47 : decode cX11_layAll 47 = .ok (.putfield 226, 3) := by decide +kernel
theorem dX11_layAll_50 : decode cX11_layAll 50 = .ok (.iinc 1 1, 3) := by decide +kernel
theorem dX11_layAll_53 : decode cX11_layAll 53 = .ok (.goto (-39), 3) := by decide +kernel
theorem dX11_layAll_56 : decode cX11_layAll 56 = .ok (.iconst 0, 1) := by decide +kernel
theorem dX11_layAll_57 : decode cX11_layAll 57 = .ok (.istore_n 1, 1) := by decide +kernel
theorem dX11_layAll_58 : decode cX11_layAll 58 = .ok (.iload_n 1, 1) := by decide +kernel
theorem dX11_layAll_59 : decode cX11_layAll 59 = .ok (.iconst 1, 1) := by decide +kernel
theorem dX11_layAll_60 : decode cX11_layAll 60 = .ok (.aload_n 0, 1) := by decide +kernel
theorem dX11_layAll_61 : decode cX11_layAll 61 = .ok (.getfield 226, 3) := by decide +kernel
theorem dX11_layAll_64 : decode cX11_layAll 64 = .ok (.ishl, 1) := by decide +kernel
theorem dX11_layAll_65 : decode cX11_layAll 65 = .ok (.if_icmp .ge 96, 3) := by decide +kernel
theorem dX11_layAll_68 : decode cX11_layAll 68 = .ok (.aload_n 0, 1) := by decide +kernel
theorem dX11_layAll_69 : decode cX11_layAll 69 = .ok (.getfield 58, 3) := by decide +kernel
theorem dX11_layAll_72 : decode cX11_layAll 72 = .ok (.iload_n 1, 1) := by decide +kernel
theorem dX11_layAll_73 : decode cX11_layAll 73 = .ok (.aload_n 0, 1) := by decide +kernel
theorem dX11_layAll_74 : decode cX11_layAll 74 = .ok (.aload_n 0, 1) := by decide +kernel
theorem dX11_layAll_75 : decode cX11_layAll 75 = .ok (.iload_n 1, 1) := by decide +kernel
theorem dX11_layAll_76 : decode cX11_layAll 76 = .ok (.invokevirtual 229, 3) := by decide +kernel
theorem dX11_layAll_79 : decode cX11_layAll 79 = .ok (.invokevirtual 127, 3) := by decide +kernel
theorem dX11_layAll_82 : decode cX11_layAll 82 = .ok (.lastore, 1) := by decide +kernel
theorem dX11_layAll_83 : decode cX11_layAll 83 = .ok (.aload_n 0, 1) := by decide +kernel
theorem dX11_layAll_84 : decode cX11_layAll 84 = .ok (.aload_n 0, 1) := by decide +kernel
theorem dX11_layAll_85 : decode cX11_layAll 85 = .ok (.getfield 58, 3) := by decide +kernel
theorem dX11_layAll_88 : decode cX11_layAll 88 = .ok (.iload_n 1, 1) := by decide +kernel
theorem dX11_layAll_89 : decode cX11_layAll 89 = .ok (.laload, 1) := by decide +kernel
theorem dX11_layAll_90 : decode cX11_layAll 90 = .ok (.invokevirtual 195, 3) := by decide +kernel
theorem dX11_layAll_93 : decode cX11_layAll 93 = .ok (.aload_n 0, 1) := by decide +kernel
theorem dX11_layAll_94 : decode cX11_layAll 94 = .ok (.getfield 65, 3) := by decide +kernel
theorem dX11_layAll_97 : decode cX11_layAll 97 = .ok (.iload_n 1, 1) := by decide +kernel
theorem dX11_layAll_98 : decode cX11_layAll 98 = .ok (.aload_n 0, 1) := by decide +kernel
theorem dX11_layAll_99 : decode cX11_layAll 99 = .ok (.invokevirtual 232, 3) := by decide +kernel
theorem dX11_layAll_102 : decode cX11_layAll 102 = .ok (.iastore, 1) := by decide +kernel
theorem dX11_layAll_103 : decode cX11_layAll 103 = .ok (.aload_n 0, 1) := by decide +kernel
theorem dX11_layAll_104 : decode cX11_layAll 104 = .ok (.getfield 62, 3) := by decide +kernel
theorem dX11_layAll_107 : decode cX11_layAll 107 = .ok (.iload_n 1, 1) := by decide +kernel
theorem dX11_layAll_108 : decode cX11_layAll 108 = .ok (.aload_n 0, 1) := by decide +kernel
theorem dX11_layAll_109 : decode cX11_layAll 109 = .ok (.aload_n 0, 1) := by decide +kernel
theorem dX11_layAll_110 : decode cX11_layAll 110 = .ok (.getfield 58, 3) := by decide +kernel
theorem dX11_layAll_113 : decode cX11_layAll 113 = .ok (.iload_n 1, 1) := by decide +kernel
theorem dX11_layAll_114 : decode cX11_layAll 114 = .ok (.laload, 1) := by decide +kernel
theorem dX11_layAll_115 : decode cX11_layAll 115 = .ok (.invokevirtual 202, 3) := by decide +kernel
theorem dX11_layAll_118 : decode cX11_layAll 118 = .ok (.lastore, 1) := by decide +kernel
theorem dX11_layAll_119 : decode cX11_layAll 119 = .ok (.aload_n 0, 1) := by decide +kernel
theorem dX11_layAll_120 : decode cX11_layAll 120 = .ok (.aload_n 0, 1) := by decide +kernel
theorem dX11_layAll_121 : decode cX11_layAll 121 = .ok (.getfield 62, 3) := by decide +kernel
theorem dX11_layAll_124 : decode cX11_layAll 124 = .ok (.iload_n 1, 1) := by decide +kernel
theorem dX11_layAll_125 : decode cX11_layAll 125 = .ok (.laload, 1) := by decide +kernel
theorem dX11_layAll_126 : decode cX11_layAll 126 = .ok (.invokevirtual 195, 3) := by decide +kernel
theorem dX11_layAll_129 : decode cX11_layAll 129 = .ok (.aload_n 0, 1) := by decide +kernel
theorem dX11_layAll_130 : decode cX11_layAll 130 = .ok (.getfield 68, 3) := by decide +kernel
theorem dX11_layAll_133 : decode cX11_layAll 133 = .ok (.iload_n 1, 1) := by decide +kernel
theorem dX11_layAll_134 : decode cX11_layAll 134 = .ok (.aload_n 0, 1) := by decide +kernel
theorem dX11_layAll_135 : decode cX11_layAll 135 = .ok (.invokevirtual 232, 3) := by decide +kernel
theorem dX11_layAll_138 : decode cX11_layAll 138 = .ok (.iastore, 1) := by decide +kernel
theorem dX11_layAll_139 : decode cX11_layAll 139 = .ok (.aload_n 0, 1) := by decide +kernel
theorem dX11_layAll_140 : decode cX11_layAll 140 = .ok (.getfield 71, 3) := by decide +kernel
theorem dX11_layAll_143 : decode cX11_layAll 143 = .ok (.iload_n 1, 1) := by decide +kernel
theorem dX11_layAll_144 : decode cX11_layAll 144 = .ok (.aload_n 0, 1) := by decide +kernel
theorem dX11_layAll_145 : decode cX11_layAll 145 = .ok (.aload_n 0, 1) := by decide +kernel
theorem dX11_layAll_146 : decode cX11_layAll 146 = .ok (.getfield 58, 3) := by decide +kernel
theorem dX11_layAll_149 : decode cX11_layAll 149 = .ok (.iload_n 1, 1) := by decide +kernel
theorem dX11_layAll_150 : decode cX11_layAll 150 = .ok (.laload, 1) := by decide +kernel
theorem dX11_layAll_151 : decode cX11_layAll 151 = .ok (.invokevirtual 223, 3) := by decide +kernel
theorem dX11_layAll_154 : decode cX11_layAll 154 = .ok (.bastore, 1) := by decide +kernel
theorem dX11_layAll_155 : decode cX11_layAll 155 = .ok (.iinc 1 1, 3) := by decide +kernel
theorem dX11_layAll_158 : decode cX11_layAll 158 = .ok (.goto (-100), 3) := by decide +kernel
theorem dX11_layAll_161 : decode cX11_layAll 161 = .ok (.aload_n 0, 1) := by decide +kernel
theorem dX11_layAll_162 : decode cX11_layAll 162 = .ok (.iconst 1, 1) := by decide +kernel
theorem dX11_layAll_163 : decode cX11_layAll 163 = .ok (.putfield 100, 3) := by decide +kernel
theorem dX11_layAll_166 : decode cX11_layAll 166 = .ok (.return_, 1) := by decide +kernel
theorem dX11_cutEpochs_0 : decode cX11_cutEpochs 0 = .ok (.aload_n 0, 1) := by decide +kernel
theorem dX11_cutEpochs_1 : decode cX11_cutEpochs 1 = .ok (.iconst 0, 1) := by decide +kernel
theorem dX11_cutEpochs_2 : decode cX11_cutEpochs 2 = .ok (.putfield 235, 3) := by decide +kernel
theorem dX11_cutEpochs_5 : decode cX11_cutEpochs 5 = .ok (.aload_n 0, 1) := by decide +kernel
theorem dX11_cutEpochs_6 : decode cX11_cutEpochs 6 = .ok (.iconst 1, 1) := by decide +kernel
theorem dX11_cutEpochs_7 : decode cX11_cutEpochs 7 = .ok (.putfield 238, 3) := by decide +kernel
theorem dX11_cutEpochs_10 : decode cX11_cutEpochs 10 = .ok (.aload_n 0, 1) := by decide +kernel
theorem dX11_cutEpochs_11 : decode cX11_cutEpochs 11 = .ok (.getfield 80, 3) := by decide +kernel
theorem dX11_cutEpochs_14 : decode cX11_cutEpochs 14 = .ok (.iconst 0, 1) := by decide +kernel
theorem dX11_cutEpochs_15 : decode cX11_cutEpochs 15 = .ok (.iconst 0, 1) := by decide +kernel
theorem dX11_cutEpochs_16 : decode cX11_cutEpochs 16 = .ok (.iastore, 1) := by decide +kernel
theorem dX11_cutEpochs_17 : decode cX11_cutEpochs 17 = .ok (.iconst 0, 1) := by decide +kernel
theorem dX11_cutEpochs_18 : decode cX11_cutEpochs 18 = .ok (.istore_n 3, 1) := by decide +kernel
theorem dX11_cutEpochs_19 : decode cX11_cutEpochs 19 = .ok (.iload_n 3, 1) := by decide +kernel
theorem dX11_cutEpochs_20 : decode cX11_cutEpochs 20 = .ok (.iload_n 1, 1) := by decide +kernel
theorem dX11_cutEpochs_21 : decode cX11_cutEpochs 21 = .ok (.if_icmp .ge 126, 3) := by decide +kernel
theorem dX11_cutEpochs_24 : decode cX11_cutEpochs 24 = .ok (.iload_n 2, 1) := by decide +kernel
theorem dX11_cutEpochs_25 : decode cX11_cutEpochs 25 = .ok (.iload_n 3, 1) := by decide +kernel
theorem dX11_cutEpochs_26 : decode cX11_cutEpochs 26 = .ok (.ishr, 1) := by decide +kernel
theorem dX11_cutEpochs_27 : decode cX11_cutEpochs 27 = .ok (.iconst 1, 1) := by decide +kernel
theorem dX11_cutEpochs_28 : decode cX11_cutEpochs 28 = .ok (.iand, 1) := by decide +kernel
theorem dX11_cutEpochs_29 : decode cX11_cutEpochs 29 = .ok (.ifCond .ne 7, 3) := by decide +kernel
theorem dX11_cutEpochs_32 : decode cX11_cutEpochs 32 = .ok (.iconst 1, 1) := by decide +kernel
theorem dX11_cutEpochs_33 : decode cX11_cutEpochs 33 = .ok (.goto 4, 3) := by decide +kernel
theorem dX11_cutEpochs_36 : decode cX11_cutEpochs 36 = .ok (.iconst 0, 1) := by decide +kernel
theorem dX11_cutEpochs_37 : decode cX11_cutEpochs 37 = .ok (.istore 4, 2) := by decide +kernel
theorem dX11_cutEpochs_39 : decode cX11_cutEpochs 39 = .ok (.iload 4, 2) := by decide +kernel
theorem dX11_cutEpochs_41 : decode cX11_cutEpochs 41 = .ok (.ifCond .eq 28, 3) := by decide +kernel
theorem dX11_cutEpochs_44 : decode cX11_cutEpochs 44 = .ok (.aload_n 0, 1) := by decide +kernel
theorem dX11_cutEpochs_45 : decode cX11_cutEpochs 45 = .ok (.iload_n 3, 1) := by decide +kernel
theorem dX11_cutEpochs_46 : decode cX11_cutEpochs 46 = .ok (.invokevirtual 120, 3) := by decide +kernel
theorem dX11_cutEpochs_49 : decode cX11_cutEpochs 49 = .ok (.ifCond .eq 20, 3) := by decide +kernel
theorem dX11_cutEpochs_52 : decode cX11_cutEpochs 52 = .ok (.aload_n 0, 1) := by decide +kernel
theorem dX11_cutEpochs_53 : decode cX11_cutEpochs 53 = .ok (.getfield 80, 3) := by decide +kernel
theorem dX11_cutEpochs_56 : decode cX11_cutEpochs 56 = .ok (.aload_n 0, 1) := by decide +kernel
theorem dX11_cutEpochs_57 : decode cX11_cutEpochs 57 = .ok (.getfield 238, 3) := by decide +kernel
theorem dX11_cutEpochs_60 : decode cX11_cutEpochs 60 = .ok (.iconst 1, 1) := by decide +kernel
theorem dX11_cutEpochs_61 : decode cX11_cutEpochs 61 = .ok (.isub, 1) := by decide +kernel
theorem dX11_cutEpochs_62 : decode cX11_cutEpochs 62 = .ok (.dup2, 1) := by decide +kernel
theorem dX11_cutEpochs_63 : decode cX11_cutEpochs 63 = .ok (.iaload, 1) := by decide +kernel
theorem dX11_cutEpochs_64 : decode cX11_cutEpochs 64 = .ok (.iconst 1, 1) := by decide +kernel
theorem dX11_cutEpochs_65 : decode cX11_cutEpochs 65 = .ok (.iload_n 3, 1) := by decide +kernel
theorem dX11_cutEpochs_66 : decode cX11_cutEpochs 66 = .ok (.ishl, 1) := by decide +kernel
theorem dX11_cutEpochs_67 : decode cX11_cutEpochs 67 = .ok (.ior, 1) := by decide +kernel
theorem dX11_cutEpochs_68 : decode cX11_cutEpochs 68 = .ok (.iastore, 1) := by decide +kernel
theorem dX11_cutEpochs_69 : decode cX11_cutEpochs 69 = .ok (.iload 4, 2) := by decide +kernel
theorem dX11_cutEpochs_71 : decode cX11_cutEpochs 71 = .ok (.ifCond .eq 17, 3) := by decide +kernel
theorem dX11_cutEpochs_74 : decode cX11_cutEpochs 74 = .ok (.aload_n 0, 1) := by decide +kernel
theorem dX11_cutEpochs_75 : decode cX11_cutEpochs 75 = .ok (.getfield 13, 3) := by decide +kernel
theorem dX11_cutEpochs_78 : decode cX11_cutEpochs 78 = .ok (.iload_n 3, 1) := by decide +kernel
theorem dX11_cutEpochs_79 : decode cX11_cutEpochs 79 = .ok (.iaload, 1) := by decide +kernel
theorem dX11_cutEpochs_80 : decode cX11_cutEpochs 80 = .ok (.iconst 2, 1) := by decide +kernel
theorem dX11_cutEpochs_81 : decode cX11_cutEpochs 81 = .ok (.if_icmp .ne 7, 3) := by decide +kernel
theorem dX11_cutEpochs_84 : decode cX11_cutEpochs 84 = .ok (.iconst 1, 1) := by decide +kernel
theorem dX11_cutEpochs_85 : decode cX11_cutEpochs 85 = .ok (.goto 23, 3) := by decide +kernel
theorem dX11_cutEpochs_88 : decode cX11_cutEpochs 88 = .ok (.iload 4, 2) := by decide +kernel
theorem dX11_cutEpochs_90 : decode cX11_cutEpochs 90 = .ok (.ifCond .eq 17, 3) := by decide +kernel
theorem dX11_cutEpochs_93 : decode cX11_cutEpochs 93 = .ok (.aload_n 0, 1) := by decide +kernel
theorem dX11_cutEpochs_94 : decode cX11_cutEpochs 94 = .ok (.getfield 13, 3) := by decide +kernel
theorem dX11_cutEpochs_97 : decode cX11_cutEpochs 97 = .ok (.iload_n 3, 1) := by decide +kernel
theorem dX11_cutEpochs_98 : decode cX11_cutEpochs 98 = .ok (.iaload, 1) := by decide +kernel
theorem dX11_cutEpochs_99 : decode cX11_cutEpochs 99 = .ok (.iconst 3, 1) := by decide +kernel
theorem dX11_cutEpochs_100 : decode cX11_cutEpochs 100 = .ok (.if_icmp .ne 7, 3) := by decide +kernel
theorem dX11_cutEpochs_103 : decode cX11_cutEpochs 103 = .ok (.iconst 2, 1) := by decide +kernel
theorem dX11_cutEpochs_104 : decode cX11_cutEpochs 104 = .ok (.goto 4, 3) := by decide +kernel
theorem dX11_cutEpochs_107 : decode cX11_cutEpochs 107 = .ok (.iconst 0, 1) := by decide +kernel
theorem dX11_cutEpochs_108 : decode cX11_cutEpochs 108 = .ok (.istore 5, 2) := by decide +kernel
theorem dX11_cutEpochs_110 : decode cX11_cutEpochs 110 = .ok (.iload_n 3, 1) := by decide +kernel
theorem dX11_cutEpochs_111 : decode cX11_cutEpochs 111 = .ok (.iload_n 1, 1) := by decide +kernel
theorem dX11_cutEpochs_112 : decode cX11_cutEpochs 112 = .ok (.iconst 1, 1) := by decide +kernel
theorem dX11_cutEpochs_113 : decode cX11_cutEpochs 113 = .ok (.isub, 1) := by decide +kernel
theorem dX11_cutEpochs_114 : decode cX11_cutEpochs 114 = .ok (.if_icmp .ge 12, 3) := by decide +kernel
theorem dX11_cutEpochs_117 : decode cX11_cutEpochs 117 = .ok (.aload_n 0, 1) := by decide +kernel
theorem dX11_cutEpochs_118 : decode cX11_cutEpochs 118 = .ok (.getfield 77, 3) := by decide +kernel
theorem dX11_cutEpochs_121 : decode cX11_cutEpochs 121 = .ok (.iload_n 3, 1) := by decide +kernel
theorem dX11_cutEpochs_122 : decode cX11_cutEpochs 122 = .ok (.iaload, 1) := by decide +kernel
theorem dX11_cutEpochs_123 : decode cX11_cutEpochs 123 = .ok (.goto 4, 3) := by decide +kernel
theorem dX11_cutEpochs_126 : decode cX11_cutEpochs 126 = .ok (.iconst 0, 1) := by decide +kernel
theorem dX11_cutEpochs_127 : decode cX11_cutEpochs 127 = .ok (.istore 6, 2) := by decide +kernel
theorem dX11_cutEpochs_129 : decode cX11_cutEpochs 129 = .ok (.aload_n 0, 1) := by decide +kernel
theorem dX11_cutEpochs_130 : decode cX11_cutEpochs 130 = .ok (.iload 5, 2) := by decide +kernel
theorem dX11_cutEpochs_132 : decode cX11_cutEpochs 132 = .ok (.invokevirtual 241, 3) := by decide +kernel
theorem dX11_cutEpochs_135 : decode cX11_cutEpochs 135 = .ok (.aload_n 0, 1) := by decide +kernel
theorem dX11_cutEpochs_136 : decode cX11_cutEpochs 136 = .ok (.iload 6, 2) := by decide +kernel
theorem dX11_cutEpochs_138 : decode cX11_cutEpochs 138 = .ok (.invokevirtual 241, 3) := by decide +kernel
theorem dX11_cutEpochs_141 : decode cX11_cutEpochs 141 = .ok (.iinc 3 1, 3) := by decide +kernel
theorem dX11_cutEpochs_144 : decode cX11_cutEpochs 144 = .ok (.goto (-125), 3) := by decide +kernel
theorem dX11_cutEpochs_147 : decode cX11_cutEpochs 147 = .ok (.return_, 1) := by decide +kernel
theorem dX11_endEpoch_0 : decode cX11_endEpoch 0 = .ok (.iload_n 1, 1) := by decide +kernel
theorem dX11_endEpoch_1 : decode cX11_endEpoch 1 = .ok (.iconst 2, 1) := by decide +kernel
theorem dX11_endEpoch_2 : decode cX11_endEpoch 2 = .ok (.if_icmp .ne 39, 3) := by decide +kernel
theorem dX11_endEpoch_5 : decode cX11_endEpoch 5 = .ok (.iconst 0, 1) := by decide +kernel
theorem dX11_endEpoch_6 : decode cX11_endEpoch 6 = .ok (.istore_n 2, 1) := by decide +kernel
theorem dX11_endEpoch_7 : decode cX11_endEpoch 7 = .ok (.iload_n 2, 1) := by decide +kernel
theorem dX11_endEpoch_8 : decode cX11_endEpoch 8 = .ok (.aload_n 0, 1) := by decide +kernel
theorem dX11_endEpoch_9 : decode cX11_endEpoch 9 = .ok (.getfield 238, 3) := by decide +kernel
theorem dX11_endEpoch_12 : decode cX11_endEpoch 12 = .ok (.if_icmp .ge 24, 3) := by decide +kernel
theorem dX11_endEpoch_15 : decode cX11_endEpoch 15 = .ok (.aload_n 0, 1) := by decide +kernel
theorem dX11_endEpoch_16 : decode cX11_endEpoch 16 = .ok (.dup, 1) := by decide +kernel
theorem dX11_endEpoch_17 : decode cX11_endEpoch 17 = .ok (.getfield 235, 3) := by decide +kernel
theorem dX11_endEpoch_20 : decode cX11_endEpoch 20 = .ok (.aload_n 0, 1) := by decide +kernel
theorem dX11_endEpoch_21 : decode cX11_endEpoch 21 = .ok (.getfield 80, 3) := by decide +kernel
theorem dX11_endEpoch_24 : decode cX11_endEpoch 24 = .ok (.iload_n 2, 1) := by decide +kernel
theorem dX11_endEpoch_25 : decode cX11_endEpoch 25 = .ok (.iaload, 1) := by decide +kernel
theorem dX11_endEpoch_26 : decode cX11_endEpoch 26 = .ok (.ior, 1) := by decide +kernel
theorem dX11_endEpoch_27 : decode cX11_endEpoch 27 = .ok (.putfield 235, 3) := by decide +kernel
theorem dX11_endEpoch_30 : decode cX11_endEpoch 30 = .ok (.iinc 2 1, 3) := by decide +kernel
theorem dX11_endEpoch_33 : decode cX11_endEpoch 33 = .ok (.goto (-26), 3) := by decide +kernel
theorem dX11_endEpoch_36 : decode cX11_endEpoch 36 = .ok (.aload_n 0, 1) := by decide +kernel
theorem dX11_endEpoch_37 : decode cX11_endEpoch 37 = .ok (.iconst 0, 1) := by decide +kernel
theorem dX11_endEpoch_38 : decode cX11_endEpoch 38 = .ok (.putfield 238, 3) := by decide +kernel
theorem dX11_endEpoch_41 : decode cX11_endEpoch 41 = .ok (.iload_n 1, 1) := by decide +kernel
theorem dX11_endEpoch_42 : decode cX11_endEpoch 42 = .ok (.ifCond .le 23, 3) := by decide +kernel
theorem dX11_endEpoch_45 : decode cX11_endEpoch 45 = .ok (.aload_n 0, 1) := by decide +kernel
theorem dX11_endEpoch_46 : decode cX11_endEpoch 46 = .ok (.getfield 80, 3) := by decide +kernel
theorem dX11_endEpoch_49 : decode cX11_endEpoch 49 = .ok (.aload_n 0, 1) := by decide +kernel
theorem dX11_endEpoch_50 : decode cX11_endEpoch 50 = .ok (.getfield 238, 3) := by decide +kernel
theorem dX11_endEpoch_53 : decode cX11_endEpoch 53 = .ok (.iconst 0, 1) := by decide +kernel
theorem dX11_endEpoch_54 : decode cX11_endEpoch 54 = .ok (.iastore, 1) := by decide +kernel
theorem dX11_endEpoch_55 : decode cX11_endEpoch 55 = .ok (.aload_n 0, 1) := by decide +kernel
theorem dX11_endEpoch_56 : decode cX11_endEpoch 56 = .ok (.dup, 1) := by decide +kernel
theorem dX11_endEpoch_57 : decode cX11_endEpoch 57 = .ok (.getfield 238, 3) := by decide +kernel
theorem dX11_endEpoch_60 : decode cX11_endEpoch 60 = .ok (.iconst 1, 1) := by decide +kernel
theorem dX11_endEpoch_61 : decode cX11_endEpoch 61 = .ok (.iadd, 1) := by decide +kernel
theorem dX11_endEpoch_62 : decode cX11_endEpoch 62 = .ok (.putfield 238, 3) := by decide +kernel
theorem dX11_endEpoch_65 : decode cX11_endEpoch 65 = .ok (.return_, 1) := by decide +kernel
theorem dX11_dueAt_0 : decode cX11_dueAt 0 = .ok (.iconst 0, 1) := by decide +kernel
theorem dX11_dueAt_1 : decode cX11_dueAt 1 = .ok (.istore_n 2, 1) := by decide +kernel
theorem dX11_dueAt_2 : decode cX11_dueAt 2 = .ok (.iconst 0, 1) := by decide +kernel
theorem dX11_dueAt_3 : decode cX11_dueAt 3 = .ok (.istore_n 3, 1) := by decide +kernel
theorem dX11_dueAt_4 : decode cX11_dueAt 4 = .ok (.iload_n 3, 1) := by decide +kernel
theorem dX11_dueAt_5 : decode cX11_dueAt 5 = .ok (.aload_n 0, 1) := by decide +kernel
theorem dX11_dueAt_6 : decode cX11_dueAt 6 = .ok (.getfield 111, 3) := by decide +kernel
theorem dX11_dueAt_9 : decode cX11_dueAt 9 = .ok (.if_icmp .ge 28, 3) := by decide +kernel
theorem dX11_dueAt_12 : decode cX11_dueAt 12 = .ok (.iload_n 2, 1) := by decide +kernel
theorem dX11_dueAt_13 : decode cX11_dueAt 13 = .ok (.aload_n 0, 1) := by decide +kernel
theorem dX11_dueAt_14 : decode cX11_dueAt 14 = .ok (.getfield 29, 3) := by decide +kernel
theorem dX11_dueAt_17 : decode cX11_dueAt 17 = .ok (.iload_n 3, 1) := by decide +kernel
theorem dX11_dueAt_18 : decode cX11_dueAt 18 = .ok (.baload, 1) := by decide +kernel
theorem dX11_dueAt_19 : decode cX11_dueAt 19 = .ok (.ifCond .eq 9, 3) := by decide +kernel
theorem dX11_dueAt_22 : decode cX11_dueAt 22 = .ok (.iconst 1, 1) := by decide +kernel
theorem dX11_dueAt_23 : decode cX11_dueAt 23 = .ok (.iload_n 3, 1) := by decide +kernel
theorem dX11_dueAt_24 : decode cX11_dueAt 24 = .ok (.ishl, 1) := by decide +kernel
theorem dX11_dueAt_25 : decode cX11_dueAt 25 = .ok (.goto 4, 3) := by decide +kernel
theorem dX11_dueAt_28 : decode cX11_dueAt 28 = .ok (.iconst 0, 1) := by decide +kernel
theorem dX11_dueAt_29 : decode cX11_dueAt 29 = .ok (.ior, 1) := by decide +kernel
theorem dX11_dueAt_30 : decode cX11_dueAt 30 = .ok (.istore_n 2, 1) := by decide +kernel
theorem dX11_dueAt_31 : decode cX11_dueAt 31 = .ok (.iinc 3 1, 3) := by decide +kernel
theorem dX11_dueAt_34 : decode cX11_dueAt 34 = .ok (.goto (-30), 3) := by decide +kernel
theorem dX11_dueAt_37 : decode cX11_dueAt 37 = .ok (.iconst 0, 1) := by decide +kernel
theorem dX11_dueAt_38 : decode cX11_dueAt 38 = .ok (.istore_n 3, 1) := by decide +kernel
theorem dX11_dueAt_39 : decode cX11_dueAt 39 = .ok (.iload_n 3, 1) := by decide +kernel
theorem dX11_dueAt_40 : decode cX11_dueAt 40 = .ok (.iload_n 1, 1) := by decide +kernel
theorem dX11_dueAt_41 : decode cX11_dueAt 41 = .ok (.if_icmp .ge 36, 3) := by decide +kernel
theorem dX11_dueAt_44 : decode cX11_dueAt 44 = .ok (.iload_n 2, 1) := by decide +kernel
theorem dX11_dueAt_45 : decode cX11_dueAt 45 = .ok (.aload_n 0, 1) := by decide +kernel
theorem dX11_dueAt_46 : decode cX11_dueAt 46 = .ok (.getfield 13, 3) := by decide +kernel
theorem dX11_dueAt_49 : decode cX11_dueAt 49 = .ok (.iload_n 3, 1) := by decide +kernel
theorem dX11_dueAt_50 : decode cX11_dueAt 50 = .ok (.iaload, 1) := by decide +kernel
theorem dX11_dueAt_51 : decode cX11_dueAt 51 = .ok (.iconst 4, 1) := by decide +kernel
theorem dX11_dueAt_52 : decode cX11_dueAt 52 = .ok (.if_icmp .ne 16, 3) := by decide +kernel
theorem dX11_dueAt_55 : decode cX11_dueAt 55 = .ok (.iconst 1, 1) := by decide +kernel
theorem dX11_dueAt_56 : decode cX11_dueAt 56 = .ok (.aload_n 0, 1) := by decide +kernel
theorem dX11_dueAt_57 : decode cX11_dueAt 57 = .ok (.getfield 16, 3) := by decide +kernel
theorem dX11_dueAt_60 : decode cX11_dueAt 60 = .ok (.iconst 4, 1) := by decide +kernel
theorem dX11_dueAt_61 : decode cX11_dueAt 61 = .ok (.iload_n 3, 1) := by decide +kernel
theorem dX11_dueAt_62 : decode cX11_dueAt 62 = .ok (.imul, 1) := by decide +kernel
theorem dX11_dueAt_63 : decode cX11_dueAt 63 = .ok (.iaload, 1) := by decide +kernel
theorem dX11_dueAt_64 : decode cX11_dueAt 64 = .ok (.ishl, 1) := by decide +kernel
theorem dX11_dueAt_65 : decode cX11_dueAt 65 = .ok (.goto 4, 3) := by decide +kernel
theorem dX11_dueAt_68 : decode cX11_dueAt 68 = .ok (.iconst 0, 1) := by decide +kernel
theorem dX11_dueAt_69 : decode cX11_dueAt 69 = .ok (.ior, 1) := by decide +kernel
theorem dX11_dueAt_70 : decode cX11_dueAt 70 = .ok (.istore_n 2, 1) := by decide +kernel
theorem dX11_dueAt_71 : decode cX11_dueAt 71 = .ok (.iinc 3 1, 3) := by decide +kernel
theorem dX11_dueAt_74 : decode cX11_dueAt 74 = .ok (.goto (-35), 3) := by decide +kernel
theorem dX11_dueAt_77 : decode cX11_dueAt 77 = .ok (.iload_n 2, 1) := by decide +kernel
theorem dX11_dueAt_78 : decode cX11_dueAt 78 = .ok (.ireturn, 1) := by decide +kernel
theorem dX11_isBroken_0 : decode cX11_isBroken 0 = .ok (.aload_n 0, 1) := by decide +kernel
theorem dX11_isBroken_1 : decode cX11_isBroken 1 = .ok (.getfield 68, 3) := by decide +kernel
theorem dX11_isBroken_4 : decode cX11_isBroken 4 = .ok (.iload_n 1, 1) := by decide +kernel
theorem dX11_isBroken_5 : decode cX11_isBroken 5 = .ok (.iaload, 1) := by decide +kernel
theorem dX11_isBroken_6 : decode cX11_isBroken 6 = .ok (.iload_n 2, 1) := by decide +kernel
theorem dX11_isBroken_7 : decode cX11_isBroken 7 = .ok (.iand, 1) := by decide +kernel
theorem dX11_isBroken_8 : decode cX11_isBroken 8 = .ok (.iload_n 2, 1) := by decide +kernel
theorem dX11_isBroken_9 : decode cX11_isBroken 9 = .ok (.if_icmp .ne 12, 3) := by decide +kernel
theorem dX11_isBroken_12 : decode cX11_isBroken 12 = .ok (.aload_n 0, 1) := by decide +kernel
theorem dX11_isBroken_13 : decode cX11_isBroken 13 = .ok (.getfield 71, 3) := by decide +kernel
theorem dX11_isBroken_16 : decode cX11_isBroken 16 = .ok (.iload_n 1, 1) := by decide +kernel
theorem dX11_isBroken_17 : decode cX11_isBroken 17 = .ok (.baload, 1) := by decide +kernel
theorem dX11_isBroken_18 : decode cX11_isBroken 18 = .ok (.ifCond .ne 7, 3) := by decide +kernel
theorem dX11_isBroken_21 : decode cX11_isBroken 21 = .ok (.iconst 1, 1) := by decide +kernel
theorem dX11_isBroken_22 : decode cX11_isBroken 22 = .ok (.goto 4, 3) := by decide +kernel
theorem dX11_isBroken_25 : decode cX11_isBroken 25 = .ok (.iconst 0, 1) := by decide +kernel
theorem dX11_isBroken_26 : decode cX11_isBroken 26 = .ok (.ireturn, 1) := by decide +kernel
theorem dX11_findSets_0 : decode cX11_findSets 0 = .ok (.aload_n 0, 1) := by decide +kernel
theorem dX11_findSets_1 : decode cX11_findSets 1 = .ok (.iload_n 1, 1) := by decide +kernel
theorem dX11_findSets_2 : decode cX11_findSets 2 = .ok (.iload_n 2, 1) := by decide +kernel
theorem dX11_findSets_3 : decode cX11_findSets 3 = .ok (.invokevirtual 244, 3) := by decide +kernel
theorem dX11_findSets_6 : decode cX11_findSets 6 = .ok (.aload_n 0, 1) := by decide +kernel
theorem dX11_findSets_7 : decode cX11_findSets 7 = .ok (.iconst 0, 1) := by decide +kernel
theorem dX11_findSets_8 : decode cX11_findSets 8 = .ok (.putfield 248, 3) := by decide +kernel
theorem dX11_findSets_11 : decode cX11_findSets 11 = .ok (.aload_n 0, 1) := by decide +kernel
theorem dX11_findSets_12 : decode cX11_findSets 12 = .ok (.getfield 235, 3) := by decide +kernel
theorem dX11_findSets_15 : decode cX11_findSets 15 = .ok (.istore_n 3, 1) := by decide +kernel
theorem dX11_findSets_16 : decode cX11_findSets 16 = .ok (.iconst 0, 1) := by decide +kernel
theorem dX11_findSets_17 : decode cX11_findSets 17 = .ok (.istore 4, 2) := by decide +kernel
theorem dX11_findSets_19 : decode cX11_findSets 19 = .ok (.iload 4, 2) := by decide +kernel
theorem dX11_findSets_21 : decode cX11_findSets 21 = .ok (.aload_n 0, 1) := by decide +kernel
theorem dX11_findSets_22 : decode cX11_findSets 22 = .ok (.getfield 238, 3) := by decide +kernel
theorem dX11_findSets_25 : decode cX11_findSets 25 = .ok (.if_icmp .ge 99, 3) := by decide +kernel
theorem dX11_findSets_28 : decode cX11_findSets 28 = .ok (.aload_n 0, 1) := by decide +kernel
theorem dX11_findSets_29 : decode cX11_findSets 29 = .ok (.aload_n 0, 1) := by decide +kernel
theorem dX11_findSets_30 : decode cX11_findSets 30 = .ok (.getfield 80, 3) := by decide +kernel
theorem dX11_findSets_33 : decode cX11_findSets 33 = .ok (.iload 4, 2) := by decide +kernel
theorem dX11_findSets_35 : decode cX11_findSets 35 = .ok (.iaload, 1) := by decide +kernel
theorem dX11_findSets_36 : decode cX11_findSets 36 = .ok (.invokevirtual 251, 3) := by decide +kernel
theorem dX11_findSets_39 : decode cX11_findSets 39 = .ok (.istore 5, 2) := by decide +kernel
theorem dX11_findSets_41 : decode cX11_findSets 41 = .ok (.aload_n 0, 1) := by decide +kernel
theorem dX11_findSets_42 : decode cX11_findSets 42 = .ok (.iload_n 3, 1) := by decide +kernel
theorem dX11_findSets_43 : decode cX11_findSets 43 = .ok (.invokevirtual 251, 3) := by decide +kernel
theorem dX11_findSets_46 : decode cX11_findSets 46 = .ok (.istore 6, 2) := by decide +kernel
theorem dX11_findSets_48 : decode cX11_findSets 48 = .ok (.iload 5, 2) := by decide +kernel
theorem dX11_findSets_50 : decode cX11_findSets 50 = .ok (.istore 7, 2) := by decide +kernel
theorem dX11_findSets_52 : decode cX11_findSets 52 = .ok (.iconst 1, 1) := by decide +kernel
theorem dX11_findSets_53 : decode cX11_findSets 53 = .ok (.istore 8, 2) := by decide +kernel
theorem dX11_findSets_55 : decode cX11_findSets 55 = .ok (.iload 8, 2) := by decide +kernel
theorem dX11_findSets_57 : decode cX11_findSets 57 = .ok (.ifCond .eq 51, 3) := by decide +kernel
theorem dX11_findSets_60 : decode cX11_findSets 60 = .ok (.aload_n 0, 1) := by decide +kernel
theorem dX11_findSets_61 : decode cX11_findSets 61 = .ok (.getfield 83, 3) := by decide +kernel
theorem dX11_findSets_64 : decode cX11_findSets 64 = .ok (.aload_n 0, 1) := by decide +kernel
theorem dX11_findSets_65 : decode cX11_findSets 65 = .ok (.getfield 248, 3) := by decide +kernel
theorem dX11_findSets_68 : decode cX11_findSets 68 = .ok (.iload 6, 2) := by decide +kernel
theorem dX11_findSets_70 : decode cX11_findSets 70 = .ok (.iload 7, 2) := by decide +kernel
theorem dX11_findSets_72 : decode cX11_findSets 72 = .ok (.ior, 1) := by decide +kernel
theorem dX11_findSets_73 : decode cX11_findSets 73 = .ok (.iastore, 1) := by decide +kernel
theorem dX11_findSets_74 : decode cX11_findSets 74 = .ok (.aload_n 0, 1) := by decide +kernel
theorem dX11_findSets_75 : decode cX11_findSets 75 = .ok (.dup, 1) := by decide +kernel
theorem dX11_findSets_76 : decode cX11_findSets 76 = .ok (.getfield 248, 3) := by decide +kernel
theorem dX11_findSets_79 : decode cX11_findSets 79 = .ok (.iconst 1, 1) := by decide +kernel
theorem dX11_findSets_80 : decode cX11_findSets 80 = .ok (.iadd, 1) := by decide +kernel
theorem dX11_findSets_81 : decode cX11_findSets 81 = .ok (.putfield 248, 3) := by decide +kernel
theorem dX11_findSets_84 : decode cX11_findSets 84 = .ok (.iload 7, 2) := by decide +kernel
theorem dX11_findSets_86 : decode cX11_findSets 86 = .ok (.ifCond .eq 7, 3) := by decide +kernel
theorem dX11_findSets_89 : decode cX11_findSets 89 = .ok (.iconst 1, 1) := by decide +kernel
theorem dX11_findSets_90 : decode cX11_findSets 90 = .ok (.goto 4, 3) := by decide +kernel
theorem dX11_findSets_93 : decode cX11_findSets 93 = .ok (.iconst 0, 1) := by decide +kernel
theorem dX11_findSets_94 : decode cX11_findSets 94 = .ok (.istore 8, 2) := by decide +kernel
theorem dX11_findSets_96 : decode cX11_findSets 96 = .ok (.iload 7, 2) := by decide +kernel
theorem dX11_findSets_98 : decode cX11_findSets 98 = .ok (.iconst 1, 1) := by decide +kernel
theorem dX11_findSets_99 : decode cX11_findSets 99 = .ok (.isub, 1) := by decide +kernel
theorem dX11_findSets_100 : decode cX11_findSets 100 = .ok (.iload 5, 2) := by decide +kernel
theorem dX11_findSets_102 : decode cX11_findSets 102 = .ok (.iand, 1) := by decide +kernel
theorem dX11_findSets_103 : decode cX11_findSets 103 = .ok (.istore 7, 2) := by decide +kernel
theorem dX11_findSets_105 : decode cX11_findSets 105 = .ok (.goto (-50), 3) := by decide +kernel
theorem dX11_findSets_108 : decode cX11_findSets 108 = .ok (.iload_n 3, 1) := by decide +kernel
theorem dX11_findSets_109 : decode cX11_findSets 109 = .ok (.aload_n 0, 1) := by decide +kernel
theorem dX11_findSets_110 : decode cX11_findSets 110 = .ok (.getfield 80, 3) := by decide +kernel
theorem dX11_findSets_113 : decode cX11_findSets 113 = .ok (.iload 4, 2) := by decide +kernel
theorem dX11_findSets_115 : decode cX11_findSets 115 = .ok (.iaload, 1) := by decide +kernel
theorem dX11_findSets_116 : decode cX11_findSets 116 = .ok (.ior, 1) := by decide +kernel
theorem dX11_findSets_117 : decode cX11_findSets 117 = .ok (.istore_n 3, 1) := by decide +kernel
theorem dX11_findSets_118 : decode cX11_findSets 118 = .ok (.iinc 4 1, 3) := by decide +kernel
theorem dX11_findSets_121 : decode cX11_findSets 121 = .ok (.goto (-102), 3) := by decide +kernel
theorem dX11_findSets_124 : decode cX11_findSets 124 = .ok (.return_, 1) := by decide +kernel
theorem dX11_isSafe_0 : decode cX11_isSafe 0 = .ok (.iconst 0, 1) := by decide +kernel
theorem dX11_isSafe_1 : decode cX11_isSafe 1 = .ok (.istore_n 2, 1) := by decide +kernel
theorem dX11_isSafe_2 : decode cX11_isSafe 2 = .ok (.iload_n 2, 1) := by decide +kernel
theorem dX11_isSafe_3 : decode cX11_isSafe 3 = .ok (.aload_n 0, 1) := by decide +kernel
theorem dX11_isSafe_4 : decode cX11_isSafe 4 = .ok (.getfield 104, 3) := by decide +kernel
theorem dX11_isSafe_7 : decode cX11_isSafe 7 = .ok (.if_icmp .gt 56, 3) := by decide +kernel
theorem dX11_isSafe_10 : decode cX11_isSafe 10 = .ok (.aload_n 0, 1) := by decide +kernel
theorem dX11_isSafe_11 : decode cX11_isSafe 11 = .ok (.iload_n 2, 1) := by decide +kernel
theorem dX11_isSafe_12 : decode cX11_isSafe 12 = .ok (.invokevirtual 254, 3) := by decide +kernel
theorem dX11_isSafe_15 : decode cX11_isSafe 15 = .ok (.istore_n 3, 1) := by decide +kernel
theorem dX11_isSafe_16 : decode cX11_isSafe 16 = .ok (.aload_n 0, 1) := by decide +kernel
theorem dX11_isSafe_17 : decode cX11_isSafe 17 = .ok (.iload_n 2, 1) := by decide +kernel
theorem dX11_isSafe_18 : decode cX11_isSafe 18 = .ok (.iload_n 1, 1) := by decide +kernel
theorem dX11_isSafe_19 : decode cX11_isSafe 19 = .ok (.invokevirtual 257, 3) := by decide +kernel
theorem dX11_isSafe_22 : decode cX11_isSafe 22 = .ok (.iconst 0, 1) := by decide +kernel
theorem dX11_isSafe_23 : decode cX11_isSafe 23 = .ok (.istore 4, 2) := by decide +kernel
theorem dX11_isSafe_25 : decode cX11_isSafe 25 = .ok (.iload 4, 2) := by decide +kernel
theorem dX11_isSafe_27 : decode cX11_isSafe 27 = .ok (.aload_n 0, 1) := by decide +kernel
theorem dX11_isSafe_28 : decode cX11_isSafe 28 = .ok (.getfield 248, 3) := by decide +kernel
theorem dX11_isSafe_31 : decode cX11_isSafe 31 = .ok (.if_icmp .ge 26, 3) := by decide +kernel
theorem dX11_isSafe_34 : decode cX11_isSafe 34 = .ok (.aload_n 0, 1) := by decide +kernel
theorem dX11_isSafe_35 : decode cX11_isSafe 35 = .ok (.aload_n 0, 1) := by decide +kernel
theorem dX11_isSafe_36 : decode cX11_isSafe 36 = .ok (.getfield 83, 3) := by decide +kernel
theorem dX11_isSafe_39 : decode cX11_isSafe 39 = .ok (.iload 4, 2) := by decide +kernel
theorem dX11_isSafe_41 : decode cX11_isSafe 41 = .ok (.iaload, 1) := by decide +kernel
theorem dX11_isSafe_42 : decode cX11_isSafe 42 = .ok (.iload_n 3, 1) := by decide +kernel
theorem dX11_isSafe_43 : decode cX11_isSafe 43 = .ok (.invokevirtual 260, 3) := by decide +kernel
theorem dX11_isSafe_46 : decode cX11_isSafe 46 = .ok (.ifCond .eq 5, 3) := by decide +kernel
theorem dX11_isSafe_49 : decode cX11_isSafe 49 = .ok (.iconst 0, 1) := by decide +kernel
theorem dX11_isSafe_50 : decode cX11_isSafe 50 = .ok (.ireturn, 1) := by decide +kernel
theorem dX11_isSafe_51 : decode cX11_isSafe 51 = .ok (.iinc 4 1, 3) := by decide +kernel
theorem dX11_isSafe_54 : decode cX11_isSafe 54 = .ok (.goto (-29), 3) := by decide +kernel
theorem dX11_isSafe_57 : decode cX11_isSafe 57 = .ok (.iinc 2 1, 3) := by decide +kernel
theorem dX11_isSafe_60 : decode cX11_isSafe 60 = .ok (.goto (-58), 3) := by decide +kernel
theorem dX11_isSafe_63 : decode cX11_isSafe 63 = .ok (.iconst 1, 1) := by decide +kernel
theorem dX11_isSafe_64 : decode cX11_isSafe 64 = .ok (.ireturn, 1) := by decide +kernel
theorem dX11_putNothing_0 : decode cX11_putNothing 0 = .ok (.iconst 0, 1) := by decide +kernel
theorem dX11_putNothing_1 : decode cX11_putNothing 1 = .ok (.istore_n 1, 1) := by decide +kernel
theorem dX11_putNothing_2 : decode cX11_putNothing 2 = .ok (.iload_n 1, 1) := by decide +kernel
theorem dX11_putNothing_3 : decode cX11_putNothing 3 = .ok (.bipush 12, 2) := by decide +kernel
theorem dX11_putNothing_5 : decode cX11_putNothing 5 = .ok (.if_icmp .ge 16, 3) := by decide +kernel
theorem dX11_putNothing_8 : decode cX11_putNothing 8 = .ok (.aload_n 0, 1) := by decide +kernel
theorem dX11_putNothing_9 : decode cX11_putNothing 9 = .ok (.getfield 77, 3) := by decide +kernel
theorem dX11_putNothing_12 : decode cX11_putNothing 12 = .ok (.iload_n 1, 1) := by decide +kernel
theorem dX11_putNothing_13 : decode cX11_putNothing 13 = .ok (.iconst 0, 1) := by decide +kernel
theorem dX11_putNothing_14 : decode cX11_putNothing 14 = .ok (.iastore, 1) := by decide +kernel
theorem dX11_putNothing_15 : decode cX11_putNothing 15 = .ok (.iinc 1 1, 3) := by decide +kernel
theorem dX11_putNothing_18 : decode cX11_putNothing 18 = .ok (.goto (-16), 3) := by decide +kernel
theorem dX11_putNothing_21 : decode cX11_putNothing 21 = .ok (.return_, 1) := by decide +kernel
theorem dX11_findPlates_0 : decode cX11_findPlates 0 = .ok (.aload_n 0, 1) := by decide +kernel
theorem dX11_findPlates_1 : decode cX11_findPlates 1 = .ok (.invokevirtual 264, 3) := by decide +kernel
theorem dX11_findPlates_4 : decode cX11_findPlates 4 = .ok (.aload_n 0, 1) := by decide +kernel
theorem dX11_findPlates_5 : decode cX11_findPlates 5 = .ok (.invokevirtual 267, 3) := by decide +kernel
theorem dX11_findPlates_8 : decode cX11_findPlates 8 = .ok (.aload_n 0, 1) := by decide +kernel
theorem dX11_findPlates_9 : decode cX11_findPlates 9 = .ok (.iload_n 1, 1) := by decide +kernel
theorem dX11_findPlates_10 : decode cX11_findPlates 10 = .ok (.iconst 0, 1) := by decide +kernel
theorem dX11_findPlates_11 : decode cX11_findPlates 11 = .ok (.invokevirtual 257, 3) := by decide +kernel
theorem dX11_findPlates_14 : decode cX11_findPlates 14 = .ok (.sipush 3280, 3) := by decide +kernel
theorem dX11_findPlates_17 : decode cX11_findPlates 17 = .ok (.istore_n 2, 1) := by decide +kernel
theorem dX11_findPlates_18 : decode cX11_findPlates 18 = .ok (.iload_n 2, 1) := by decide +kernel
theorem dX11_findPlates_19 : decode cX11_findPlates 19 = .ok (.ifCond .le 102, 3) := by decide +kernel
theorem dX11_findPlates_22 : decode cX11_findPlates 22 = .ok (.iload_n 2, 1) := by decide +kernel
theorem dX11_findPlates_23 : decode cX11_findPlates 23 = .ok (.istore_n 3, 1) := by decide +kernel
theorem dX11_findPlates_24 : decode cX11_findPlates 24 = .ok (.iload_n 3, 1) := by decide +kernel
theorem dX11_findPlates_25 : decode cX11_findPlates 25 = .ok (.aload_n 0, 1) := by decide +kernel
theorem dX11_findPlates_26 : decode cX11_findPlates 26 = .ok (.getfield 248, 3) := by decide +kernel
theorem dX11_findPlates_29 : decode cX11_findPlates 29 = .ok (.if_icmp .ge 85, 3) := by decide +kernel
theorem dX11_findPlates_32 : decode cX11_findPlates 32 = .ok (.aload_n 0, 1) := by decide +kernel
theorem dX11_findPlates_33 : decode cX11_findPlates 33 = .ok (.getfield 83, 3) := by decide +kernel
theorem dX11_findPlates_36 : decode cX11_findPlates 36 = .ok (.iload_n 3, 1) := by decide +kernel
theorem dX11_findPlates_37 : decode cX11_findPlates 37 = .ok (.iaload, 1) := by decide +kernel
theorem dX11_findPlates_38 : decode cX11_findPlates 38 = .ok (.istore 4, 2) := by decide +kernel
theorem dX11_findPlates_40 : decode cX11_findPlates 40 = .ok (.iload_n 3, 1) := by decide +kernel
theorem dX11_findPlates_41 : decode cX11_findPlates 41 = .ok (.istore 5, 2) := by decide +kernel
theorem dX11_findPlates_43 : decode cX11_findPlates 43 = .ok (.iload 5, 2) := by decide +kernel
theorem dX11_findPlates_45 : decode cX11_findPlates 45 = .ok (.iload_n 2, 1) := by decide +kernel
theorem dX11_findPlates_46 : decode cX11_findPlates 46 = .ok (.if_icmp .lt 53, 3) := by decide +kernel
theorem dX11_findPlates_49 : decode cX11_findPlates 49 = .ok (.aload_n 0, 1) := by decide +kernel
theorem dX11_findPlates_50 : decode cX11_findPlates 50 = .ok (.getfield 58, 3) := by decide +kernel
theorem dX11_findPlates_53 : decode cX11_findPlates 53 = .ok (.aload_n 0, 1) := by decide +kernel
theorem dX11_findPlates_54 : decode cX11_findPlates 54 = .ok (.getfield 83, 3) := by decide +kernel
theorem dX11_findPlates_57 : decode cX11_findPlates 57 = .ok (.iload 5, 2) := by decide +kernel
theorem dX11_findPlates_59 : decode cX11_findPlates 59 = .ok (.iload_n 2, 1) := by decide +kernel
theorem dX11_findPlates_60 : decode cX11_findPlates 60 = .ok (.isub, 1) := by decide +kernel
theorem dX11_findPlates_61 : decode cX11_findPlates 61 = .ok (.iaload, 1) := by decide +kernel
theorem dX11_findPlates_62 : decode cX11_findPlates 62 = .ok (.laload, 1) := by decide +kernel
theorem dX11_findPlates_63 : decode cX11_findPlates 63 = .ok (.aload_n 0, 1) := by decide +kernel
theorem dX11_findPlates_64 : decode cX11_findPlates 64 = .ok (.getfield 58, 3) := by decide +kernel
theorem dX11_findPlates_67 : decode cX11_findPlates 67 = .ok (.iload 4, 2) := by decide +kernel
theorem dX11_findPlates_69 : decode cX11_findPlates 69 = .ok (.laload, 1) := by decide +kernel
theorem dX11_findPlates_70 : decode cX11_findPlates 70 = .ok (.lcmp, 1) := by decide +kernel
theorem dX11_findPlates_71 : decode cX11_findPlates 71 = .ok (.ifCond .le 28, 3) := by decide +kernel
theorem dX11_findPlates_74 : decode cX11_findPlates 74 = .ok (.aload_n 0, 1) := by decide +kernel
theorem dX11_findPlates_75 : decode cX11_findPlates 75 = .ok (.getfield 83, 3) := by decide +kernel
theorem dX11_findPlates_78 : decode cX11_findPlates 78 = .ok (.iload 5, 2) := by decide +kernel
theorem dX11_findPlates_80 : decode cX11_findPlates 80 = .ok (.aload_n 0, 1) := by decide +kernel
theorem dX11_findPlates_81 : decode cX11_findPlates 81 = .ok (.getfield 83, 3) := by decide +kernel
theorem dX11_findPlates_84 : decode cX11_findPlates 84 = .ok (.iload 5, 2) := by decide +kernel
theorem dX11_findPlates_86 : decode cX11_findPlates 86 = .ok (.iload_n 2, 1) := by decide +kernel
theorem dX11_findPlates_87 : decode cX11_findPlates 87 = .ok (.isub, 1) := by decide +kernel
theorem dX11_findPlates_88 : decode cX11_findPlates 88 = .ok (.iaload, 1) := by decide +kernel
theorem dX11_findPlates_89 : decode cX11_findPlates 89 = .ok (.iastore, 1) := by decide +kernel
theorem dX11_findPlates_90 : decode cX11_findPlates 90 = .ok (.iload 5, 2) := by decide +kernel
theorem dX11_findPlates_92 : decode cX11_findPlates 92 = .ok (.iload_n 2, 1) := by decide +kernel
theorem dX11_findPlates_93 : decode cX11_findPlates 93 = .ok (.isub, 1) := by decide +kernel
theorem dX11_findPlates_94 : decode cX11_findPlates 94 = .ok (.istore 5, 2) := by decide +kernel
theorem dX11_findPlates_96 : decode cX11_findPlates 96 = .ok (.goto (-53), 3) := by decide +kernel
theorem dX11_findPlates_99 : decode cX11_findPlates 99 = .ok (.aload_n 0, 1) := by decide +kernel
theorem dX11_findPlates_100 : decode cX11_findPlates 100 = .ok (.getfield 83, 3) := by decide +kernel
theorem dX11_findPlates_103 : decode cX11_findPlates 103 = .ok (.iload 5, 2) := by decide +kernel
theorem dX11_findPlates_105 : decode cX11_findPlates 105 = .ok (.iload 4, 2) := by decide +kernel
theorem dX11_findPlates_107 : decode cX11_findPlates 107 = .ok (.iastore, 1) := by decide +kernel
theorem dX11_findPlates_108 : decode cX11_findPlates 108 = .ok (.iinc 3 1, 3) := by decide +kernel
theorem dX11_findPlates_111 : decode cX11_findPlates 111 = .ok (.goto (-87), 3) := by decide +kernel
theorem dX11_findPlates_114 : decode cX11_findPlates 114 = .ok (.iload_n 2, 1) := by decide +kernel
theorem dX11_findPlates_115 : decode cX11_findPlates 115 = .ok (.iconst 3, 1) := by decide +kernel
theorem dX11_findPlates_116 : decode cX11_findPlates 116 = .ok (.idiv, 1) := by decide +kernel
theorem dX11_findPlates_117 : decode cX11_findPlates 117 = .ok (.istore_n 2, 1) := by decide +kernel
theorem dX11_findPlates_118 : decode cX11_findPlates 118 = .ok (.goto (-100), 3) := by decide +kernel
theorem dX11_findPlates_121 : decode cX11_findPlates 121 = .ok (.aload_n 0, 1) := by decide +kernel
theorem dX11_findPlates_122 : decode cX11_findPlates 122 = .ok (.iconst 0, 1) := by decide +kernel
theorem dX11_findPlates_123 : decode cX11_findPlates 123 = .ok (.putfield 270, 3) := by decide +kernel
theorem dX11_findPlates_126 : decode cX11_findPlates 126 = .ok (.iconst 0, 1) := by decide +kernel
theorem dX11_findPlates_127 : decode cX11_findPlates 127 = .ok (.istore_n 2, 1) := by decide +kernel
theorem dX11_findPlates_128 : decode cX11_findPlates 128 = .ok (.iload_n 2, 1) := by decide +kernel
theorem dX11_findPlates_129 : decode cX11_findPlates 129 = .ok (.aload_n 0, 1) := by decide +kernel
theorem dX11_findPlates_130 : decode cX11_findPlates 130 = .ok (.getfield 248, 3) := by decide +kernel
theorem dX11_findPlates_133 : decode cX11_findPlates 133 = .ok (.if_icmp .ge 66, 3) := by decide +kernel
theorem dX11_findPlates_136 : decode cX11_findPlates 136 = .ok (.iload_n 2, 1) := by decide +kernel
theorem dX11_findPlates_137 : decode cX11_findPlates 137 = .ok (.ifCond .eq 31, 3) := by decide +kernel
theorem dX11_findPlates_140 : decode cX11_findPlates 140 = .ok (.aload_n 0, 1) := by decide +kernel
theorem dX11_findPlates_141 : decode cX11_findPlates 141 = .ok (.getfield 58, 3) := by decide +kernel
theorem dX11_findPlates_144 : decode cX11_findPlates 144 = .ok (.aload_n 0, 1) := by decide +kernel
theorem dX11_findPlates_145 : decode cX11_findPlates 145 = .ok (.getfield 83, 3) := by decide +kernel
theorem dX11_findPlates_148 : decode cX11_findPlates 148 = .ok (.iload_n 2, 1) := by decide +kernel
theorem dX11_findPlates_149 : decode cX11_findPlates 149 = .ok (.iaload, 1) := by decide +kernel
theorem dX11_findPlates_150 : decode cX11_findPlates 150 = .ok (.laload, 1) := by decide +kernel
theorem dX11_findPlates_151 : decode cX11_findPlates 151 = .ok (.aload_n 0, 1) := by decide +kernel
theorem dX11_findPlates_152 : decode cX11_findPlates 152 = .ok (.getfield 58, 3) := by decide +kernel
theorem dX11_findPlates_155 : decode cX11_findPlates 155 = .ok (.aload_n 0, 1) := by decide +kernel
theorem dX11_findPlates_156 : decode cX11_findPlates 156 = .ok (.getfield 83, 3) := by decide +kernel
theorem dX11_findPlates_159 : decode cX11_findPlates 159 = .ok (.iload_n 2, 1) := by decide +kernel
theorem dX11_findPlates_160 : decode cX11_findPlates 160 = .ok (.iconst 1, 1) := by decide +kernel
theorem dX11_findPlates_161 : decode cX11_findPlates 161 = .ok (.isub, 1) := by decide +kernel
theorem dX11_findPlates_162 : decode cX11_findPlates 162 = .ok (.iaload, 1) := by decide +kernel
theorem dX11_findPlates_163 : decode cX11_findPlates 163 = .ok (.laload, 1) := by decide +kernel
theorem dX11_findPlates_164 : decode cX11_findPlates 164 = .ok (.lcmp, 1) := by decide +kernel
theorem dX11_findPlates_165 : decode cX11_findPlates 165 = .ok (.ifCond .eq 28, 3) := by decide +kernel
theorem dX11_findPlates_168 : decode cX11_findPlates 168 = .ok (.aload_n 0, 1) := by decide +kernel
theorem dX11_findPlates_169 : decode cX11_findPlates 169 = .ok (.getfield 86, 3) := by decide +kernel
theorem dX11_findPlates_172 : decode cX11_findPlates 172 = .ok (.aload_n 0, 1) := by decide +kernel
theorem dX11_findPlates_173 : decode cX11_findPlates 173 = .ok (.getfield 270, 3) := by decide +kernel
theorem dX11_findPlates_176 : decode cX11_findPlates 176 = .ok (.aload_n 0, 1) := by decide +kernel
theorem dX11_findPlates_177 : decode cX11_findPlates 177 = .ok (.getfield 83, 3) := by decide +kernel
theorem dX11_findPlates_180 : decode cX11_findPlates 180 = .ok (.iload_n 2, 1) := by decide +kernel
theorem dX11_findPlates_181 : decode cX11_findPlates 181 = .ok (.iaload, 1) := by decide +kernel
theorem dX11_findPlates_182 : decode cX11_findPlates 182 = .ok (.iastore, 1) := by decide +kernel
theorem dX11_findPlates_183 : decode cX11_findPlates 183 = .ok (.aload_n 0, 1) := by decide +kernel
theorem dX11_findPlates_184 : decode cX11_findPlates 184 = .ok (.dup, 1) := by decide +kernel
theorem dX11_findPlates_185 : decode cX11_findPlates 185 = .ok (.getfield 270, 3) := by decide +kernel
theorem dX11_findPlates_188 : decode cX11_findPlates 188 = .ok (.iconst 1, 1) := by decide +kernel
theorem dX11_findPlates_189 : decode cX11_findPlates 189 = .ok (.iadd, 1) := by decide +kernel
theorem dX11_findPlates_190 : decode cX11_findPlates 190 = .ok (.putfield 270, 3) := by decide +kernel
theorem dX11_findPlates_193 : decode cX11_findPlates 193 = .ok (.iinc 2 1, 3) := by decide +kernel
theorem dX11_findPlates_196 : decode cX11_findPlates 196 = .ok (.goto (-68), 3) := by decide +kernel
theorem dX11_findPlates_199 : decode cX11_findPlates 199 = .ok (.return_, 1) := by decide +kernel
theorem dX11_found_0 : decode cX11_found 0 = .ok (.iload_n 1, 1) := by decide +kernel
theorem dX11_found_1 : decode cX11_found 1 = .ok (.iconst 0, 1) := by decide +kernel
theorem dX11_found_2 : decode cX11_found 2 = .ok (.aload_n 0, 1) := by decide +kernel
theorem dX11_found_3 : decode cX11_found 3 = .ok (.getfield 104, 3) := by decide +kernel
theorem dX11_found_6 : decode cX11_found 6 = .ok (.invokestatic 89, 3) := by decide +kernel
theorem dX11_found_9 : decode cX11_found 9 = .ok (.ifCond .ne 6, 3) := by decide +kernel
theorem dX11_found_12 : decode cX11_found 12 = .ok (.bipush (-102), 2) := by decide +kernel
theorem dX11_found_14 : decode cX11_found 14 = .ok (.ireturn, 1) := by decide +kernel
theorem dX11_found_15 : decode cX11_found 15 = .ok (.aload_n 0, 1) := by decide +kernel
theorem dX11_found_16 : decode cX11_found 16 = .ok (.iload_n 1, 1) := by decide +kernel
theorem dX11_found_17 : decode cX11_found 17 = .ok (.invokevirtual 273, 3) := by decide +kernel
theorem dX11_found_20 : decode cX11_found 20 = .ok (.aload_n 0, 1) := by decide +kernel
theorem dX11_found_21 : decode cX11_found 21 = .ok (.getfield 270, 3) := by decide +kernel
theorem dX11_found_24 : decode cX11_found 24 = .ok (.ireturn, 1) := by decide +kernel
theorem dX11_plate_0 : decode cX11_plate 0 = .ok (.iload_n 1, 1) := by decide +kernel
theorem dX11_plate_1 : decode cX11_plate 1 = .ok (.iconst 0, 1) := by decide +kernel
theorem dX11_plate_2 : decode cX11_plate 2 = .ok (.aload_n 0, 1) := by decide +kernel
theorem dX11_plate_3 : decode cX11_plate 3 = .ok (.getfield 104, 3) := by decide +kernel
theorem dX11_plate_6 : decode cX11_plate 6 = .ok (.invokestatic 89, 3) := by decide +kernel
theorem dX11_plate_9 : decode cX11_plate 9 = .ok (.ifCond .ne 7, 3) := by decide +kernel
theorem dX11_plate_12 : decode cX11_plate 12 = .ok (.ldc2_w 219, 3) := by decide +kernel
theorem dX11_plate_15 : decode cX11_plate 15 = .ok (.lreturn, 1) := by decide +kernel
theorem dX11_plate_16 : decode cX11_plate 16 = .ok (.aload_n 0, 1) := by decide +kernel
theorem dX11_plate_17 : decode cX11_plate 17 = .ok (.iload_n 1, 1) := by decide +kernel
theorem dX11_plate_18 : decode cX11_plate 18 = .ok (.invokevirtual 273, 3) := by decide +kernel
theorem dX11_plate_21 : decode cX11_plate 21 = .ok (.iload_n 2, 1) := by decide +kernel
theorem dX11_plate_22 : decode cX11_plate 22 = .ok (.iconst 0, 1) := by decide +kernel
theorem dX11_plate_23 : decode cX11_plate 23 = .ok (.aload_n 0, 1) := by decide +kernel
theorem dX11_plate_24 : decode cX11_plate 24 = .ok (.getfield 270, 3) := by decide +kernel
theorem dX11_plate_27 : decode cX11_plate 27 = .ok (.iconst 1, 1) := by decide +kernel
theorem dX11_plate_28 : decode cX11_plate 28 = .ok (.isub, 1) := by decide +kernel
theorem dX11_plate_29 : decode cX11_plate 29 = .ok (.invokestatic 89, 3) := by decide +kernel
theorem dX11_plate_32 : decode cX11_plate 32 = .ok (.ifCond .eq 17, 3) := by decide +kernel
theorem dX11_plate_35 : decode cX11_plate 35 = .ok (.aload_n 0, 1) := by decide +kernel
theorem dX11_plate_36 : decode cX11_plate 36 = .ok (.getfield 58, 3) := by decide +kernel
theorem dX11_plate_39 : decode cX11_plate 39 = .ok (.aload_n 0, 1) := by decide +kernel
theorem dX11_plate_40 : decode cX11_plate 40 = .ok (.getfield 86, 3) := by decide +kernel
theorem dX11_plate_43 : decode cX11_plate 43 = .ok (.iload_n 2, 1) := by decide +kernel
theorem dX11_plate_44 : decode cX11_plate 44 = .ok (.iaload, 1) := by decide +kernel
theorem dX11_plate_45 : decode cX11_plate 45 = .ok (.laload, 1) := by decide +kernel
theorem dX11_plate_46 : decode cX11_plate 46 = .ok (.goto 6, 3) := by decide +kernel
theorem dX11_plate_49 : decode cX11_plate 49 = .ok (.ldc2_w 221, 3) := by decide +kernel
theorem dX11_plate_52 : decode cX11_plate 52 = .ok (.lreturn, 1) := by decide +kernel
theorem dX11_kept_0 : decode cX11_kept 0 = .ok (.iload_n 1, 1) := by decide +kernel
theorem dX11_kept_1 : decode cX11_kept 1 = .ok (.iconst 0, 1) := by decide +kernel
theorem dX11_kept_2 : decode cX11_kept 2 = .ok (.aload_n 0, 1) := by decide +kernel
theorem dX11_kept_3 : decode cX11_kept 3 = .ok (.getfield 111, 3) := by decide +kernel
theorem dX11_kept_6 : decode cX11_kept 6 = .ok (.iconst 1, 1) := by decide +kernel
theorem dX11_kept_7 : decode cX11_kept 7 = .ok (.isub, 1) := by decide +kernel
theorem dX11_kept_8 : decode cX11_kept 8 = .ok (.invokestatic 89, 3) := by decide +kernel
theorem dX11_kept_11 : decode cX11_kept 11 = .ok (.ifCond .ne 6, 3) := by decide +kernel
theorem dX11_kept_14 : decode cX11_kept 14 = .ok (.bipush (-101), 2) := by decide +kernel
theorem dX11_kept_16 : decode cX11_kept 16 = .ok (.ireturn, 1) := by decide +kernel
theorem dX11_kept_17 : decode cX11_kept 17 = .ok (.iload_n 2, 1) := by decide +kernel
theorem dX11_kept_18 : decode cX11_kept 18 = .ok (.iconst 0, 1) := by decide +kernel
theorem dX11_kept_19 : decode cX11_kept 19 = .ok (.aload_n 0, 1) := by decide +kernel
theorem dX11_kept_20 : decode cX11_kept 20 = .ok (.getfield 104, 3) := by decide +kernel
theorem dX11_kept_23 : decode cX11_kept 23 = .ok (.invokestatic 89, 3) := by decide +kernel
theorem dX11_kept_26 : decode cX11_kept 26 = .ok (.ifCond .eq 12, 3) := by decide +kernel
theorem dX11_kept_29 : decode cX11_kept 29 = .ok (.iload_n 3, 1) := by decide +kernel
theorem dX11_kept_30 : decode cX11_kept 30 = .ok (.iconst 0, 1) := by decide +kernel
theorem dX11_kept_31 : decode cX11_kept 31 = .ok (.iconst 1, 1) := by decide +kernel
theorem dX11_kept_32 : decode cX11_kept 32 = .ok (.invokestatic 89, 3) := by decide +kernel
theorem dX11_kept_35 : decode cX11_kept 35 = .ok (.ifCond .ne 6, 3) := by decide +kernel
theorem dX11_kept_38 : decode cX11_kept 38 = .ok (.bipush (-102), 2) := by decide +kernel
theorem dX11_kept_40 : decode cX11_kept 40 = .ok (.ireturn, 1) := by decide +kernel
theorem dX11_kept_41 : decode cX11_kept 41 = .ok (.aload_n 0, 1) := by decide +kernel
theorem dX11_kept_42 : decode cX11_kept 42 = .ok (.iload_n 2, 1) := by decide +kernel
theorem dX11_kept_43 : decode cX11_kept 43 = .ok (.invokevirtual 273, 3) := by decide +kernel
theorem dX11_kept_46 : decode cX11_kept 46 = .ok (.iconst 0, 1) := by decide +kernel
theorem dX11_kept_47 : decode cX11_kept 47 = .ok (.istore 4, 2) := by decide +kernel
theorem dX11_kept_49 : decode cX11_kept 49 = .ok (.iconst 0, 1) := by decide +kernel
theorem dX11_kept_50 : decode cX11_kept 50 = .ok (.istore 5, 2) := by decide +kernel
theorem dX11_kept_52 : decode cX11_kept 52 = .ok (.iload 5, 2) := by decide +kernel
theorem dX11_kept_54 : decode cX11_kept 54 = .ok (.aload_n 0, 1) := by decide +kernel
theorem dX11_kept_55 : decode cX11_kept 55 = .ok (.getfield 270, 3) := by decide +kernel
theorem dX11_kept_58 : decode cX11_kept 58 = .ok (.if_icmp .ge 53, 3) := by decide +kernel
theorem dX11_kept_61 : decode cX11_kept 61 = .ok (.iload_n 3, 1) := by decide +kernel
theorem dX11_kept_62 : decode cX11_kept 62 = .ok (.ifCond .ne 18, 3) := by decide +kernel
theorem dX11_kept_65 : decode cX11_kept 65 = .ok (.aload_n 0, 1) := by decide +kernel
theorem dX11_kept_66 : decode cX11_kept 66 = .ok (.getfield 65, 3) := by decide +kernel
theorem dX11_kept_69 : decode cX11_kept 69 = .ok (.aload_n 0, 1) := by decide +kernel
theorem dX11_kept_70 : decode cX11_kept 70 = .ok (.getfield 86, 3) := by decide +kernel
theorem dX11_kept_73 : decode cX11_kept 73 = .ok (.iload 5, 2) := by decide +kernel
theorem dX11_kept_75 : decode cX11_kept 75 = .ok (.iaload, 1) := by decide +kernel
theorem dX11_kept_76 : decode cX11_kept 76 = .ok (.iaload, 1) := by decide +kernel
theorem dX11_kept_77 : decode cX11_kept 77 = .ok (.goto 15, 3) := by decide +kernel
theorem dX11_kept_80 : decode cX11_kept 80 = .ok (.aload_n 0, 1) := by decide +kernel
theorem dX11_kept_81 : decode cX11_kept 81 = .ok (.getfield 68, 3) := by decide +kernel
theorem dX11_kept_84 : decode cX11_kept 84 = .ok (.aload_n 0, 1) := by decide +kernel
theorem dX11_kept_85 : decode cX11_kept 85 = .ok (.getfield 86, 3) := by decide +kernel
theorem dX11_kept_88 : decode cX11_kept 88 = .ok (.iload 5, 2) := by decide +kernel
theorem dX11_kept_90 : decode cX11_kept 90 = .ok (.iaload, 1) := by decide +kernel
theorem dX11_kept_91 : decode cX11_kept 91 = .ok (.iaload, 1) := by decide +kernel
theorem dX11_kept_92 : decode cX11_kept 92 = .ok (.istore 6, 2) := by decide +kernel
theorem dX11_kept_94 : decode cX11_kept 94 = .ok (.iload 4, 2) := by decide +kernel
theorem dX11_kept_96 : decode cX11_kept 96 = .ok (.iload 6, 2) := by decide +kernel
theorem dX11_kept_98 : decode cX11_kept 98 = .ok (.iload_n 1, 1) := by decide +kernel
theorem dX11_kept_99 : decode cX11_kept 99 = .ok (.ishr, 1) := by decide +kernel
theorem dX11_kept_100 : decode cX11_kept 100 = .ok (.iconst 1, 1) := by decide +kernel
theorem dX11_kept_101 : decode cX11_kept 101 = .ok (.iand, 1) := by decide +kernel
theorem dX11_kept_102 : decode cX11_kept 102 = .ok (.iadd, 1) := by decide +kernel
theorem dX11_kept_103 : decode cX11_kept 103 = .ok (.istore 4, 2) := by decide +kernel
theorem dX11_kept_105 : decode cX11_kept 105 = .ok (.iinc 5 1, 3) := by decide +kernel
theorem dX11_kept_108 : decode cX11_kept 108 = .ok (.goto (-56), 3) := by decide +kernel
theorem dX11_kept_111 : decode cX11_kept 111 = .ok (.iload 4, 2) := by decide +kernel
theorem dX11_kept_113 : decode cX11_kept 113 = .ok (.ireturn, 1) := by decide +kernel
theorem dX11_broken_0 : decode cX11_broken 0 = .ok (.iload_n 1, 1) := by decide +kernel
theorem dX11_broken_1 : decode cX11_broken 1 = .ok (.iconst 0, 1) := by decide +kernel
theorem dX11_broken_2 : decode cX11_broken 2 = .ok (.aload_n 0, 1) := by decide +kernel
theorem dX11_broken_3 : decode cX11_broken 3 = .ok (.getfield 104, 3) := by decide +kernel
theorem dX11_broken_6 : decode cX11_broken 6 = .ok (.invokestatic 89, 3) := by decide +kernel
theorem dX11_broken_9 : decode cX11_broken 9 = .ok (.ifCond .ne 6, 3) := by decide +kernel
theorem dX11_broken_12 : decode cX11_broken 12 = .ok (.bipush (-102), 2) := by decide +kernel
theorem dX11_broken_14 : decode cX11_broken 14 = .ok (.ireturn, 1) := by decide +kernel
theorem dX11_broken_15 : decode cX11_broken 15 = .ok (.aload_n 0, 1) := by decide +kernel
theorem dX11_broken_16 : decode cX11_broken 16 = .ok (.iload_n 1, 1) := by decide +kernel
theorem dX11_broken_17 : decode cX11_broken 17 = .ok (.invokevirtual 273, 3) := by decide +kernel
theorem dX11_broken_20 : decode cX11_broken 20 = .ok (.aload_n 0, 1) := by decide +kernel
theorem dX11_broken_21 : decode cX11_broken 21 = .ok (.iload_n 1, 1) := by decide +kernel
theorem dX11_broken_22 : decode cX11_broken 22 = .ok (.invokevirtual 254, 3) := by decide +kernel
theorem dX11_broken_25 : decode cX11_broken 25 = .ok (.istore_n 2, 1) := by decide +kernel
theorem dX11_broken_26 : decode cX11_broken 26 = .ok (.iconst 0, 1) := by decide +kernel
theorem dX11_broken_27 : decode cX11_broken 27 = .ok (.istore_n 3, 1) := by decide +kernel
theorem dX11_broken_28 : decode cX11_broken 28 = .ok (.iconst 0, 1) := by decide +kernel
theorem dX11_broken_29 : decode cX11_broken 29 = .ok (.istore 4, 2) := by decide +kernel
theorem dX11_broken_31 : decode cX11_broken 31 = .ok (.iload 4, 2) := by decide +kernel
theorem dX11_broken_33 : decode cX11_broken 33 = .ok (.aload_n 0, 1) := by decide +kernel
theorem dX11_broken_34 : decode cX11_broken 34 = .ok (.getfield 270, 3) := by decide +kernel
theorem dX11_broken_37 : decode cX11_broken 37 = .ok (.if_icmp .ge 32, 3) := by decide +kernel
theorem dX11_broken_40 : decode cX11_broken 40 = .ok (.iload_n 3, 1) := by decide +kernel
theorem dX11_broken_41 : decode cX11_broken 41 = .ok (.aload_n 0, 1) := by decide +kernel
theorem dX11_broken_42 : decode cX11_broken 42 = .ok (.aload_n 0, 1) := by decide +kernel
theorem dX11_broken_43 : decode cX11_broken 43 = .ok (.getfield 86, 3) := by decide +kernel
theorem dX11_broken_46 : decode cX11_broken 46 = .ok (.iload 4, 2) := by decide +kernel
theorem dX11_broken_48 : decode cX11_broken 48 = .ok (.iaload, 1) := by decide +kernel
theorem dX11_broken_49 : decode cX11_broken 49 = .ok (.iload_n 2, 1) := by decide +kernel
theorem dX11_broken_50 : decode cX11_broken 50 = .ok (.invokevirtual 260, 3) := by decide +kernel
theorem dX11_broken_53 : decode cX11_broken 53 = .ok (.ifCond .eq 7, 3) := by decide +kernel
theorem dX11_broken_56 : decode cX11_broken 56 = .ok (.iconst 1, 1) := by decide +kernel
theorem dX11_broken_57 : decode cX11_broken 57 = .ok (.goto 4, 3) := by decide +kernel
theorem dX11_broken_60 : decode cX11_broken 60 = .ok (.iconst 0, 1) := by decide +kernel
theorem dX11_broken_61 : decode cX11_broken 61 = .ok (.iadd, 1) := by decide +kernel
theorem dX11_broken_62 : decode cX11_broken 62 = .ok (.istore_n 3, 1) := by decide +kernel
theorem dX11_broken_63 : decode cX11_broken 63 = .ok (.iinc 4 1, 3) := by decide +kernel
theorem dX11_broken_66 : decode cX11_broken 66 = .ok (.goto (-35), 3) := by decide +kernel
theorem dX11_broken_69 : decode cX11_broken 69 = .ok (.iload_n 3, 1) := by decide +kernel
theorem dX11_broken_70 : decode cX11_broken 70 = .ok (.ireturn, 1) := by decide +kernel
theorem dX11_bounds_0 : decode cX11_bounds 0 = .ok (.iload_n 1, 1) := by decide +kernel
theorem dX11_bounds_1 : decode cX11_bounds 1 = .ok (.invokestatic 93, 3) := by decide +kernel
theorem dX11_bounds_4 : decode cX11_bounds 4 = .ok (.ifCond .ne 6, 3) := by decide +kernel
theorem dX11_bounds_7 : decode cX11_bounds 7 = .ok (.bipush (-101), 2) := by decide +kernel
theorem dX11_bounds_9 : decode cX11_bounds 9 = .ok (.ireturn, 1) := by decide +kernel
theorem dX11_bounds_10 : decode cX11_bounds 10 = .ok (.iload_n 2, 1) := by decide +kernel
theorem dX11_bounds_11 : decode cX11_bounds 11 = .ok (.iconst 0, 1) := by decide +kernel
theorem dX11_bounds_12 : decode cX11_bounds 12 = .ok (.aload_n 0, 1) := by decide +kernel
theorem dX11_bounds_13 : decode cX11_bounds 13 = .ok (.getfield 104, 3) := by decide +kernel
theorem dX11_bounds_16 : decode cX11_bounds 16 = .ok (.invokestatic 89, 3) := by decide +kernel
theorem dX11_bounds_19 : decode cX11_bounds 19 = .ok (.ifCond .eq 12, 3) := by decide +kernel
theorem dX11_bounds_22 : decode cX11_bounds 22 = .ok (.iload_n 3, 1) := by decide +kernel
theorem dX11_bounds_23 : decode cX11_bounds 23 = .ok (.iconst 0, 1) := by decide +kernel
theorem dX11_bounds_24 : decode cX11_bounds 24 = .ok (.iconst 1, 1) := by decide +kernel
theorem dX11_bounds_25 : decode cX11_bounds 25 = .ok (.invokestatic 89, 3) := by decide +kernel
theorem dX11_bounds_28 : decode cX11_bounds 28 = .ok (.ifCond .ne 6, 3) := by decide +kernel
theorem dX11_bounds_31 : decode cX11_bounds 31 = .ok (.bipush (-102), 2) := by decide +kernel
theorem dX11_bounds_33 : decode cX11_bounds 33 = .ok (.ireturn, 1) := by decide +kernel
theorem dX11_bounds_34 : decode cX11_bounds 34 = .ok (.aload_n 0, 1) := by decide +kernel
theorem dX11_bounds_35 : decode cX11_bounds 35 = .ok (.iload_n 2, 1) := by decide +kernel
theorem dX11_bounds_36 : decode cX11_bounds 36 = .ok (.invokevirtual 273, 3) := by decide +kernel
theorem dX11_bounds_39 : decode cX11_bounds 39 = .ok (.iconst (-1), 1) := by decide +kernel
theorem dX11_bounds_40 : decode cX11_bounds 40 = .ok (.istore 4, 2) := by decide +kernel
theorem dX11_bounds_42 : decode cX11_bounds 42 = .ok (.iconst 0, 1) := by decide +kernel
theorem dX11_bounds_43 : decode cX11_bounds 43 = .ok (.istore 5, 2) := by decide +kernel
theorem dX11_bounds_45 : decode cX11_bounds 45 = .ok (.iload 5, 2) := by decide +kernel
theorem dX11_bounds_47 : decode cX11_bounds 47 = .ok (.aload_n 0, 1) := by decide +kernel
theorem dX11_bounds_48 : decode cX11_bounds 48 = .ok (.getfield 270, 3) := by decide +kernel
theorem dX11_bounds_51 : decode cX11_bounds 51 = .ok (.if_icmp .ge 85, 3) := by decide +kernel
theorem dX11_bounds_54 : decode cX11_bounds 54 = .ok (.aload_n 0, 1) := by decide +kernel
theorem dX11_bounds_55 : decode cX11_bounds 55 = .ok (.aload_n 0, 1) := by decide +kernel
theorem dX11_bounds_56 : decode cX11_bounds 56 = .ok (.getfield 58, 3) := by decide +kernel
theorem dX11_bounds_59 : decode cX11_bounds 59 = .ok (.aload_n 0, 1) := by decide +kernel
theorem dX11_bounds_60 : decode cX11_bounds 60 = .ok (.getfield 86, 3) := by decide +kernel
theorem dX11_bounds_63 : decode cX11_bounds 63 = .ok (.iload 5, 2) := by decide +kernel
theorem dX11_bounds_65 : decode cX11_bounds 65 = .ok (.iaload, 1) := by decide +kernel
theorem dX11_bounds_66 : decode cX11_bounds 66 = .ok (.laload, 1) := by decide +kernel
theorem dX11_bounds_67 : decode cX11_bounds 67 = .ok (.invokevirtual 195, 3) := by decide +kernel
theorem dX11_bounds_70 : decode cX11_bounds 70 = .ok (.iload 4, 2) := by decide +kernel
theorem dX11_bounds_72 : decode cX11_bounds 72 = .ok (.iconst (-1), 1) := by decide +kernel
theorem dX11_bounds_73 : decode cX11_bounds 73 = .ok (.if_icmp .eq 32, 3) := by decide +kernel
theorem dX11_bounds_76 : decode cX11_bounds 76 = .ok (.iload_n 3, 1) := by decide +kernel
theorem dX11_bounds_77 : decode cX11_bounds 77 = .ok (.ifCond .ne 17, 3) := by decide +kernel
theorem dX11_bounds_80 : decode cX11_bounds 80 = .ok (.aload_n 0, 1) := by decide +kernel
theorem dX11_bounds_81 : decode cX11_bounds 81 = .ok (.getfield 46, 3) := by decide +kernel
theorem dX11_bounds_84 : decode cX11_bounds 84 = .ok (.iload_n 1, 1) := by decide +kernel
theorem dX11_bounds_85 : decode cX11_bounds 85 = .ok (.iaload, 1) := by decide +kernel
theorem dX11_bounds_86 : decode cX11_bounds 86 = .ok (.iload 4, 2) := by decide +kernel
theorem dX11_bounds_88 : decode cX11_bounds 88 = .ok (.if_icmp .ge 21, 3) := by decide +kernel
theorem dX11_bounds_91 : decode cX11_bounds 91 = .ok (.goto 14, 3) := by decide +kernel
theorem dX11_bounds_94 : decode cX11_bounds 94 = .ok (.aload_n 0, 1) := by decide +kernel
theorem dX11_bounds_95 : decode cX11_bounds 95 = .ok (.getfield 46, 3) := by decide +kernel
theorem dX11_bounds_98 : decode cX11_bounds 98 = .ok (.iload_n 1, 1) := by decide +kernel
theorem dX11_bounds_99 : decode cX11_bounds 99 = .ok (.iaload, 1) := by decide +kernel
theorem dX11_bounds_100 : decode cX11_bounds 100 = .ok (.iload 4, 2) := by decide +kernel
theorem dX11_bounds_102 : decode cX11_bounds 102 = .ok (.if_icmp .le 7, 3) := by decide +kernel
theorem dX11_bounds_105 : decode cX11_bounds 105 = .ok (.iconst 1, 1) := by decide +kernel
theorem dX11_bounds_106 : decode cX11_bounds 106 = .ok (.goto 4, 3) := by decide +kernel
theorem dX11_bounds_109 : decode cX11_bounds 109 = .ok (.iconst 0, 1) := by decide +kernel
theorem dX11_bounds_110 : decode cX11_bounds 110 = .ok (.istore 6, 2) := by decide +kernel
theorem dX11_bounds_112 : decode cX11_bounds 112 = .ok (.iload 6, 2) := by decide +kernel
theorem dX11_bounds_114 : decode cX11_bounds 114 = .ok (.ifCond .eq 12, 3) := by decide +kernel
theorem dX11_bounds_117 : decode cX11_bounds 117 = .ok (.aload_n 0, 1) := by decide +kernel
theorem dX11_bounds_118 : decode cX11_bounds 118 = .ok (.getfield 46, 3) := by decide +kernel
theorem dX11_bounds_121 : decode cX11_bounds 121 = .ok (.iload_n 1, 1) := by decide +kernel
theorem dX11_bounds_122 : decode cX11_bounds 122 = .ok (.iaload, 1) := by decide +kernel
theorem dX11_bounds_123 : decode cX11_bounds 123 = .ok (.goto 5, 3) := by decide +kernel
theorem dX11_bounds_126 : decode cX11_bounds 126 = .ok (.iload 4, 2) := by decide +kernel
theorem dX11_bounds_128 : decode cX11_bounds 128 = .ok (.istore 4, 2) := by decide +kernel
theorem dX11_bounds_130 : decode cX11_bounds 130 = .ok (.iinc 5 1, 3) := by decide +kernel
theorem dX11_bounds_133 : decode cX11_bounds 133 = .ok (.goto (-88), 3) := by decide +kernel
theorem dX11_bounds_136 : decode cX11_bounds 136 = .ok (.iload 4, 2) := by decide +kernel
theorem dX11_bounds_138 : decode cX11_bounds 138 = .ok (.ireturn, 1) := by decide +kernel
theorem dX11_safe_0 : decode cX11_safe 0 = .ok (.aload_n 0, 1) := by decide +kernel
theorem dX11_safe_1 : decode cX11_safe 1 = .ok (.invokevirtual 264, 3) := by decide +kernel
theorem dX11_safe_4 : decode cX11_safe 4 = .ok (.aload_n 0, 1) := by decide +kernel
theorem dX11_safe_5 : decode cX11_safe 5 = .ok (.invokevirtual 267, 3) := by decide +kernel
theorem dX11_safe_8 : decode cX11_safe 8 = .ok (.aload_n 0, 1) := by decide +kernel
theorem dX11_safe_9 : decode cX11_safe 9 = .ok (.iconst 0, 1) := by decide +kernel
theorem dX11_safe_10 : decode cX11_safe 10 = .ok (.invokevirtual 276, 3) := by decide +kernel
theorem dX11_safe_13 : decode cX11_safe 13 = .ok (.ifCond .eq 7, 3) := by decide +kernel
theorem dX11_safe_16 : decode cX11_safe 16 = .ok (.iconst 1, 1) := by decide +kernel
theorem dX11_safe_17 : decode cX11_safe 17 = .ok (.goto 4, 3) := by decide +kernel
theorem dX11_safe_20 : decode cX11_safe 20 = .ok (.iconst 0, 1) := by decide +kernel
theorem dX11_safe_21 : decode cX11_safe 21 = .ok (.ireturn, 1) := by decide +kernel
theorem dX11_shortest_0 : decode cX11_shortest 0 = .ok (.iload_n 1, 1) := by decide +kernel
theorem dX11_shortest_1 : decode cX11_shortest 1 = .ok (.iconst 0, 1) := by decide +kernel
theorem dX11_shortest_2 : decode cX11_shortest 2 = .ok (.iconst 3, 1) := by decide +kernel
theorem dX11_shortest_3 : decode cX11_shortest 3 = .ok (.invokestatic 89, 3) := by decide +kernel
theorem dX11_shortest_6 : decode cX11_shortest 6 = .ok (.ifCond .ne 7, 3) := by decide +kernel
theorem dX11_shortest_9 : decode cX11_shortest 9 = .ok (.ldc2_w 219, 3) := by decide +kernel
theorem dX11_shortest_12 : decode cX11_shortest 12 = .ok (.lreturn, 1) := by decide +kernel
theorem dX11_shortest_13 : decode cX11_shortest 13 = .ok (.iconst 0, 1) := by decide +kernel
theorem dX11_shortest_14 : decode cX11_shortest 14 = .ok (.istore_n 2, 1) := by decide +kernel
theorem dX11_shortest_15 : decode cX11_shortest 15 = .ok (.iload_n 2, 1) := by decide +kernel
theorem dX11_shortest_16 : decode cX11_shortest 16 = .ok (.aload_n 0, 1) := by decide +kernel
theorem dX11_shortest_17 : decode cX11_shortest 17 = .ok (.getfield 104, 3) := by decide +kernel
theorem dX11_shortest_20 : decode cX11_shortest 20 = .ok (.if_icmp .gt 119, 3) := by decide +kernel
theorem dX11_shortest_23 : decode cX11_shortest 23 = .ok (.aload_n 0, 1) := by decide +kernel
theorem dX11_shortest_24 : decode cX11_shortest 24 = .ok (.iload_n 2, 1) := by decide +kernel
theorem dX11_shortest_25 : decode cX11_shortest 25 = .ok (.invokevirtual 273, 3) := by decide +kernel
theorem dX11_shortest_28 : decode cX11_shortest 28 = .ok (.aload_n 0, 1) := by decide +kernel
theorem dX11_shortest_29 : decode cX11_shortest 29 = .ok (.iload_n 2, 1) := by decide +kernel
theorem dX11_shortest_30 : decode cX11_shortest 30 = .ok (.invokevirtual 254, 3) := by decide +kernel
theorem dX11_shortest_33 : decode cX11_shortest 33 = .ok (.istore_n 3, 1) := by decide +kernel
theorem dX11_shortest_34 : decode cX11_shortest 34 = .ok (.iconst 0, 1) := by decide +kernel
theorem dX11_shortest_35 : decode cX11_shortest 35 = .ok (.istore 4, 2) := by decide +kernel
theorem dX11_shortest_37 : decode cX11_shortest 37 = .ok (.iload 4, 2) := by decide +kernel
theorem dX11_shortest_39 : decode cX11_shortest 39 = .ok (.aload_n 0, 1) := by decide +kernel
theorem dX11_shortest_40 : decode cX11_shortest 40 = .ok (.getfield 270, 3) := by decide +kernel
theorem dX11_shortest_43 : decode cX11_shortest 43 = .ok (.if_icmp .ge 90, 3) := by decide +kernel
theorem dX11_shortest_46 : decode cX11_shortest 46 = .ok (.aload_n 0, 1) := by decide +kernel
theorem dX11_shortest_47 : decode cX11_shortest 47 = .ok (.aload_n 0, 1) := by decide +kernel
theorem dX11_shortest_48 : decode cX11_shortest 48 = .ok (.getfield 86, 3) := by decide +kernel
theorem dX11_shortest_51 : decode cX11_shortest 51 = .ok (.iload 4, 2) := by decide +kernel
theorem dX11_shortest_53 : decode cX11_shortest 53 = .ok (.iaload, 1) := by decide +kernel
theorem dX11_shortest_54 : decode cX11_shortest 54 = .ok (.iload_n 3, 1) := by decide +kernel
theorem dX11_shortest_55 : decode cX11_shortest 55 = .ok (.invokevirtual 260, 3) := by decide +kernel
theorem dX11_shortest_58 : decode cX11_shortest 58 = .ok (.ifCond .eq 69, 3) := by decide +kernel
theorem dX11_shortest_61 : decode cX11_shortest 61 = .ok (.iload_n 1, 1) := by decide +kernel
theorem dX11_shortest_62 : decode cX11_shortest 62 = .ok (.ifCond .ne 8, 3) := by decide +kernel
theorem dX11_shortest_65 : decode cX11_shortest 65 = .ok (.iload_n 2, 1) := by decide +kernel
theorem dX11_shortest_66 : decode cX11_shortest 66 = .ok (.i2l, 1) := by decide +kernel
theorem dX11_shortest_67 : decode cX11_shortest 67 = .ok (.goto 59, 3) := by decide +kernel
theorem dX11_shortest_70 : decode cX11_shortest 70 = .ok (.iload_n 1, 1) := by decide +kernel
theorem dX11_shortest_71 : decode cX11_shortest 71 = .ok (.iconst 1, 1) := by decide +kernel
theorem dX11_shortest_72 : decode cX11_shortest 72 = .ok (.if_icmp .ne 18, 3) := by decide +kernel
theorem dX11_shortest_75 : decode cX11_shortest 75 = .ok (.aload_n 0, 1) := by decide +kernel
theorem dX11_shortest_76 : decode cX11_shortest 76 = .ok (.getfield 58, 3) := by decide +kernel
theorem dX11_shortest_79 : decode cX11_shortest 79 = .ok (.aload_n 0, 1) := by decide +kernel
theorem dX11_shortest_80 : decode cX11_shortest 80 = .ok (.getfield 86, 3) := by decide +kernel
theorem dX11_shortest_83 : decode cX11_shortest 83 = .ok (.iload 4, 2) := by decide +kernel
theorem dX11_shortest_85 : decode cX11_shortest 85 = .ok (.iaload, 1) := by decide +kernel
theorem dX11_shortest_86 : decode cX11_shortest 86 = .ok (.laload, 1) := by decide +kernel
theorem dX11_shortest_87 : decode cX11_shortest 87 = .ok (.goto 39, 3) := by decide +kernel
theorem dX11_shortest_90 : decode cX11_shortest 90 = .ok (.iload_n 1, 1) := by decide +kernel
theorem dX11_shortest_91 : decode cX11_shortest 91 = .ok (.iconst 2, 1) := by decide +kernel
theorem dX11_shortest_92 : decode cX11_shortest 92 = .ok (.if_icmp .ne 22, 3) := by decide +kernel
theorem dX11_shortest_95 : decode cX11_shortest 95 = .ok (.aload_n 0, 1) := by decide +kernel
theorem dX11_shortest_96 : decode cX11_shortest 96 = .ok (.aload_n 0, 1) := by decide +kernel
theorem dX11_shortest_97 : decode cX11_shortest 97 = .ok (.getfield 58, 3) := by decide +kernel
theorem dX11_shortest_100 : decode cX11_shortest 100 = .ok (.aload_n 0, 1) := by decide +kernel
theorem dX11_shortest_101 : decode cX11_shortest 101 = .ok (.getfield 86, 3) := by decide +kernel
theorem dX11_shortest_104 : decode cX11_shortest 104 = .ok (.iload 4, 2) := by decide +kernel
theorem dX11_shortest_106 : decode cX11_shortest 106 = .ok (.iaload, 1) := by decide +kernel
theorem dX11_shortest_107 : decode cX11_shortest 107 = .ok (.laload, 1) := by decide +kernel
theorem dX11_shortest_108 : decode cX11_shortest 108 = .ok (.invokevirtual 279, 3) := by decide +kernel
theorem dX11_shortest_111 : decode cX11_shortest 111 = .ok (.goto 15, 3) := by decide +kernel
theorem dX11_shortest_114 : decode cX11_shortest 114 = .ok (.aload_n 0, 1) := by decide +kernel
theorem dX11_shortest_115 : decode cX11_shortest 115 = .ok (.getfield 62, 3) := by decide +kernel
theorem dX11_shortest_118 : decode cX11_shortest 118 = .ok (.aload_n 0, 1) := by decide +kernel
theorem dX11_shortest_119 : decode cX11_shortest 119 = .ok (.getfield 86, 3) := by decide +kernel
theorem dX11_shortest_122 : decode cX11_shortest 122 = .ok (.iload 4, 2) := by decide +kernel
theorem dX11_shortest_124 : decode cX11_shortest 124 = .ok (.iaload, 1) := by decide +kernel
theorem dX11_shortest_125 : decode cX11_shortest 125 = .ok (.laload, 1) := by decide +kernel
theorem dX11_shortest_126 : decode cX11_shortest 126 = .ok (.lreturn, 1) := by decide +kernel
theorem dX11_shortest_127 : decode cX11_shortest 127 = .ok (.iinc 4 1, 3) := by decide +kernel
theorem dX11_shortest_130 : decode cX11_shortest 130 = .ok (.goto (-93), 3) := by decide +kernel
theorem dX11_shortest_133 : decode cX11_shortest 133 = .ok (.iinc 2 1, 3) := by decide +kernel
theorem dX11_shortest_136 : decode cX11_shortest 136 = .ok (.goto (-121), 3) := by decide +kernel
theorem dX11_shortest_139 : decode cX11_shortest 139 = .ok (.ldc2_w 221, 3) := by decide +kernel
theorem dX11_shortest_142 : decode cX11_shortest 142 = .ok (.lreturn, 1) := by decide +kernel
theorem dX11_leastSet_0 : decode cX11_leastSet 0 = .ok (.ldc2_w 221, 3) := by decide +kernel
theorem dX11_leastSet_3 : decode cX11_leastSet 3 = .ok (.lstore_n 3, 1) := by decide +kernel
theorem dX11_leastSet_4 : decode cX11_leastSet 4 = .ok (.iconst 0, 1) := by decide +kernel
theorem dX11_leastSet_5 : decode cX11_leastSet 5 = .ok (.istore 5, 2) := by decide +kernel
theorem dX11_leastSet_7 : decode cX11_leastSet 7 = .ok (.iload 5, 2) := by decide +kernel
theorem dX11_leastSet_9 : decode cX11_leastSet 9 = .ok (.aload_n 0, 1) := by decide +kernel
theorem dX11_leastSet_10 : decode cX11_leastSet 10 = .ok (.getfield 248, 3) := by decide +kernel
theorem dX11_leastSet_13 : decode cX11_leastSet 13 = .ok (.if_icmp .ge 59, 3) := by decide +kernel
theorem dX11_leastSet_16 : decode cX11_leastSet 16 = .ok (.aload_n 0, 1) := by decide +kernel
theorem dX11_leastSet_17 : decode cX11_leastSet 17 = .ok (.aload_n 0, 1) := by decide +kernel
theorem dX11_leastSet_18 : decode cX11_leastSet 18 = .ok (.getfield 83, 3) := by decide +kernel
theorem dX11_leastSet_21 : decode cX11_leastSet 21 = .ok (.iload 5, 2) := by decide +kernel
theorem dX11_leastSet_23 : decode cX11_leastSet 23 = .ok (.iaload, 1) := by decide +kernel
theorem dX11_leastSet_24 : decode cX11_leastSet 24 = .ok (.invokevirtual 229, 3) := by decide +kernel
theorem dX11_leastSet_27 : decode cX11_leastSet 27 = .ok (.istore 6, 2) := by decide +kernel
theorem dX11_leastSet_29 : decode cX11_leastSet 29 = .ok (.aload_n 0, 1) := by decide +kernel
theorem dX11_leastSet_30 : decode cX11_leastSet 30 = .ok (.getfield 58, 3) := by decide +kernel
theorem dX11_leastSet_33 : decode cX11_leastSet 33 = .ok (.aload_n 0, 1) := by decide +kernel
theorem dX11_leastSet_34 : decode cX11_leastSet 34 = .ok (.getfield 83, 3) := by decide +kernel
theorem dX11_leastSet_37 : decode cX11_leastSet 37 = .ok (.iload 5, 2) := by decide +kernel
theorem dX11_leastSet_39 : decode cX11_leastSet 39 = .ok (.iaload, 1) := by decide +kernel
theorem dX11_leastSet_40 : decode cX11_leastSet 40 = .ok (.laload, 1) := by decide +kernel
theorem dX11_leastSet_41 : decode cX11_leastSet 41 = .ok (.lload_n 1, 1) := by decide +kernel
theorem dX11_leastSet_42 : decode cX11_leastSet 42 = .ok (.lcmp, 1) := by decide +kernel
theorem dX11_leastSet_43 : decode cX11_leastSet 43 = .ok (.ifCond .ne 23, 3) := by decide +kernel
theorem dX11_leastSet_46 : decode cX11_leastSet 46 = .ok (.lload_n 3, 1) := by decide +kernel
theorem dX11_leastSet_47 : decode cX11_leastSet 47 = .ok (.ldc2_w 221, 3) := by decide +kernel
theorem dX11_leastSet_50 : decode cX11_leastSet 50 = .ok (.lcmp, 1) := by decide +kernel
theorem dX11_leastSet_51 : decode cX11_leastSet 51 = .ok (.ifCond .eq 11, 3) := by decide +kernel
theorem dX11_leastSet_54 : decode cX11_leastSet 54 = .ok (.iload 6, 2) := by decide +kernel
theorem dX11_leastSet_56 : decode cX11_leastSet 56 = .ok (.i2l, 1) := by decide +kernel
theorem dX11_leastSet_57 : decode cX11_leastSet 57 = .ok (.lload_n 3, 1) := by decide +kernel
theorem dX11_leastSet_58 : decode cX11_leastSet 58 = .ok (.lcmp, 1) := by decide +kernel
theorem dX11_leastSet_59 : decode cX11_leastSet 59 = .ok (.ifCond .ge 7, 3) := by decide +kernel
theorem dX11_leastSet_62 : decode cX11_leastSet 62 = .ok (.iload 6, 2) := by decide +kernel
theorem dX11_leastSet_64 : decode cX11_leastSet 64 = .ok (.i2l, 1) := by decide +kernel
theorem dX11_leastSet_65 : decode cX11_leastSet 65 = .ok (.lstore_n 3, 1) := by decide +kernel
theorem dX11_leastSet_66 : decode cX11_leastSet 66 = .ok (.iinc 5 1, 3) := by decide +kernel
theorem dX11_leastSet_69 : decode cX11_leastSet 69 = .ok (.goto (-62), 3) := by decide +kernel
theorem dX11_leastSet_72 : decode cX11_leastSet 72 = .ok (.lload_n 3, 1) := by decide +kernel
theorem dX11_leastSet_73 : decode cX11_leastSet 73 = .ok (.lreturn, 1) := by decide +kernel
theorem dX11_cost_0 : decode cX11_cost 0 = .ok (.iload_n 1, 1) := by decide +kernel
theorem dX11_cost_1 : decode cX11_cost 1 = .ok (.iconst 0, 1) := by decide +kernel
theorem dX11_cost_2 : decode cX11_cost 2 = .ok (.iconst 1, 1) := by decide +kernel
theorem dX11_cost_3 : decode cX11_cost 3 = .ok (.invokestatic 89, 3) := by decide +kernel
theorem dX11_cost_6 : decode cX11_cost 6 = .ok (.ifCond .ne 6, 3) := by decide +kernel
theorem dX11_cost_9 : decode cX11_cost 9 = .ok (.bipush (-101), 2) := by decide +kernel
theorem dX11_cost_11 : decode cX11_cost 11 = .ok (.ireturn, 1) := by decide +kernel
theorem dX11_cost_12 : decode cX11_cost 12 = .ok (.iload_n 2, 1) := by decide +kernel
theorem dX11_cost_13 : decode cX11_cost 13 = .ok (.iconst 1, 1) := by decide +kernel
theorem dX11_cost_14 : decode cX11_cost 14 = .ok (.iload_n 1, 1) := by decide +kernel
theorem dX11_cost_15 : decode cX11_cost 15 = .ok (.ifCond .ne 8, 3) := by decide +kernel
theorem dX11_cost_18 : decode cX11_cost 18 = .ok (.bipush 9, 2) := by decide +kernel
theorem dX11_cost_20 : decode cX11_cost 20 = .ok (.goto 5, 3) := by decide +kernel
theorem dX11_cost_23 : decode cX11_cost 23 = .ok (.bipush 99, 2) := by decide +kernel
theorem dX11_cost_25 : decode cX11_cost 25 = .ok (.invokestatic 89, 3) := by decide +kernel
theorem dX11_cost_28 : decode cX11_cost 28 = .ok (.ifCond .ne 6, 3) := by decide +kernel
theorem dX11_cost_31 : decode cX11_cost 31 = .ok (.bipush (-102), 2) := by decide +kernel
theorem dX11_cost_33 : decode cX11_cost 33 = .ok (.ireturn, 1) := by decide +kernel
theorem dX11_cost_34 : decode cX11_cost 34 = .ok (.iload_n 1, 1) := by decide +kernel
theorem dX11_cost_35 : decode cX11_cost 35 = .ok (.ifCond .ne 10, 3) := by decide +kernel
theorem dX11_cost_38 : decode cX11_cost 38 = .ok (.aload_n 0, 1) := by decide +kernel
theorem dX11_cost_39 : decode cX11_cost 39 = .ok (.getfield 39, 3) := by decide +kernel
theorem dX11_cost_42 : decode cX11_cost 42 = .ok (.goto 7, 3) := by decide +kernel
theorem dX11_cost_45 : decode cX11_cost 45 = .ok (.aload_n 0, 1) := by decide +kernel
theorem dX11_cost_46 : decode cX11_cost 46 = .ok (.getfield 43, 3) := by decide +kernel
theorem dX11_cost_49 : decode cX11_cost 49 = .ok (.istore_n 3, 1) := by decide +kernel
theorem dX11_cost_50 : decode cX11_cost 50 = .ok (.aload_n 0, 1) := by decide +kernel
theorem dX11_cost_51 : decode cX11_cost 51 = .ok (.iload_n 1, 1) := by decide +kernel
theorem dX11_cost_52 : decode cX11_cost 52 = .ok (.ifCond .ne 7, 3) := by decide +kernel
theorem dX11_cost_55 : decode cX11_cost 55 = .ok (.iload_n 2, 1) := by decide +kernel
theorem dX11_cost_56 : decode cX11_cost 56 = .ok (.goto 7, 3) := by decide +kernel
theorem dX11_cost_59 : decode cX11_cost 59 = .ok (.aload_n 0, 1) := by decide +kernel
theorem dX11_cost_60 : decode cX11_cost 60 = .ok (.getfield 39, 3) := by decide +kernel
theorem dX11_cost_63 : decode cX11_cost 63 = .ok (.putfield 39, 3) := by decide +kernel
theorem dX11_cost_66 : decode cX11_cost 66 = .ok (.aload_n 0, 1) := by decide +kernel
theorem dX11_cost_67 : decode cX11_cost 67 = .ok (.iload_n 1, 1) := by decide +kernel
theorem dX11_cost_68 : decode cX11_cost 68 = .ok (.iconst 1, 1) := by decide +kernel
theorem dX11_cost_69 : decode cX11_cost 69 = .ok (.if_icmp .ne 7, 3) := by decide +kernel
theorem dX11_cost_72 : decode cX11_cost 72 = .ok (.iload_n 2, 1) := by decide +kernel
theorem dX11_cost_73 : decode cX11_cost 73 = .ok (.goto 7, 3) := by decide +kernel
theorem dX11_cost_76 : decode cX11_cost 76 = .ok (.aload_n 0, 1) := by decide +kernel
theorem dX11_cost_77 : decode cX11_cost 77 = .ok (.getfield 43, 3) := by decide +kernel
theorem dX11_cost_80 : decode cX11_cost 80 = .ok (.putfield 43, 3) := by decide +kernel
theorem dX11_cost_83 : decode cX11_cost 83 = .ok (.iload_n 3, 1) := by decide +kernel
theorem dX11_cost_84 : decode cX11_cost 84 = .ok (.ireturn, 1) := by decide +kernel
theorem dX11_putBy_0 : decode cX11_putBy 0 = .ok (.iload_n 1, 1) := by decide +kernel
theorem dX11_putBy_1 : decode cX11_putBy 1 = .ok (.istore_n 2, 1) := by decide +kernel
theorem dX11_putBy_2 : decode cX11_putBy 2 = .ok (.aload_n 0, 1) := by decide +kernel
theorem dX11_putBy_3 : decode cX11_putBy 3 = .ok (.invokevirtual 267, 3) := by decide +kernel
theorem dX11_putBy_6 : decode cX11_putBy 6 = .ok (.aload_n 0, 1) := by decide +kernel
theorem dX11_putBy_7 : decode cX11_putBy 7 = .ok (.getfield 104, 3) := by decide +kernel
theorem dX11_putBy_10 : decode cX11_putBy 10 = .ok (.iconst 2, 1) := by decide +kernel
theorem dX11_putBy_11 : decode cX11_putBy 11 = .ok (.isub, 1) := by decide +kernel
theorem dX11_putBy_12 : decode cX11_putBy 12 = .ok (.istore_n 3, 1) := by decide +kernel
theorem dX11_putBy_13 : decode cX11_putBy 13 = .ok (.iload_n 3, 1) := by decide +kernel
theorem dX11_putBy_14 : decode cX11_putBy 14 = .ok (.ifCond .lt 22, 3) := by decide +kernel
theorem dX11_putBy_17 : decode cX11_putBy 17 = .ok (.aload_n 0, 1) := by decide +kernel
theorem dX11_putBy_18 : decode cX11_putBy 18 = .ok (.getfield 77, 3) := by decide +kernel
theorem dX11_putBy_21 : decode cX11_putBy 21 = .ok (.iload_n 3, 1) := by decide +kernel
theorem dX11_putBy_22 : decode cX11_putBy 22 = .ok (.iload_n 2, 1) := by decide +kernel
theorem dX11_putBy_23 : decode cX11_putBy 23 = .ok (.iconst 3, 1) := by decide +kernel
theorem dX11_putBy_24 : decode cX11_putBy 24 = .ok (.irem, 1) := by decide +kernel
theorem dX11_putBy_25 : decode cX11_putBy 25 = .ok (.iastore, 1) := by decide +kernel
theorem dX11_putBy_26 : decode cX11_putBy 26 = .ok (.iload_n 2, 1) := by decide +kernel
theorem dX11_putBy_27 : decode cX11_putBy 27 = .ok (.iconst 3, 1) := by decide +kernel
theorem dX11_putBy_28 : decode cX11_putBy 28 = .ok (.idiv, 1) := by decide +kernel
theorem dX11_putBy_29 : decode cX11_putBy 29 = .ok (.istore_n 2, 1) := by decide +kernel
theorem dX11_putBy_30 : decode cX11_putBy 30 = .ok (.iinc 3 (-1), 3) := by decide +kernel
theorem dX11_putBy_33 : decode cX11_putBy 33 = .ok (.goto (-20), 3) := by decide +kernel
theorem dX11_putBy_36 : decode cX11_putBy 36 = .ok (.return_, 1) := by decide +kernel
theorem dX11_fewest_0 : decode cX11_fewest 0 = .ok (.iload_n 1, 1) := by decide +kernel
theorem dX11_fewest_1 : decode cX11_fewest 1 = .ok (.iconst 0, 1) := by decide +kernel
theorem dX11_fewest_2 : decode cX11_fewest 2 = .ok (.iconst 1, 1) := by decide +kernel
theorem dX11_fewest_3 : decode cX11_fewest 3 = .ok (.invokestatic 89, 3) := by decide +kernel
theorem dX11_fewest_6 : decode cX11_fewest 6 = .ok (.ifCond .ne 17, 3) := by decide +kernel
theorem dX11_fewest_9 : decode cX11_fewest 9 = .ok (.iload_n 1, 1) := by decide +kernel
theorem dX11_fewest_10 : decode cX11_fewest 10 = .ok (.bipush 10, 2) := by decide +kernel
theorem dX11_fewest_12 : decode cX11_fewest 12 = .ok (.bipush 16, 2) := by decide +kernel
theorem dX11_fewest_14 : decode cX11_fewest 14 = .ok (.invokestatic 89, 3) := by decide +kernel
theorem dX11_fewest_17 : decode cX11_fewest 17 = .ok (.ifCond .ne 6, 3) := by decide +kernel
theorem dX11_fewest_20 : decode cX11_fewest 20 = .ok (.bipush (-102), 2) := by decide +kernel
theorem dX11_fewest_22 : decode cX11_fewest 22 = .ok (.ireturn, 1) := by decide +kernel
theorem dX11_fewest_23 : decode cX11_fewest 23 = .ok (.aload_n 0, 1) := by decide +kernel
theorem dX11_fewest_24 : decode cX11_fewest 24 = .ok (.getfield 104, 3) := by decide +kernel
theorem dX11_fewest_27 : decode cX11_fewest 27 = .ok (.bipush 8, 2) := by decide +kernel
theorem dX11_fewest_29 : decode cX11_fewest 29 = .ok (.if_icmp .gt 12, 3) := by decide +kernel
theorem dX11_fewest_32 : decode cX11_fewest 32 = .ok (.aload_n 0, 1) := by decide +kernel
theorem dX11_fewest_33 : decode cX11_fewest 33 = .ok (.getfield 282, 3) := by decide +kernel
theorem dX11_fewest_36 : decode cX11_fewest 36 = .ok (.bipush 12, 2) := by decide +kernel
theorem dX11_fewest_38 : decode cX11_fewest 38 = .ok (.if_icmp .ne 6, 3) := by decide +kernel
theorem dX11_fewest_41 : decode cX11_fewest 41 = .ok (.bipush (-103), 2) := by decide +kernel
theorem dX11_fewest_43 : decode cX11_fewest 43 = .ok (.ireturn, 1) := by decide +kernel
theorem dX11_fewest_44 : decode cX11_fewest 44 = .ok (.aload_n 0, 1) := by decide +kernel
theorem dX11_fewest_45 : decode cX11_fewest 45 = .ok (.dup, 1) := by decide +kernel
theorem dX11_fewest_46 : decode cX11_fewest 46 = .ok (.getfield 282, 3) := by decide +kernel
theorem dX11_fewest_49 : decode cX11_fewest 49 = .ok (.iconst 1, 1) := by decide +kernel
theorem dX11_fewest_50 : decode cX11_fewest 50 = .ok (.iadd, 1) := by decide +kernel
theorem dX11_fewest_51 : decode cX11_fewest 51 = .ok (.putfield 282, 3) := by decide +kernel
theorem dX11_fewest_54 : decode cX11_fewest 54 = .ok (.aload_n 0, 1) := by decide +kernel
theorem dX11_fewest_55 : decode cX11_fewest 55 = .ok (.invokevirtual 264, 3) := by decide +kernel
theorem dX11_fewest_58 : decode cX11_fewest 58 = .ok (.iconst 1, 1) := by decide +kernel
theorem dX11_fewest_59 : decode cX11_fewest 59 = .ok (.istore_n 2, 1) := by decide +kernel
theorem dX11_fewest_60 : decode cX11_fewest 60 = .ok (.iconst 0, 1) := by decide +kernel
theorem dX11_fewest_61 : decode cX11_fewest 61 = .ok (.istore_n 3, 1) := by decide +kernel
theorem dX11_fewest_62 : decode cX11_fewest 62 = .ok (.iload_n 3, 1) := by decide +kernel
theorem dX11_fewest_63 : decode cX11_fewest 63 = .ok (.aload_n 0, 1) := by decide +kernel
theorem dX11_fewest_64 : decode cX11_fewest 64 = .ok (.getfield 104, 3) := by decide +kernel
theorem dX11_fewest_67 : decode cX11_fewest 67 = .ok (.iconst 1, 1) := by decide +kernel
theorem dX11_fewest_68 : decode cX11_fewest 68 = .ok (.isub, 1) := by decide +kernel
theorem dX11_fewest_69 : decode cX11_fewest 69 = .ok (.if_icmp .ge 13, 3) := by decide +kernel
theorem dX11_fewest_72 : decode cX11_fewest 72 = .ok (.iload_n 2, 1) := by decide +kernel
theorem dX11_fewest_73 : decode cX11_fewest 73 = .ok (.iconst 3, 1) := by decide +kernel
theorem dX11_fewest_74 : decode cX11_fewest 74 = .ok (.imul, 1) := by decide +kernel
theorem dX11_fewest_75 : decode cX11_fewest 75 = .ok (.istore_n 2, 1) := by decide +kernel
theorem dX11_fewest_76 : decode cX11_fewest 76 = .ok (.iinc 3 1, 3) := by decide +kernel
theorem dX11_fewest_79 : decode cX11_fewest 79 = .ok (.goto (-17), 3) := by decide +kernel
theorem dX11_fewest_82 : decode cX11_fewest 82 = .ok (.iconst (-1), 1) := by decide +kernel
theorem dX11_fewest_83 : decode cX11_fewest 83 = .ok (.istore_n 3, 1) := by decide +kernel
theorem dX11_fewest_84 : decode cX11_fewest 84 = .ok (.iconst 0, 1) := by decide +kernel
theorem dX11_fewest_85 : decode cX11_fewest 85 = .ok (.istore 4, 2) := by decide +kernel
theorem dX11_fewest_87 : decode cX11_fewest 87 = .ok (.iconst 0, 1) := by decide +kernel
theorem dX11_fewest_88 : decode cX11_fewest 88 = .ok (.istore 5, 2) := by decide +kernel
theorem dX11_fewest_90 : decode cX11_fewest 90 = .ok (.iconst 0, 1) := by decide +kernel
theorem dX11_fewest_91 : decode cX11_fewest 91 = .ok (.istore 6, 2) := by decide +kernel
theorem dX11_fewest_93 : decode cX11_fewest 93 = .ok (.iload 6, 2) := by decide +kernel
theorem dX11_fewest_95 : decode cX11_fewest 95 = .ok (.iload_n 2, 1) := by decide +kernel
theorem dX11_fewest_96 : decode cX11_fewest 96 = .ok (.if_icmp .ge 160, 3) := by decide +kernel
theorem dX11_fewest_99 : decode cX11_fewest 99 = .ok (.aload_n 0, 1) := by decide +kernel
theorem dX11_fewest_100 : decode cX11_fewest 100 = .ok (.iload 6, 2) := by decide +kernel
theorem dX11_fewest_102 : decode cX11_fewest 102 = .ok (.invokevirtual 285, 3) := by decide +kernel
theorem dX11_fewest_105 : decode cX11_fewest 105 = .ok (.iconst 0, 1) := by decide +kernel
theorem dX11_fewest_106 : decode cX11_fewest 106 = .ok (.istore 7, 2) := by decide +kernel
theorem dX11_fewest_108 : decode cX11_fewest 108 = .ok (.iconst 0, 1) := by decide +kernel
theorem dX11_fewest_109 : decode cX11_fewest 109 = .ok (.istore 8, 2) := by decide +kernel
theorem dX11_fewest_111 : decode cX11_fewest 111 = .ok (.iconst 0, 1) := by decide +kernel
theorem dX11_fewest_112 : decode cX11_fewest 112 = .ok (.istore 9, 2) := by decide +kernel
theorem dX11_fewest_114 : decode cX11_fewest 114 = .ok (.iload 9, 2) := by decide +kernel
theorem dX11_fewest_116 : decode cX11_fewest 116 = .ok (.aload_n 0, 1) := by decide +kernel
theorem dX11_fewest_117 : decode cX11_fewest 117 = .ok (.getfield 104, 3) := by decide +kernel
theorem dX11_fewest_120 : decode cX11_fewest 120 = .ok (.iconst 1, 1) := by decide +kernel
theorem dX11_fewest_121 : decode cX11_fewest 121 = .ok (.isub, 1) := by decide +kernel
theorem dX11_fewest_122 : decode cX11_fewest 122 = .ok (.if_icmp .ge 71, 3) := by decide +kernel
theorem dX11_fewest_125 : decode cX11_fewest 125 = .ok (.iload 7, 2) := by decide +kernel
theorem dX11_fewest_127 : decode cX11_fewest 127 = .ok (.aload_n 0, 1) := by decide +kernel
theorem dX11_fewest_128 : decode cX11_fewest 128 = .ok (.getfield 77, 3) := by decide +kernel
theorem dX11_fewest_131 : decode cX11_fewest 131 = .ok (.iload 9, 2) := by decide +kernel
theorem dX11_fewest_133 : decode cX11_fewest 133 = .ok (.iaload, 1) := by decide +kernel
theorem dX11_fewest_134 : decode cX11_fewest 134 = .ok (.iconst 1, 1) := by decide +kernel
theorem dX11_fewest_135 : decode cX11_fewest 135 = .ok (.if_icmp .ne 10, 3) := by decide +kernel
theorem dX11_fewest_138 : decode cX11_fewest 138 = .ok (.aload_n 0, 1) := by decide +kernel
theorem dX11_fewest_139 : decode cX11_fewest 139 = .ok (.getfield 39, 3) := by decide +kernel
theorem dX11_fewest_142 : decode cX11_fewest 142 = .ok (.goto 22, 3) := by decide +kernel
theorem dX11_fewest_145 : decode cX11_fewest 145 = .ok (.aload_n 0, 1) := by decide +kernel
theorem dX11_fewest_146 : decode cX11_fewest 146 = .ok (.getfield 77, 3) := by decide +kernel
theorem dX11_fewest_149 : decode cX11_fewest 149 = .ok (.iload 9, 2) := by decide +kernel
theorem dX11_fewest_151 : decode cX11_fewest 151 = .ok (.iaload, 1) := by decide +kernel
theorem dX11_fewest_152 : decode cX11_fewest 152 = .ok (.iconst 2, 1) := by decide +kernel
theorem dX11_fewest_153 : decode cX11_fewest 153 = .ok (.if_icmp .ne 10, 3) := by decide +kernel
theorem dX11_fewest_156 : decode cX11_fewest 156 = .ok (.aload_n 0, 1) := by decide +kernel
theorem dX11_fewest_157 : decode cX11_fewest 157 = .ok (.getfield 43, 3) := by decide +kernel
theorem dX11_fewest_160 : decode cX11_fewest 160 = .ok (.goto 4, 3) := by decide +kernel
theorem dX11_fewest_163 : decode cX11_fewest 163 = .ok (.iconst 0, 1) := by decide +kernel
theorem dX11_fewest_164 : decode cX11_fewest 164 = .ok (.iadd, 1) := by decide +kernel
theorem dX11_fewest_165 : decode cX11_fewest 165 = .ok (.istore 7, 2) := by decide +kernel
theorem dX11_fewest_167 : decode cX11_fewest 167 = .ok (.iload 8, 2) := by decide +kernel
theorem dX11_fewest_169 : decode cX11_fewest 169 = .ok (.aload_n 0, 1) := by decide +kernel
theorem dX11_fewest_170 : decode cX11_fewest 170 = .ok (.getfield 77, 3) := by decide +kernel
theorem dX11_fewest_173 : decode cX11_fewest 173 = .ok (.iload 9, 2) := by decide +kernel
theorem dX11_fewest_175 : decode cX11_fewest 175 = .ok (.iaload, 1) := by decide +kernel
theorem dX11_fewest_176 : decode cX11_fewest 176 = .ok (.ifCond .le 7, 3) := by decide +kernel
theorem dX11_fewest_179 : decode cX11_fewest 179 = .ok (.iconst 1, 1) := by decide +kernel
theorem dX11_fewest_180 : decode cX11_fewest 180 = .ok (.goto 4, 3) := by decide +kernel
theorem dX11_fewest_183 : decode cX11_fewest 183 = .ok (.iconst 0, 1) := by decide +kernel
theorem dX11_fewest_184 : decode cX11_fewest 184 = .ok (.iadd, 1) := by decide +kernel
theorem dX11_fewest_185 : decode cX11_fewest 185 = .ok (.istore 8, 2) := by decide +kernel
theorem dX11_fewest_187 : decode cX11_fewest 187 = .ok (.iinc 9 1, 3) := by decide +kernel
theorem dX11_fewest_190 : decode cX11_fewest 190 = .ok (.goto (-76), 3) := by decide +kernel
theorem dX11_fewest_193 : decode cX11_fewest 193 = .ok (.iload_n 3, 1) := by decide +kernel
theorem dX11_fewest_194 : decode cX11_fewest 194 = .ok (.iconst (-1), 1) := by decide +kernel
theorem dX11_fewest_195 : decode cX11_fewest 195 = .ok (.if_icmp .eq 24, 3) := by decide +kernel
theorem dX11_fewest_198 : decode cX11_fewest 198 = .ok (.iload 7, 2) := by decide +kernel
theorem dX11_fewest_200 : decode cX11_fewest 200 = .ok (.iload 4, 2) := by decide +kernel
theorem dX11_fewest_202 : decode cX11_fewest 202 = .ok (.if_icmp .lt 17, 3) := by decide +kernel
theorem dX11_fewest_205 : decode cX11_fewest 205 = .ok (.iload 7, 2) := by decide +kernel
theorem dX11_fewest_207 : decode cX11_fewest 207 = .ok (.iload 4, 2) := by decide +kernel
theorem dX11_fewest_209 : decode cX11_fewest 209 = .ok (.if_icmp .ne 14, 3) := by decide +kernel
theorem dX11_fewest_212 : decode cX11_fewest 212 = .ok (.iload 8, 2) := by decide +kernel
theorem dX11_fewest_214 : decode cX11_fewest 214 = .ok (.iload 5, 2) := by decide +kernel
theorem dX11_fewest_216 : decode cX11_fewest 216 = .ok (.if_icmp .ge 7, 3) := by decide +kernel
theorem dX11_fewest_219 : decode cX11_fewest 219 = .ok (.iconst 1, 1) := by decide +kernel
theorem dX11_fewest_220 : decode cX11_fewest 220 = .ok (.goto 4, 3) := by decide +kernel
theorem dX11_fewest_223 : decode cX11_fewest 223 = .ok (.iconst 0, 1) := by decide +kernel
theorem dX11_fewest_224 : decode cX11_fewest 224 = .ok (.istore 9, 2) := by decide +kernel
theorem dX11_fewest_226 : decode cX11_fewest 226 = .ok (.iload 9, 2) := by decide +kernel
theorem dX11_fewest_228 : decode cX11_fewest 228 = .ok (.ifCond .eq 22, 3) := by decide +kernel
theorem dX11_fewest_231 : decode cX11_fewest 231 = .ok (.aload_n 0, 1) := by decide +kernel
theorem dX11_fewest_232 : decode cX11_fewest 232 = .ok (.iconst 0, 1) := by decide +kernel
theorem dX11_fewest_233 : decode cX11_fewest 233 = .ok (.invokevirtual 276, 3) := by decide +kernel
theorem dX11_fewest_236 : decode cX11_fewest 236 = .ok (.ifCond .eq 14, 3) := by decide +kernel
theorem dX11_fewest_239 : decode cX11_fewest 239 = .ok (.iload 6, 2) := by decide +kernel
theorem dX11_fewest_241 : decode cX11_fewest 241 = .ok (.istore_n 3, 1) := by decide +kernel
theorem dX11_fewest_242 : decode cX11_fewest 242 = .ok (.iload 7, 2) := by decide +kernel
theorem dX11_fewest_244 : decode cX11_fewest 244 = .ok (.istore 4, 2) := by decide +kernel
theorem dX11_fewest_246 : decode cX11_fewest 246 = .ok (.iload 8, 2) := by decide +kernel
theorem dX11_fewest_248 : decode cX11_fewest 248 = .ok (.istore 5, 2) := by decide +kernel
theorem dX11_fewest_250 : decode cX11_fewest 250 = .ok (.iinc 6 1, 3) := by decide +kernel
theorem dX11_fewest_253 : decode cX11_fewest 253 = .ok (.goto (-160), 3) := by decide +kernel
theorem dX11_fewest_256 : decode cX11_fewest 256 = .ok (.iload_n 3, 1) := by decide +kernel
theorem dX11_fewest_257 : decode cX11_fewest 257 = .ok (.iconst (-1), 1) := by decide +kernel
theorem dX11_fewest_258 : decode cX11_fewest 258 = .ok (.if_icmp .ne 5, 3) := by decide +kernel
theorem dX11_fewest_261 : decode cX11_fewest 261 = .ok (.iconst (-1), 1) := by decide +kernel
theorem dX11_fewest_262 : decode cX11_fewest 262 = .ok (.ireturn, 1) := by decide +kernel
theorem dX11_fewest_263 : decode cX11_fewest 263 = .ok (.aload_n 0, 1) := by decide +kernel
theorem dX11_fewest_264 : decode cX11_fewest 264 = .ok (.iload_n 3, 1) := by decide +kernel
theorem dX11_fewest_265 : decode cX11_fewest 265 = .ok (.invokevirtual 285, 3) := by decide +kernel
theorem dX11_fewest_268 : decode cX11_fewest 268 = .ok (.iload_n 1, 1) := by decide +kernel
theorem dX11_fewest_269 : decode cX11_fewest 269 = .ok (.ifCond .ne 8, 3) := by decide +kernel
theorem dX11_fewest_272 : decode cX11_fewest 272 = .ok (.iload 4, 2) := by decide +kernel
theorem dX11_fewest_274 : decode cX11_fewest 274 = .ok (.goto 39, 3) := by decide +kernel
theorem dX11_fewest_277 : decode cX11_fewest 277 = .ok (.iload_n 1, 1) := by decide +kernel
theorem dX11_fewest_278 : decode cX11_fewest 278 = .ok (.iconst 1, 1) := by decide +kernel
theorem dX11_fewest_279 : decode cX11_fewest 279 = .ok (.if_icmp .ne 8, 3) := by decide +kernel
theorem dX11_fewest_282 : decode cX11_fewest 282 = .ok (.iload 5, 2) := by decide +kernel
theorem dX11_fewest_284 : decode cX11_fewest 284 = .ok (.goto 29, 3) := by decide +kernel
theorem dX11_fewest_287 : decode cX11_fewest 287 = .ok (.iload_n 1, 1) := by decide +kernel
theorem dX11_fewest_288 : decode cX11_fewest 288 = .ok (.bipush 10, 2) := by decide +kernel
theorem dX11_fewest_290 : decode cX11_fewest 290 = .ok (.isub, 1) := by decide +kernel
theorem dX11_fewest_291 : decode cX11_fewest 291 = .ok (.aload_n 0, 1) := by decide +kernel
theorem dX11_fewest_292 : decode cX11_fewest 292 = .ok (.getfield 104, 3) := by decide +kernel
theorem dX11_fewest_295 : decode cX11_fewest 295 = .ok (.iconst 1, 1) := by decide +kernel
theorem dX11_fewest_296 : decode cX11_fewest 296 = .ok (.isub, 1) := by decide +kernel
theorem dX11_fewest_297 : decode cX11_fewest 297 = .ok (.if_icmp .ge 15, 3) := by decide +kernel
theorem dX11_fewest_300 : decode cX11_fewest 300 = .ok (.aload_n 0, 1) := by decide +kernel
theorem dX11_fewest_301 : decode cX11_fewest 301 = .ok (.getfield 77, 3) := by decide +kernel
theorem dX11_fewest_304 : decode cX11_fewest 304 = .ok (.iload_n 1, 1) := by decide +kernel
theorem dX11_fewest_305 : decode cX11_fewest 305 = .ok (.bipush 10, 2) := by decide +kernel
theorem dX11_fewest_307 : decode cX11_fewest 307 = .ok (.isub, 1) := by decide +kernel
theorem dX11_fewest_308 : decode cX11_fewest 308 = .ok (.iaload, 1) := by decide +kernel
theorem dX11_fewest_309 : decode cX11_fewest 309 = .ok (.goto 4, 3) := by decide +kernel
theorem dX11_fewest_312 : decode cX11_fewest 312 = .ok (.iconst (-1), 1) := by decide +kernel
theorem dX11_fewest_313 : decode cX11_fewest 313 = .ok (.ireturn, 1) := by decide +kernel
theorem dX11_needless_0 : decode cX11_needless 0 = .ok (.aload_n 0, 1) := by decide +kernel
theorem dX11_needless_1 : decode cX11_needless 1 = .ok (.invokevirtual 264, 3) := by decide +kernel
theorem dX11_needless_4 : decode cX11_needless 4 = .ok (.aload_n 0, 1) := by decide +kernel
theorem dX11_needless_5 : decode cX11_needless 5 = .ok (.invokevirtual 267, 3) := by decide +kernel
theorem dX11_needless_8 : decode cX11_needless 8 = .ok (.iconst 0, 1) := by decide +kernel
theorem dX11_needless_9 : decode cX11_needless 9 = .ok (.istore_n 1, 1) := by decide +kernel
theorem dX11_needless_10 : decode cX11_needless 10 = .ok (.aload_n 0, 1) := by decide +kernel
theorem dX11_needless_11 : decode cX11_needless 11 = .ok (.invokevirtual 288, 3) := by decide +kernel
theorem dX11_needless_14 : decode cX11_needless 14 = .ok (.lstore_n 2, 1) := by decide +kernel
theorem dX11_needless_15 : decode cX11_needless 15 = .ok (.iconst 0, 1) := by decide +kernel
theorem dX11_needless_16 : decode cX11_needless 16 = .ok (.istore 4, 2) := by decide +kernel
theorem dX11_needless_18 : decode cX11_needless 18 = .ok (.iload 4, 2) := by decide +kernel
theorem dX11_needless_20 : decode cX11_needless 20 = .ok (.aload_n 0, 1) := by decide +kernel
theorem dX11_needless_21 : decode cX11_needless 21 = .ok (.getfield 104, 3) := by decide +kernel
theorem dX11_needless_24 : decode cX11_needless 24 = .ok (.if_icmp .ge 60, 3) := by decide +kernel
theorem dX11_needless_27 : decode cX11_needless 27 = .ok (.aload_n 0, 1) := by decide +kernel
theorem dX11_needless_28 : decode cX11_needless 28 = .ok (.iload 4, 2) := by decide +kernel
theorem dX11_needless_30 : decode cX11_needless 30 = .ok (.invokevirtual 120, 3) := by decide +kernel
theorem dX11_needless_33 : decode cX11_needless 33 = .ok (.ifCond .eq 45, 3) := by decide +kernel
theorem dX11_needless_36 : decode cX11_needless 36 = .ok (.aload_n 0, 1) := by decide +kernel
theorem dX11_needless_37 : decode cX11_needless 37 = .ok (.aload_n 0, 1) := by decide +kernel
theorem dX11_needless_38 : decode cX11_needless 38 = .ok (.aload_n 0, 1) := by decide +kernel
theorem dX11_needless_39 : decode cX11_needless 39 = .ok (.getfield 104, 3) := by decide +kernel
theorem dX11_needless_42 : decode cX11_needless 42 = .ok (.invokevirtual 123, 3) := by decide +kernel
theorem dX11_needless_45 : decode cX11_needless 45 = .ok (.iconst 1, 1) := by decide +kernel
theorem dX11_needless_46 : decode cX11_needless 46 = .ok (.iload 4, 2) := by decide +kernel
theorem dX11_needless_48 : decode cX11_needless 48 = .ok (.ishl, 1) := by decide +kernel
theorem dX11_needless_49 : decode cX11_needless 49 = .ok (.iconst (-1), 1) := by decide +kernel
theorem dX11_needless_50 : decode cX11_needless 50 = .ok (.ixor, 1) := by decide +kernel
theorem dX11_needless_51 : decode cX11_needless 51 = .ok (.iand, 1) := by decide +kernel
theorem dX11_needless_52 : decode cX11_needless 52 = .ok (.invokevirtual 127, 3) := by decide +kernel
theorem dX11_needless_55 : decode cX11_needless 55 = .ok (.lload_n 2, 1) := by decide +kernel
theorem dX11_needless_56 : decode cX11_needless 56 = .ok (.lcmp, 1) := by decide +kernel
theorem dX11_needless_57 : decode cX11_needless 57 = .ok (.ifCond .ne 21, 3) := by decide +kernel
theorem dX11_needless_60 : decode cX11_needless 60 = .ok (.aload_n 0, 1) := by decide +kernel
theorem dX11_needless_61 : decode cX11_needless 61 = .ok (.iconst 1, 1) := by decide +kernel
theorem dX11_needless_62 : decode cX11_needless 62 = .ok (.iload 4, 2) := by decide +kernel
theorem dX11_needless_64 : decode cX11_needless 64 = .ok (.ishl, 1) := by decide +kernel
theorem dX11_needless_65 : decode cX11_needless 65 = .ok (.invokevirtual 276, 3) := by decide +kernel
theorem dX11_needless_68 : decode cX11_needless 68 = .ok (.ifCond .eq 10, 3) := by decide +kernel
theorem dX11_needless_71 : decode cX11_needless 71 = .ok (.iload_n 1, 1) := by decide +kernel
theorem dX11_needless_72 : decode cX11_needless 72 = .ok (.iconst 1, 1) := by decide +kernel
theorem dX11_needless_73 : decode cX11_needless 73 = .ok (.iload 4, 2) := by decide +kernel
theorem dX11_needless_75 : decode cX11_needless 75 = .ok (.ishl, 1) := by decide +kernel
theorem dX11_needless_76 : decode cX11_needless 76 = .ok (.ior, 1) := by decide +kernel
theorem dX11_needless_77 : decode cX11_needless 77 = .ok (.istore_n 1, 1) := by decide +kernel
theorem dX11_needless_78 : decode cX11_needless 78 = .ok (.iinc 4 1, 3) := by decide +kernel
theorem dX11_needless_81 : decode cX11_needless 81 = .ok (.goto (-63), 3) := by decide +kernel
theorem dX11_needless_84 : decode cX11_needless 84 = .ok (.iload_n 1, 1) := by decide +kernel
theorem dX11_needless_85 : decode cX11_needless 85 = .ok (.ireturn, 1) := by decide +kernel
theorem dX11_isWriteAt_0 : decode cX11_isWriteAt 0 = .ok (.iload_n 1, 1) := by decide +kernel
theorem dX11_isWriteAt_1 : decode cX11_isWriteAt 1 = .ok (.iconst 0, 1) := by decide +kernel
theorem dX11_isWriteAt_2 : decode cX11_isWriteAt 2 = .ok (.aload_n 0, 1) := by decide +kernel
theorem dX11_isWriteAt_3 : decode cX11_isWriteAt 3 = .ok (.getfield 104, 3) := by decide +kernel
theorem dX11_isWriteAt_6 : decode cX11_isWriteAt 6 = .ok (.iconst 1, 1) := by decide +kernel
theorem dX11_isWriteAt_7 : decode cX11_isWriteAt 7 = .ok (.isub, 1) := by decide +kernel
theorem dX11_isWriteAt_8 : decode cX11_isWriteAt 8 = .ok (.invokestatic 89, 3) := by decide +kernel
theorem dX11_isWriteAt_11 : decode cX11_isWriteAt 11 = .ok (.ifCond .eq 15, 3) := by decide +kernel
theorem dX11_isWriteAt_14 : decode cX11_isWriteAt 14 = .ok (.aload_n 0, 1) := by decide +kernel
theorem dX11_isWriteAt_15 : decode cX11_isWriteAt 15 = .ok (.iload_n 1, 1) := by decide +kernel
theorem dX11_isWriteAt_16 : decode cX11_isWriteAt 16 = .ok (.invokevirtual 120, 3) := by decide +kernel
theorem dX11_isWriteAt_19 : decode cX11_isWriteAt 19 = .ok (.ifCond .eq 7, 3) := by decide +kernel
theorem dX11_isWriteAt_22 : decode cX11_isWriteAt 22 = .ok (.iconst 1, 1) := by decide +kernel
theorem dX11_isWriteAt_23 : decode cX11_isWriteAt 23 = .ok (.goto 4, 3) := by decide +kernel
theorem dX11_isWriteAt_26 : decode cX11_isWriteAt 26 = .ok (.iconst 0, 1) := by decide +kernel
theorem dX11_isWriteAt_27 : decode cX11_isWriteAt 27 = .ok (.ireturn, 1) := by decide +kernel
theorem dX11_order_0 : decode cX11_order 0 = .ok (.iload_n 1, 1) := by decide +kernel
theorem dX11_order_1 : decode cX11_order 1 = .ok (.iconst 0, 1) := by decide +kernel
theorem dX11_order_2 : decode cX11_order 2 = .ok (.aload_n 0, 1) := by decide +kernel
theorem dX11_order_3 : decode cX11_order 3 = .ok (.getfield 111, 3) := by decide +kernel
theorem dX11_order_6 : decode cX11_order 6 = .ok (.iconst 1, 1) := by decide +kernel
theorem dX11_order_7 : decode cX11_order 7 = .ok (.isub, 1) := by decide +kernel
theorem dX11_order_8 : decode cX11_order 8 = .ok (.invokestatic 89, 3) := by decide +kernel
theorem dX11_order_11 : decode cX11_order 11 = .ok (.ifCond .eq 24, 3) := by decide +kernel
theorem dX11_order_14 : decode cX11_order 14 = .ok (.aload_n 0, 1) := by decide +kernel
theorem dX11_order_15 : decode cX11_order 15 = .ok (.iload_n 2, 1) := by decide +kernel
theorem dX11_order_16 : decode cX11_order 16 = .ok (.invokevirtual 290, 3) := by decide +kernel
theorem dX11_order_19 : decode cX11_order 19 = .ok (.ifCond .eq 16, 3) := by decide +kernel
theorem dX11_order_22 : decode cX11_order 22 = .ok (.aload_n 0, 1) := by decide +kernel
theorem dX11_order_23 : decode cX11_order 23 = .ok (.iload_n 3, 1) := by decide +kernel
theorem dX11_order_24 : decode cX11_order 24 = .ok (.invokevirtual 290, 3) := by decide +kernel
theorem dX11_order_27 : decode cX11_order 27 = .ok (.ifCond .eq 8, 3) := by decide +kernel
theorem dX11_order_30 : decode cX11_order 30 = .ok (.iload_n 2, 1) := by decide +kernel
theorem dX11_order_31 : decode cX11_order 31 = .ok (.iload_n 3, 1) := by decide +kernel
theorem dX11_order_32 : decode cX11_order 32 = .ok (.if_icmp .ne 6, 3) := by decide +kernel
theorem dX11_order_35 : decode cX11_order 35 = .ok (.bipush (-101), 2) := by decide +kernel
theorem dX11_order_37 : decode cX11_order 37 = .ok (.ireturn, 1) := by decide +kernel
theorem dX11_order_38 : decode cX11_order 38 = .ok (.aload_n 0, 1) := by decide +kernel
theorem dX11_order_39 : decode cX11_order 39 = .ok (.invokevirtual 264, 3) := by decide +kernel
theorem dX11_order_42 : decode cX11_order 42 = .ok (.aload_n 0, 1) := by decide +kernel
theorem dX11_order_43 : decode cX11_order 43 = .ok (.invokevirtual 267, 3) := by decide +kernel
theorem dX11_order_46 : decode cX11_order 46 = .ok (.aload_n 0, 1) := by decide +kernel
theorem dX11_order_47 : decode cX11_order 47 = .ok (.aload_n 0, 1) := by decide +kernel
theorem dX11_order_48 : decode cX11_order 48 = .ok (.getfield 104, 3) := by decide +kernel
theorem dX11_order_51 : decode cX11_order 51 = .ok (.iconst 0, 1) := by decide +kernel
theorem dX11_order_52 : decode cX11_order 52 = .ok (.invokevirtual 244, 3) := by decide +kernel
theorem dX11_order_55 : decode cX11_order 55 = .ok (.aload_n 0, 1) := by decide +kernel
theorem dX11_order_56 : decode cX11_order 56 = .ok (.getfield 235, 3) := by decide +kernel
theorem dX11_order_59 : decode cX11_order 59 = .ok (.istore 4, 2) := by decide +kernel
theorem dX11_order_61 : decode cX11_order 61 = .ok (.iconst 0, 1) := by decide +kernel
theorem dX11_order_62 : decode cX11_order 62 = .ok (.istore 5, 2) := by decide +kernel
theorem dX11_order_64 : decode cX11_order 64 = .ok (.iload 5, 2) := by decide +kernel
theorem dX11_order_66 : decode cX11_order 66 = .ok (.aload_n 0, 1) := by decide +kernel
theorem dX11_order_67 : decode cX11_order 67 = .ok (.getfield 238, 3) := by decide +kernel
theorem dX11_order_70 : decode cX11_order 70 = .ok (.if_icmp .ge 68, 3) := by decide +kernel
theorem dX11_order_73 : decode cX11_order 73 = .ok (.aload_n 0, 1) := by decide +kernel
theorem dX11_order_74 : decode cX11_order 74 = .ok (.getfield 80, 3) := by decide +kernel
theorem dX11_order_77 : decode cX11_order 77 = .ok (.iload 5, 2) := by decide +kernel
theorem dX11_order_79 : decode cX11_order 79 = .ok (.iaload, 1) := by decide +kernel
theorem dX11_order_80 : decode cX11_order 80 = .ok (.iload_n 2, 1) := by decide +kernel
theorem dX11_order_81 : decode cX11_order 81 = .ok (.ishr, 1) := by decide +kernel
theorem dX11_order_82 : decode cX11_order 82 = .ok (.iconst 1, 1) := by decide +kernel
theorem dX11_order_83 : decode cX11_order 83 = .ok (.iand, 1) := by decide +kernel
theorem dX11_order_84 : decode cX11_order 84 = .ok (.iconst 1, 1) := by decide +kernel
theorem dX11_order_85 : decode cX11_order 85 = .ok (.if_icmp .ne 35, 3) := by decide +kernel
theorem dX11_order_88 : decode cX11_order 88 = .ok (.aload_n 0, 1) := by decide +kernel
theorem dX11_order_89 : decode cX11_order 89 = .ok (.getfield 80, 3) := by decide +kernel
theorem dX11_order_92 : decode cX11_order 92 = .ok (.iload 5, 2) := by decide +kernel
theorem dX11_order_94 : decode cX11_order 94 = .ok (.iaload, 1) := by decide +kernel
theorem dX11_order_95 : decode cX11_order 95 = .ok (.iload_n 3, 1) := by decide +kernel
theorem dX11_order_96 : decode cX11_order 96 = .ok (.ishr, 1) := by decide +kernel
theorem dX11_order_97 : decode cX11_order 97 = .ok (.iconst 1, 1) := by decide +kernel
theorem dX11_order_98 : decode cX11_order 98 = .ok (.iand, 1) := by decide +kernel
theorem dX11_order_99 : decode cX11_order 99 = .ok (.iconst 1, 1) := by decide +kernel
theorem dX11_order_100 : decode cX11_order 100 = .ok (.if_icmp .ne 20, 3) := by decide +kernel
theorem dX11_order_103 : decode cX11_order 103 = .ok (.aload_n 0, 1) := by decide +kernel
theorem dX11_order_104 : decode cX11_order 104 = .ok (.iload_n 1, 1) := by decide +kernel
theorem dX11_order_105 : decode cX11_order 105 = .ok (.iload 4, 2) := by decide +kernel
theorem dX11_order_107 : decode cX11_order 107 = .ok (.aload_n 0, 1) := by decide +kernel
theorem dX11_order_108 : decode cX11_order 108 = .ok (.getfield 80, 3) := by decide +kernel
theorem dX11_order_111 : decode cX11_order 111 = .ok (.iload 5, 2) := by decide +kernel
theorem dX11_order_113 : decode cX11_order 113 = .ok (.iaload, 1) := by decide +kernel
theorem dX11_order_114 : decode cX11_order 114 = .ok (.iload_n 2, 1) := by decide +kernel
theorem dX11_order_115 : decode cX11_order 115 = .ok (.iload_n 3, 1) := by decide +kernel
theorem dX11_order_116 : decode cX11_order 116 = .ok (.invokevirtual 293, 3) := by decide +kernel
theorem dX11_order_119 : decode cX11_order 119 = .ok (.ireturn, 1) := by decide +kernel
theorem dX11_order_120 : decode cX11_order 120 = .ok (.iload 4, 2) := by decide +kernel
theorem dX11_order_122 : decode cX11_order 122 = .ok (.aload_n 0, 1) := by decide +kernel
theorem dX11_order_123 : decode cX11_order 123 = .ok (.getfield 80, 3) := by decide +kernel
theorem dX11_order_126 : decode cX11_order 126 = .ok (.iload 5, 2) := by decide +kernel
theorem dX11_order_128 : decode cX11_order 128 = .ok (.iaload, 1) := by decide +kernel
theorem dX11_order_129 : decode cX11_order 129 = .ok (.ior, 1) := by decide +kernel
theorem dX11_order_130 : decode cX11_order 130 = .ok (.istore 4, 2) := by decide +kernel
theorem dX11_order_132 : decode cX11_order 132 = .ok (.iinc 5 1, 3) := by decide +kernel
theorem dX11_order_135 : decode cX11_order 135 = .ok (.goto (-71), 3) := by decide +kernel
theorem dX11_order_138 : decode cX11_order 138 = .ok (.bipush (-103), 2) := by decide +kernel
theorem dX11_order_140 : decode cX11_order 140 = .ok (.ireturn, 1) := by decide +kernel
theorem dX11_countOrder_0 : decode cX11_countOrder 0 = .ok (.iload_n 3, 1) := by decide +kernel
theorem dX11_countOrder_1 : decode cX11_countOrder 1 = .ok (.iconst 1, 1) := by decide +kernel
theorem dX11_countOrder_2 : decode cX11_countOrder 2 = .ok (.iload 4, 2) := by decide +kernel
theorem dX11_countOrder_4 : decode cX11_countOrder 4 = .ok (.ishl, 1) := by decide +kernel
theorem dX11_countOrder_5 : decode cX11_countOrder 5 = .ok (.iconst (-1), 1) := by decide +kernel
theorem dX11_countOrder_6 : decode cX11_countOrder 6 = .ok (.ixor, 1) := by decide +kernel
theorem dX11_countOrder_7 : decode cX11_countOrder 7 = .ok (.iand, 1) := by decide +kernel
theorem dX11_countOrder_8 : decode cX11_countOrder 8 = .ok (.iconst 1, 1) := by decide +kernel
theorem dX11_countOrder_9 : decode cX11_countOrder 9 = .ok (.iload 5, 2) := by decide +kernel
theorem dX11_countOrder_11 : decode cX11_countOrder 11 = .ok (.ishl, 1) := by decide +kernel
theorem dX11_countOrder_12 : decode cX11_countOrder 12 = .ok (.iconst (-1), 1) := by decide +kernel
theorem dX11_countOrder_13 : decode cX11_countOrder 13 = .ok (.ixor, 1) := by decide +kernel
theorem dX11_countOrder_14 : decode cX11_countOrder 14 = .ok (.iand, 1) := by decide +kernel
theorem dX11_countOrder_15 : decode cX11_countOrder 15 = .ok (.istore 6, 2) := by decide +kernel
theorem dX11_countOrder_17 : decode cX11_countOrder 17 = .ok (.iconst 0, 1) := by decide +kernel
theorem dX11_countOrder_18 : decode cX11_countOrder 18 = .ok (.istore 7, 2) := by decide +kernel
theorem dX11_countOrder_20 : decode cX11_countOrder 20 = .ok (.iload 6, 2) := by decide +kernel
theorem dX11_countOrder_22 : decode cX11_countOrder 22 = .ok (.istore 8, 2) := by decide +kernel
theorem dX11_countOrder_24 : decode cX11_countOrder 24 = .ok (.iconst 1, 1) := by decide +kernel
theorem dX11_countOrder_25 : decode cX11_countOrder 25 = .ok (.istore 9, 2) := by decide +kernel
theorem dX11_countOrder_27 : decode cX11_countOrder 27 = .ok (.iload 9, 2) := by decide +kernel
theorem dX11_countOrder_29 : decode cX11_countOrder 29 = .ok (.ifCond .eq 66, 3) := by decide +kernel
theorem dX11_countOrder_32 : decode cX11_countOrder 32 = .ok (.aload_n 0, 1) := by decide +kernel
theorem dX11_countOrder_33 : decode cX11_countOrder 33 = .ok (.iload_n 2, 1) := by decide +kernel
theorem dX11_countOrder_34 : decode cX11_countOrder 34 = .ok (.iload 8, 2) := by decide +kernel
theorem dX11_countOrder_36 : decode cX11_countOrder 36 = .ok (.ior, 1) := by decide +kernel
theorem dX11_countOrder_37 : decode cX11_countOrder 37 = .ok (.iconst 1, 1) := by decide +kernel
theorem dX11_countOrder_38 : decode cX11_countOrder 38 = .ok (.iload 5, 2) := by decide +kernel
theorem dX11_countOrder_40 : decode cX11_countOrder 40 = .ok (.ishl, 1) := by decide +kernel
theorem dX11_countOrder_41 : decode cX11_countOrder 41 = .ok (.ior, 1) := by decide +kernel
theorem dX11_countOrder_42 : decode cX11_countOrder 42 = .ok (.invokevirtual 251, 3) := by decide +kernel
theorem dX11_countOrder_45 : decode cX11_countOrder 45 = .ok (.istore 10, 2) := by decide +kernel
theorem dX11_countOrder_47 : decode cX11_countOrder 47 = .ok (.iload 7, 2) := by decide +kernel
theorem dX11_countOrder_49 : decode cX11_countOrder 49 = .ok (.aload_n 0, 1) := by decide +kernel
theorem dX11_countOrder_50 : decode cX11_countOrder 50 = .ok (.getfield 68, 3) := by decide +kernel
theorem dX11_countOrder_53 : decode cX11_countOrder 53 = .ok (.iload 10, 2) := by decide +kernel
theorem dX11_countOrder_55 : decode cX11_countOrder 55 = .ok (.iaload, 1) := by decide +kernel
theorem dX11_countOrder_56 : decode cX11_countOrder 56 = .ok (.iload_n 1, 1) := by decide +kernel
theorem dX11_countOrder_57 : decode cX11_countOrder 57 = .ok (.ishr, 1) := by decide +kernel
theorem dX11_countOrder_58 : decode cX11_countOrder 58 = .ok (.iconst 1, 1) := by decide +kernel
theorem dX11_countOrder_59 : decode cX11_countOrder 59 = .ok (.iand, 1) := by decide +kernel
theorem dX11_countOrder_60 : decode cX11_countOrder 60 = .ok (.ifCond .ne 7, 3) := by decide +kernel
theorem dX11_countOrder_63 : decode cX11_countOrder 63 = .ok (.iconst 1, 1) := by decide +kernel
theorem dX11_countOrder_64 : decode cX11_countOrder 64 = .ok (.goto 4, 3) := by decide +kernel
theorem dX11_countOrder_67 : decode cX11_countOrder 67 = .ok (.iconst 0, 1) := by decide +kernel
theorem dX11_countOrder_68 : decode cX11_countOrder 68 = .ok (.iadd, 1) := by decide +kernel
theorem dX11_countOrder_69 : decode cX11_countOrder 69 = .ok (.istore 7, 2) := by decide +kernel
theorem dX11_countOrder_71 : decode cX11_countOrder 71 = .ok (.iload 8, 2) := by decide +kernel
theorem dX11_countOrder_73 : decode cX11_countOrder 73 = .ok (.ifCond .eq 7, 3) := by decide +kernel
theorem dX11_countOrder_76 : decode cX11_countOrder 76 = .ok (.iconst 1, 1) := by decide +kernel
theorem dX11_countOrder_77 : decode cX11_countOrder 77 = .ok (.goto 4, 3) := by decide +kernel
theorem dX11_countOrder_80 : decode cX11_countOrder 80 = .ok (.iconst 0, 1) := by decide +kernel
theorem dX11_countOrder_81 : decode cX11_countOrder 81 = .ok (.istore 9, 2) := by decide +kernel
theorem dX11_countOrder_83 : decode cX11_countOrder 83 = .ok (.iload 8, 2) := by decide +kernel
theorem dX11_countOrder_85 : decode cX11_countOrder 85 = .ok (.iconst 1, 1) := by decide +kernel
theorem dX11_countOrder_86 : decode cX11_countOrder 86 = .ok (.isub, 1) := by decide +kernel
theorem dX11_countOrder_87 : decode cX11_countOrder 87 = .ok (.iload 6, 2) := by decide +kernel
theorem dX11_countOrder_89 : decode cX11_countOrder 89 = .ok (.iand, 1) := by decide +kernel
theorem dX11_countOrder_90 : decode cX11_countOrder 90 = .ok (.istore 8, 2) := by decide +kernel
theorem dX11_countOrder_92 : decode cX11_countOrder 92 = .ok (.goto (-65), 3) := by decide +kernel
theorem dX11_countOrder_95 : decode cX11_countOrder 95 = .ok (.iload 7, 2) := by decide +kernel
theorem dX11_countOrder_97 : decode cX11_countOrder 97 = .ok (.ireturn, 1) := by decide +kernel
theorem dX11_epochsWithWrites_0 : decode cX11_epochsWithWrites 0 = .ok (.iconst 0, 1) := by decide +kernel
theorem dX11_epochsWithWrites_1 : decode cX11_epochsWithWrites 1 = .ok (.istore_n 1, 1) := by decide +kernel
theorem dX11_epochsWithWrites_2 : decode cX11_epochsWithWrites 2 = .ok (.iconst 0, 1) := by decide +kernel
theorem dX11_epochsWithWrites_3 : decode cX11_epochsWithWrites 3 = .ok (.istore_n 2, 1) := by decide +kernel
theorem dX11_epochsWithWrites_4 : decode cX11_epochsWithWrites 4 = .ok (.iconst 0, 1) := by decide +kernel
theorem dX11_epochsWithWrites_5 : decode cX11_epochsWithWrites 5 = .ok (.istore_n 3, 1) := by decide +kernel
theorem dX11_epochsWithWrites_6 : decode cX11_epochsWithWrites 6 = .ok (.iload_n 3, 1) := by decide +kernel
theorem dX11_epochsWithWrites_7 : decode cX11_epochsWithWrites 7 = .ok (.aload_n 0, 1) := by decide +kernel
theorem dX11_epochsWithWrites_8 : decode cX11_epochsWithWrites 8 = .ok (.getfield 104, 3) := by decide +kernel
theorem dX11_epochsWithWrites_11 : decode cX11_epochsWithWrites 11 = .ok (.if_icmp .ge 56, 3) := by decide +kernel
theorem dX11_epochsWithWrites_14 : decode cX11_epochsWithWrites 14 = .ok (.iload_n 2, 1) := by decide +kernel
theorem dX11_epochsWithWrites_15 : decode cX11_epochsWithWrites 15 = .ok (.ifCond .ne 11, 3) := by decide +kernel
theorem dX11_epochsWithWrites_18 : decode cX11_epochsWithWrites 18 = .ok (.aload_n 0, 1) := by decide +kernel
theorem dX11_epochsWithWrites_19 : decode cX11_epochsWithWrites 19 = .ok (.iload_n 3, 1) := by decide +kernel
theorem dX11_epochsWithWrites_20 : decode cX11_epochsWithWrites 20 = .ok (.invokevirtual 120, 3) := by decide +kernel
theorem dX11_epochsWithWrites_23 : decode cX11_epochsWithWrites 23 = .ok (.ifCond .eq 7, 3) := by decide +kernel
theorem dX11_epochsWithWrites_26 : decode cX11_epochsWithWrites 26 = .ok (.iconst 1, 1) := by decide +kernel
theorem dX11_epochsWithWrites_27 : decode cX11_epochsWithWrites 27 = .ok (.goto 4, 3) := by decide +kernel
theorem dX11_epochsWithWrites_30 : decode cX11_epochsWithWrites 30 = .ok (.iconst 0, 1) := by decide +kernel
theorem dX11_epochsWithWrites_31 : decode cX11_epochsWithWrites 31 = .ok (.istore_n 2, 1) := by decide +kernel
theorem dX11_epochsWithWrites_32 : decode cX11_epochsWithWrites 32 = .ok (.iload_n 2, 1) := by decide +kernel
theorem dX11_epochsWithWrites_33 : decode cX11_epochsWithWrites 33 = .ok (.ifCond .eq 28, 3) := by decide +kernel
theorem dX11_epochsWithWrites_36 : decode cX11_epochsWithWrites 36 = .ok (.aload_n 0, 1) := by decide +kernel
theorem dX11_epochsWithWrites_37 : decode cX11_epochsWithWrites 37 = .ok (.getfield 13, 3) := by decide +kernel
theorem dX11_epochsWithWrites_40 : decode cX11_epochsWithWrites 40 = .ok (.iload_n 3, 1) := by decide +kernel
theorem dX11_epochsWithWrites_41 : decode cX11_epochsWithWrites 41 = .ok (.iaload, 1) := by decide +kernel
theorem dX11_epochsWithWrites_42 : decode cX11_epochsWithWrites 42 = .ok (.iconst 2, 1) := by decide +kernel
theorem dX11_epochsWithWrites_43 : decode cX11_epochsWithWrites 43 = .ok (.if_icmp .eq 13, 3) := by decide +kernel
theorem dX11_epochsWithWrites_46 : decode cX11_epochsWithWrites 46 = .ok (.aload_n 0, 1) := by decide +kernel
theorem dX11_epochsWithWrites_47 : decode cX11_epochsWithWrites 47 = .ok (.getfield 13, 3) := by decide +kernel
theorem dX11_epochsWithWrites_50 : decode cX11_epochsWithWrites 50 = .ok (.iload_n 3, 1) := by decide +kernel
theorem dX11_epochsWithWrites_51 : decode cX11_epochsWithWrites 51 = .ok (.iaload, 1) := by decide +kernel
theorem dX11_epochsWithWrites_52 : decode cX11_epochsWithWrites 52 = .ok (.iconst 3, 1) := by decide +kernel
theorem dX11_epochsWithWrites_53 : decode cX11_epochsWithWrites 53 = .ok (.if_icmp .ne 8, 3) := by decide +kernel
theorem dX11_epochsWithWrites_56 : decode cX11_epochsWithWrites 56 = .ok (.iinc 1 1, 3) := by decide +kernel
theorem dX11_epochsWithWrites_59 : decode cX11_epochsWithWrites 59 = .ok (.iconst 0, 1) := by decide +kernel
theorem dX11_epochsWithWrites_60 : decode cX11_epochsWithWrites 60 = .ok (.istore_n 2, 1) := by decide +kernel
theorem dX11_epochsWithWrites_61 : decode cX11_epochsWithWrites 61 = .ok (.iinc 3 1, 3) := by decide +kernel
theorem dX11_epochsWithWrites_64 : decode cX11_epochsWithWrites 64 = .ok (.goto (-58), 3) := by decide +kernel
theorem dX11_epochsWithWrites_67 : decode cX11_epochsWithWrites 67 = .ok (.iload_n 2, 1) := by decide +kernel
theorem dX11_epochsWithWrites_68 : decode cX11_epochsWithWrites 68 = .ok (.ifCond .eq 9, 3) := by decide +kernel
theorem dX11_epochsWithWrites_71 : decode cX11_epochsWithWrites 71 = .ok (.iload_n 1, 1) := by decide +kernel
theorem dX11_epochsWithWrites_72 : decode cX11_epochsWithWrites 72 = .ok (.iconst 1, 1) := by decide +kernel
theorem dX11_epochsWithWrites_73 : decode cX11_epochsWithWrites 73 = .ok (.iadd, 1) := by decide +kernel
theorem dX11_epochsWithWrites_74 : decode cX11_epochsWithWrites 74 = .ok (.goto 4, 3) := by decide +kernel
theorem dX11_epochsWithWrites_77 : decode cX11_epochsWithWrites 77 = .ok (.iload_n 1, 1) := by decide +kernel
theorem dX11_epochsWithWrites_78 : decode cX11_epochsWithWrites 78 = .ok (.ireturn, 1) := by decide +kernel
theorem dX11_writeMany_0 : decode cX11_writeMany 0 = .ok (.iconst 0, 1) := by decide +kernel
theorem dX11_writeMany_1 : decode cX11_writeMany 1 = .ok (.istore_n 1, 1) := by decide +kernel
theorem dX11_writeMany_2 : decode cX11_writeMany 2 = .ok (.iconst 0, 1) := by decide +kernel
theorem dX11_writeMany_3 : decode cX11_writeMany 3 = .ok (.istore_n 2, 1) := by decide +kernel
theorem dX11_writeMany_4 : decode cX11_writeMany 4 = .ok (.iload_n 2, 1) := by decide +kernel
theorem dX11_writeMany_5 : decode cX11_writeMany 5 = .ok (.aload_n 0, 1) := by decide +kernel
theorem dX11_writeMany_6 : decode cX11_writeMany 6 = .ok (.getfield 104, 3) := by decide +kernel
theorem dX11_writeMany_9 : decode cX11_writeMany 9 = .ok (.if_icmp .ge 25, 3) := by decide +kernel
theorem dX11_writeMany_12 : decode cX11_writeMany 12 = .ok (.iload_n 1, 1) := by decide +kernel
theorem dX11_writeMany_13 : decode cX11_writeMany 13 = .ok (.aload_n 0, 1) := by decide +kernel
theorem dX11_writeMany_14 : decode cX11_writeMany 14 = .ok (.iload_n 2, 1) := by decide +kernel
theorem dX11_writeMany_15 : decode cX11_writeMany 15 = .ok (.invokevirtual 120, 3) := by decide +kernel
theorem dX11_writeMany_18 : decode cX11_writeMany 18 = .ok (.ifCond .eq 7, 3) := by decide +kernel
theorem dX11_writeMany_21 : decode cX11_writeMany 21 = .ok (.iconst 1, 1) := by decide +kernel
theorem dX11_writeMany_22 : decode cX11_writeMany 22 = .ok (.goto 4, 3) := by decide +kernel
theorem dX11_writeMany_25 : decode cX11_writeMany 25 = .ok (.iconst 0, 1) := by decide +kernel
theorem dX11_writeMany_26 : decode cX11_writeMany 26 = .ok (.iadd, 1) := by decide +kernel
theorem dX11_writeMany_27 : decode cX11_writeMany 27 = .ok (.istore_n 1, 1) := by decide +kernel
theorem dX11_writeMany_28 : decode cX11_writeMany 28 = .ok (.iinc 2 1, 3) := by decide +kernel
theorem dX11_writeMany_31 : decode cX11_writeMany 31 = .ok (.goto (-27), 3) := by decide +kernel
theorem dX11_writeMany_34 : decode cX11_writeMany 34 = .ok (.iload_n 1, 1) := by decide +kernel
theorem dX11_writeMany_35 : decode cX11_writeMany 35 = .ok (.ireturn, 1) := by decide +kernel
theorem dX11_countOf_0 : decode cX11_countOf 0 = .ok (.iload_n 1, 1) := by decide +kernel
theorem dX11_countOf_1 : decode cX11_countOf 1 = .ok (.tableswitch 78 0 6 #[43, 48, 53, 58, 63, 68, 73], 43) := by decide +kernel
theorem dX11_countOf_44 : decode cX11_countOf 44 = .ok (.aload_n 0, 1) := by decide +kernel
theorem dX11_countOf_45 : decode cX11_countOf 45 = .ok (.getfield 104, 3) := by decide +kernel
theorem dX11_countOf_48 : decode cX11_countOf 48 = .ok (.ireturn, 1) := by decide +kernel
theorem dX11_countOf_49 : decode cX11_countOf 49 = .ok (.aload_n 0, 1) := by decide +kernel
theorem dX11_countOf_50 : decode cX11_countOf 50 = .ok (.getfield 111, 3) := by decide +kernel
theorem dX11_countOf_53 : decode cX11_countOf 53 = .ok (.ireturn, 1) := by decide +kernel
theorem dX11_countOf_54 : decode cX11_countOf 54 = .ok (.aload_n 0, 1) := by decide +kernel
theorem dX11_countOf_55 : decode cX11_countOf 55 = .ok (.getfield 159, 3) := by decide +kernel
theorem dX11_countOf_58 : decode cX11_countOf 58 = .ok (.ireturn, 1) := by decide +kernel
theorem dX11_countOf_59 : decode cX11_countOf 59 = .ok (.aload_n 0, 1) := by decide +kernel
theorem dX11_countOf_60 : decode cX11_countOf 60 = .ok (.getfield 133, 3) := by decide +kernel
theorem dX11_countOf_63 : decode cX11_countOf 63 = .ok (.ireturn, 1) := by decide +kernel
theorem dX11_countOf_64 : decode cX11_countOf 64 = .ok (.aload_n 0, 1) := by decide +kernel
theorem dX11_countOf_65 : decode cX11_countOf 65 = .ok (.invokevirtual 296, 3) := by decide +kernel
theorem dX11_countOf_68 : decode cX11_countOf 68 = .ok (.ireturn, 1) := by decide +kernel
theorem dX11_countOf_69 : decode cX11_countOf 69 = .ok (.aload_n 0, 1) := by decide +kernel
theorem dX11_countOf_70 : decode cX11_countOf 70 = .ok (.invokevirtual 299, 3) := by decide +kernel
theorem dX11_countOf_73 : decode cX11_countOf 73 = .ok (.ireturn, 1) := by decide +kernel
theorem dX11_countOf_74 : decode cX11_countOf 74 = .ok (.aload_n 0, 1) := by decide +kernel
theorem dX11_countOf_75 : decode cX11_countOf 75 = .ok (.getfield 282, 3) := by decide +kernel
theorem dX11_countOf_78 : decode cX11_countOf 78 = .ok (.ireturn, 1) := by decide +kernel
theorem dX11_countOf_79 : decode cX11_countOf 79 = .ok (.bipush (-102), 2) := by decide +kernel
theorem dX11_countOf_81 : decode cX11_countOf 81 = .ok (.ireturn, 1) := by decide +kernel
theorem dX11_count_0 : decode cX11_count 0 = .ok (.aload_n 0, 1) := by decide +kernel
theorem dX11_count_1 : decode cX11_count 1 = .ok (.iload_n 1, 1) := by decide +kernel
theorem dX11_count_2 : decode cX11_count 2 = .ok (.invokevirtual 302, 3) := by decide +kernel
theorem dX11_count_5 : decode cX11_count 5 = .ok (.ireturn, 1) := by decide +kernel
theorem dX11_mix_0 : decode cX11_mix 0 = .ok (.aload_n 0, 1) := by decide +kernel
theorem dX11_mix_1 : decode cX11_mix 1 = .ok (.ldc2_w 305, 3) := by decide +kernel
theorem dX11_mix_4 : decode cX11_mix 4 = .ok (.aload_n 0, 1) := by decide +kernel
theorem dX11_mix_5 : decode cX11_mix 5 = .ok (.getfield 307, 3) := by decide +kernel
theorem dX11_mix_8 : decode cX11_mix 8 = .ok (.lmul, 1) := by decide +kernel
theorem dX11_mix_9 : decode cX11_mix 9 = .ok (.lload_n 1, 1) := by decide +kernel
theorem dX11_mix_10 : decode cX11_mix 10 = .ok (.ladd, 1) := by decide +kernel
theorem dX11_mix_11 : decode cX11_mix 11 = .ok (.putfield 307, 3) := by decide +kernel
theorem dX11_mix_14 : decode cX11_mix 14 = .ok (.return_, 1) := by decide +kernel
theorem dX11_digest_0 : decode cX11_digest 0 = .ok (.aload_n 0, 1) := by decide +kernel
theorem dX11_digest_1 : decode cX11_digest 1 = .ok (.ldc2_w 311, 3) := by decide +kernel
theorem dX11_digest_4 : decode cX11_digest 4 = .ok (.putfield 307, 3) := by decide +kernel
theorem dX11_digest_7 : decode cX11_digest 7 = .ok (.aload_n 0, 1) := by decide +kernel
theorem dX11_digest_8 : decode cX11_digest 8 = .ok (.iconst 0, 1) := by decide +kernel
theorem dX11_digest_9 : decode cX11_digest 9 = .ok (.invokevirtual 127, 3) := by decide +kernel
theorem dX11_digest_12 : decode cX11_digest 12 = .ok (.lstore_n 1, 1) := by decide +kernel
theorem dX11_digest_13 : decode cX11_digest 13 = .ok (.aload_n 0, 1) := by decide +kernel
theorem dX11_digest_14 : decode cX11_digest 14 = .ok (.lload_n 1, 1) := by decide +kernel
theorem dX11_digest_15 : decode cX11_digest 15 = .ok (.invokevirtual 313, 3) := by decide +kernel
theorem dX11_digest_18 : decode cX11_digest 18 = .ok (.iconst 0, 1) := by decide +kernel
theorem dX11_digest_19 : decode cX11_digest 19 = .ok (.istore_n 3, 1) := by decide +kernel
theorem dX11_digest_20 : decode cX11_digest 20 = .ok (.iload_n 3, 1) := by decide +kernel
theorem dX11_digest_21 : decode cX11_digest 21 = .ok (.aload_n 0, 1) := by decide +kernel
theorem dX11_digest_22 : decode cX11_digest 22 = .ok (.getfield 104, 3) := by decide +kernel
theorem dX11_digest_25 : decode cX11_digest 25 = .ok (.if_icmp .ge 51, 3) := by decide +kernel
theorem dX11_digest_28 : decode cX11_digest 28 = .ok (.aload_n 0, 1) := by decide +kernel
theorem dX11_digest_29 : decode cX11_digest 29 = .ok (.aload_n 0, 1) := by decide +kernel
theorem dX11_digest_30 : decode cX11_digest 30 = .ok (.getfield 13, 3) := by decide +kernel
theorem dX11_digest_33 : decode cX11_digest 33 = .ok (.iload_n 3, 1) := by decide +kernel
theorem dX11_digest_34 : decode cX11_digest 34 = .ok (.iaload, 1) := by decide +kernel
theorem dX11_digest_35 : decode cX11_digest 35 = .ok (.i2l, 1) := by decide +kernel
theorem dX11_digest_36 : decode cX11_digest 36 = .ok (.invokevirtual 313, 3) := by decide +kernel
theorem dX11_digest_39 : decode cX11_digest 39 = .ok (.iconst 0, 1) := by decide +kernel
theorem dX11_digest_40 : decode cX11_digest 40 = .ok (.istore 4, 2) := by decide +kernel
theorem dX11_digest_42 : decode cX11_digest 42 = .ok (.iload 4, 2) := by decide +kernel
theorem dX11_digest_44 : decode cX11_digest 44 = .ok (.iconst 4, 1) := by decide +kernel
theorem dX11_digest_45 : decode cX11_digest 45 = .ok (.if_icmp .ge 25, 3) := by decide +kernel
theorem dX11_digest_48 : decode cX11_digest 48 = .ok (.aload_n 0, 1) := by decide +kernel
theorem dX11_digest_49 : decode cX11_digest 49 = .ok (.aload_n 0, 1) := by decide +kernel
theorem dX11_digest_50 : decode cX11_digest 50 = .ok (.getfield 16, 3) := by decide +kernel
theorem dX11_digest_53 : decode cX11_digest 53 = .ok (.iconst 4, 1) := by decide +kernel
theorem dX11_digest_54 : decode cX11_digest 54 = .ok (.iload_n 3, 1) := by decide +kernel
theorem dX11_digest_55 : decode cX11_digest 55 = .ok (.imul, 1) := by decide +kernel
theorem dX11_digest_56 : decode cX11_digest 56 = .ok (.iload 4, 2) := by decide +kernel
theorem dX11_digest_58 : decode cX11_digest 58 = .ok (.iadd, 1) := by decide +kernel
theorem dX11_digest_59 : decode cX11_digest 59 = .ok (.iaload, 1) := by decide +kernel
theorem dX11_digest_60 : decode cX11_digest 60 = .ok (.i2l, 1) := by decide +kernel
theorem dX11_digest_61 : decode cX11_digest 61 = .ok (.invokevirtual 313, 3) := by decide +kernel
theorem dX11_digest_64 : decode cX11_digest 64 = .ok (.iinc 4 1, 3) := by decide +kernel
theorem dX11_digest_67 : decode cX11_digest 67 = .ok (.goto (-25), 3) := by decide +kernel
theorem dX11_digest_70 : decode cX11_digest 70 = .ok (.iinc 3 1, 3) := by decide +kernel
theorem dX11_digest_73 : decode cX11_digest 73 = .ok (.goto (-53), 3) := by decide +kernel
theorem dX11_digest_76 : decode cX11_digest 76 = .ok (.aload_n 0, 1) := by decide +kernel
theorem dX11_digest_77 : decode cX11_digest 77 = .ok (.aload_n 0, 1) := by decide +kernel
theorem dX11_digest_78 : decode cX11_digest 78 = .ok (.invokevirtual 288, 3) := by decide +kernel
theorem dX11_digest_81 : decode cX11_digest 81 = .ok (.invokevirtual 313, 3) := by decide +kernel
theorem dX11_digest_84 : decode cX11_digest 84 = .ok (.iconst 0, 1) := by decide +kernel
theorem dX11_digest_85 : decode cX11_digest 85 = .ok (.istore_n 3, 1) := by decide +kernel
theorem dX11_digest_86 : decode cX11_digest 86 = .ok (.iload_n 3, 1) := by decide +kernel
theorem dX11_digest_87 : decode cX11_digest 87 = .ok (.aload_n 0, 1) := by decide +kernel
theorem dX11_digest_88 : decode cX11_digest 88 = .ok (.getfield 111, 3) := by decide +kernel
theorem dX11_digest_91 : decode cX11_digest 91 = .ok (.if_icmp .ge 49, 3) := by decide +kernel
theorem dX11_digest_94 : decode cX11_digest 94 = .ok (.aload_n 0, 1) := by decide +kernel
theorem dX11_digest_95 : decode cX11_digest 95 = .ok (.lload_n 1, 1) := by decide +kernel
theorem dX11_digest_96 : decode cX11_digest 96 = .ok (.invokevirtual 195, 3) := by decide +kernel
theorem dX11_digest_99 : decode cX11_digest 99 = .ok (.aload_n 0, 1) := by decide +kernel
theorem dX11_digest_100 : decode cX11_digest 100 = .ok (.aload_n 0, 1) := by decide +kernel
theorem dX11_digest_101 : decode cX11_digest 101 = .ok (.getfield 29, 3) := by decide +kernel
theorem dX11_digest_104 : decode cX11_digest 104 = .ok (.iload_n 3, 1) := by decide +kernel
theorem dX11_digest_105 : decode cX11_digest 105 = .ok (.baload, 1) := by decide +kernel
theorem dX11_digest_106 : decode cX11_digest 106 = .ok (.ifCond .eq 7, 3) := by decide +kernel
theorem dX11_digest_109 : decode cX11_digest 109 = .ok (.lconst 1, 1) := by decide +kernel
theorem dX11_digest_110 : decode cX11_digest 110 = .ok (.goto 4, 3) := by decide +kernel
theorem dX11_digest_113 : decode cX11_digest 113 = .ok (.lconst 0, 1) := by decide +kernel
theorem dX11_digest_114 : decode cX11_digest 114 = .ok (.invokevirtual 313, 3) := by decide +kernel
theorem dX11_digest_117 : decode cX11_digest 117 = .ok (.aload_n 0, 1) := by decide +kernel
theorem dX11_digest_118 : decode cX11_digest 118 = .ok (.aload_n 0, 1) := by decide +kernel
theorem dX11_digest_119 : decode cX11_digest 119 = .ok (.iload_n 3, 1) := by decide +kernel
theorem dX11_digest_120 : decode cX11_digest 120 = .ok (.invokevirtual 216, 3) := by decide +kernel
theorem dX11_digest_123 : decode cX11_digest 123 = .ok (.ifCond .eq 7, 3) := by decide +kernel
theorem dX11_digest_126 : decode cX11_digest 126 = .ok (.lconst 1, 1) := by decide +kernel
theorem dX11_digest_127 : decode cX11_digest 127 = .ok (.goto 4, 3) := by decide +kernel
theorem dX11_digest_130 : decode cX11_digest 130 = .ok (.lconst 0, 1) := by decide +kernel
theorem dX11_digest_131 : decode cX11_digest 131 = .ok (.invokevirtual 313, 3) := by decide +kernel
theorem dX11_digest_134 : decode cX11_digest 134 = .ok (.iinc 3 1, 3) := by decide +kernel
theorem dX11_digest_137 : decode cX11_digest 137 = .ok (.goto (-51), 3) := by decide +kernel
theorem dX11_digest_140 : decode cX11_digest 140 = .ok (.iconst 0, 1) := by decide +kernel
theorem dX11_digest_141 : decode cX11_digest 141 = .ok (.istore_n 3, 1) := by decide +kernel
theorem dX11_digest_142 : decode cX11_digest 142 = .ok (.iload_n 3, 1) := by decide +kernel
theorem dX11_digest_143 : decode cX11_digest 143 = .ok (.aload_n 0, 1) := by decide +kernel
theorem dX11_digest_144 : decode cX11_digest 144 = .ok (.getfield 104, 3) := by decide +kernel
theorem dX11_digest_147 : decode cX11_digest 147 = .ok (.if_icmp .gt 23, 3) := by decide +kernel
theorem dX11_digest_150 : decode cX11_digest 150 = .ok (.aload_n 0, 1) := by decide +kernel
theorem dX11_digest_151 : decode cX11_digest 151 = .ok (.iload_n 3, 1) := by decide +kernel
theorem dX11_digest_152 : decode cX11_digest 152 = .ok (.invokevirtual 273, 3) := by decide +kernel
theorem dX11_digest_155 : decode cX11_digest 155 = .ok (.aload_n 0, 1) := by decide +kernel
theorem dX11_digest_156 : decode cX11_digest 156 = .ok (.aload_n 0, 1) := by decide +kernel
theorem dX11_digest_157 : decode cX11_digest 157 = .ok (.getfield 270, 3) := by decide +kernel
theorem dX11_digest_160 : decode cX11_digest 160 = .ok (.i2l, 1) := by decide +kernel
theorem dX11_digest_161 : decode cX11_digest 161 = .ok (.invokevirtual 313, 3) := by decide +kernel
theorem dX11_digest_164 : decode cX11_digest 164 = .ok (.iinc 3 1, 3) := by decide +kernel
theorem dX11_digest_167 : decode cX11_digest 167 = .ok (.goto (-25), 3) := by decide +kernel
theorem dX11_digest_170 : decode cX11_digest 170 = .ok (.aload_n 0, 1) := by decide +kernel
theorem dX11_digest_171 : decode cX11_digest 171 = .ok (.aload_n 0, 1) := by decide +kernel
theorem dX11_digest_172 : decode cX11_digest 172 = .ok (.lload_n 1, 1) := by decide +kernel
theorem dX11_digest_173 : decode cX11_digest 173 = .ok (.invokevirtual 202, 3) := by decide +kernel
theorem dX11_digest_176 : decode cX11_digest 176 = .ok (.invokevirtual 313, 3) := by decide +kernel
theorem dX11_digest_179 : decode cX11_digest 179 = .ok (.aload_n 0, 1) := by decide +kernel
theorem dX11_digest_180 : decode cX11_digest 180 = .ok (.aload_n 0, 1) := by decide +kernel
theorem dX11_digest_181 : decode cX11_digest 181 = .ok (.getfield 39, 3) := by decide +kernel
theorem dX11_digest_184 : decode cX11_digest 184 = .ok (.i2l, 1) := by decide +kernel
theorem dX11_digest_185 : decode cX11_digest 185 = .ok (.invokevirtual 313, 3) := by decide +kernel
theorem dX11_digest_188 : decode cX11_digest 188 = .ok (.aload_n 0, 1) := by decide +kernel
theorem dX11_digest_189 : decode cX11_digest 189 = .ok (.aload_n 0, 1) := by decide +kernel
theorem dX11_digest_190 : decode cX11_digest 190 = .ok (.getfield 43, 3) := by decide +kernel
theorem dX11_digest_193 : decode cX11_digest 193 = .ok (.i2l, 1) := by decide +kernel
theorem dX11_digest_194 : decode cX11_digest 194 = .ok (.invokevirtual 313, 3) := by decide +kernel
theorem dX11_digest_197 : decode cX11_digest 197 = .ok (.iconst 0, 1) := by decide +kernel
theorem dX11_digest_198 : decode cX11_digest 198 = .ok (.istore_n 3, 1) := by decide +kernel
theorem dX11_digest_199 : decode cX11_digest 199 = .ok (.iload_n 3, 1) := by decide +kernel
theorem dX11_digest_200 : decode cX11_digest 200 = .ok (.aload_n 0, 1) := by decide +kernel
theorem dX11_digest_201 : decode cX11_digest 201 = .ok (.getfield 133, 3) := by decide +kernel
theorem dX11_digest_204 : decode cX11_digest 204 = .ok (.if_icmp .ge 20, 3) := by decide +kernel
theorem dX11_digest_207 : decode cX11_digest 207 = .ok (.aload_n 0, 1) := by decide +kernel
theorem dX11_digest_208 : decode cX11_digest 208 = .ok (.aload_n 0, 1) := by decide +kernel
theorem dX11_digest_209 : decode cX11_digest 209 = .ok (.getfield 19, 3) := by decide +kernel
theorem dX11_digest_212 : decode cX11_digest 212 = .ok (.iload_n 3, 1) := by decide +kernel
theorem dX11_digest_213 : decode cX11_digest 213 = .ok (.baload, 1) := by decide +kernel
theorem dX11_digest_214 : decode cX11_digest 214 = .ok (.i2l, 1) := by decide +kernel
theorem dX11_digest_215 : decode cX11_digest 215 = .ok (.invokevirtual 313, 3) := by decide +kernel
theorem dX11_digest_218 : decode cX11_digest 218 = .ok (.iinc 3 1, 3) := by decide +kernel
theorem dX11_digest_221 : decode cX11_digest 221 = .ok (.goto (-22), 3) := by decide +kernel
theorem dX11_digest_224 : decode cX11_digest 224 = .ok (.iconst 0, 1) := by decide +kernel
theorem dX11_digest_225 : decode cX11_digest 225 = .ok (.istore_n 3, 1) := by decide +kernel
theorem dX11_digest_226 : decode cX11_digest 226 = .ok (.iload_n 3, 1) := by decide +kernel
theorem dX11_digest_227 : decode cX11_digest 227 = .ok (.bipush 7, 2) := by decide +kernel
theorem dX11_digest_229 : decode cX11_digest 229 = .ok (.if_icmp .ge 19, 3) := by decide +kernel
theorem dX11_digest_232 : decode cX11_digest 232 = .ok (.aload_n 0, 1) := by decide +kernel
theorem dX11_digest_233 : decode cX11_digest 233 = .ok (.aload_n 0, 1) := by decide +kernel
theorem dX11_digest_234 : decode cX11_digest 234 = .ok (.iload_n 3, 1) := by decide +kernel
theorem dX11_digest_235 : decode cX11_digest 235 = .ok (.invokevirtual 302, 3) := by decide +kernel
theorem dX11_digest_238 : decode cX11_digest 238 = .ok (.i2l, 1) := by decide +kernel
theorem dX11_digest_239 : decode cX11_digest 239 = .ok (.invokevirtual 313, 3) := by decide +kernel
theorem dX11_digest_242 : decode cX11_digest 242 = .ok (.iinc 3 1, 3) := by decide +kernel
theorem dX11_digest_245 : decode cX11_digest 245 = .ok (.goto (-19), 3) := by decide +kernel
theorem dX11_digest_248 : decode cX11_digest 248 = .ok (.aload_n 0, 1) := by decide +kernel
theorem dX11_digest_249 : decode cX11_digest 249 = .ok (.getfield 307, 3) := by decide +kernel
theorem dX11_digest_252 : decode cX11_digest 252 = .ok (.lreturn, 1) := by decide +kernel
end
section
theorem dL_law_0 : decode cL_law 0 = .ok (.new 7, 3) := by decide +kernel
theorem dL_law_3 : decode cL_law 3 = .ok (.dup, 1) := by decide +kernel
theorem dL_law_4 : decode cL_law 4 = .ok (.invokespecial 9, 3) := by decide +kernel
theorem dL_law_7 : decode cL_law 7 = .ok (.astore_n 1, 1) := by decide +kernel
theorem dL_law_8 : decode cL_law 8 = .ok (.new 10, 3) := by decide +kernel
theorem dL_law_11 : decode cL_law 11 = .ok (.dup, 1) := by decide +kernel
theorem dL_law_12 : decode cL_law 12 = .ok (.invokespecial 12, 3) := by decide +kernel
theorem dL_law_15 : decode cL_law 15 = .ok (.astore_n 2, 1) := by decide +kernel
theorem dL_law_16 : decode cL_law 16 = .ok (.iconst 0, 1) := by decide +kernel
theorem dL_law_17 : decode cL_law 17 = .ok (.istore_n 3, 1) := by decide +kernel
theorem dL_law_18 : decode cL_law 18 = .ok (.iload_n 3, 1) := by decide +kernel
theorem dL_law_19 : decode cL_law 19 = .ok (.aload_n 0, 1) := by decide +kernel
theorem dL_law_20 : decode cL_law 20 = .ok (.arraylength, 1) := by decide +kernel
theorem dL_law_21 : decode cL_law 21 = .ok (.iconst 5, 1) := by decide +kernel
theorem dL_law_22 : decode cL_law 22 = .ok (.isub, 1) := by decide +kernel
theorem dL_law_23 : decode cL_law 23 = .ok (.if_icmp .gt 1191, 3) := by decide +kernel
theorem dL_law_26 : decode cL_law 26 = .ok (.aload_n 0, 1) := by decide +kernel
theorem dL_law_27 : decode cL_law 27 = .ok (.iload_n 3, 1) := by decide +kernel
theorem dL_law_28 : decode cL_law 28 = .ok (.iaload, 1) := by decide +kernel
theorem dL_law_29 : decode cL_law 29 = .ok (.bipush 63, 2) := by decide +kernel
theorem dL_law_31 : decode cL_law 31 = .ok (.iand, 1) := by decide +kernel
theorem dL_law_32 : decode cL_law 32 = .ok (.tableswitch 1176 0 33 #[152, 185, 218, 271, 284, 297, 320, 333, 366, 399, 413, 466, 479, 502, 515, 528, 541, 590, 653, 676, 710, 764, 828, 881, 924, 947, 990, 1003, 1027, 1060, 1083, 1096, 1139, 1162], 152) := by decide +kernel
theorem dL_law_184 : decode cL_law 184 = .ok (.aload_n 1, 1) := by decide +kernel
theorem dL_law_185 : decode cL_law 185 = .ok (.aload_n 0, 1) := by decide +kernel
theorem dL_law_186 : decode cL_law 186 = .ok (.iload_n 3, 1) := by decide +kernel
theorem dL_law_187 : decode cL_law 187 = .ok (.iconst 1, 1) := by decide +kernel
theorem dL_law_188 : decode cL_law 188 = .ok (.iadd, 1) := by decide +kernel
theorem dL_law_189 : decode cL_law 189 = .ok (.iaload, 1) := by decide +kernel
theorem dL_law_190 : decode cL_law 190 = .ok (.aload_n 0, 1) := by decide +kernel
theorem dL_law_191 : decode cL_law 191 = .ok (.iload_n 3, 1) := by decide +kernel
theorem dL_law_192 : decode cL_law 192 = .ok (.iconst 2, 1) := by decide +kernel
theorem dL_law_193 : decode cL_law 193 = .ok (.iadd, 1) := by decide +kernel
theorem dL_law_194 : decode cL_law 194 = .ok (.iaload, 1) := by decide +kernel
theorem dL_law_195 : decode cL_law 195 = .ok (.invokevirtual 13, 3) := by decide +kernel
theorem dL_law_198 : decode cL_law 198 = .ok (.aload_n 2, 1) := by decide +kernel
theorem dL_law_199 : decode cL_law 199 = .ok (.aload_n 0, 1) := by decide +kernel
theorem dL_law_200 : decode cL_law 200 = .ok (.iload_n 3, 1) := by decide +kernel
theorem dL_law_201 : decode cL_law 201 = .ok (.iconst 1, 1) := by decide +kernel
theorem dL_law_202 : decode cL_law 202 = .ok (.iadd, 1) := by decide +kernel
theorem dL_law_203 : decode cL_law 203 = .ok (.iaload, 1) := by decide +kernel
theorem dL_law_204 : decode cL_law 204 = .ok (.aload_n 0, 1) := by decide +kernel
theorem dL_law_205 : decode cL_law 205 = .ok (.iload_n 3, 1) := by decide +kernel
theorem dL_law_206 : decode cL_law 206 = .ok (.iconst 2, 1) := by decide +kernel
theorem dL_law_207 : decode cL_law 207 = .ok (.iadd, 1) := by decide +kernel
theorem dL_law_208 : decode cL_law 208 = .ok (.iaload, 1) := by decide +kernel
theorem dL_law_209 : decode cL_law 209 = .ok (.invokevirtual 17, 3) := by decide +kernel
theorem dL_law_212 : decode cL_law 212 = .ok (.if_icmp .eq 996, 3) := by decide +kernel
theorem dL_law_215 : decode cL_law 215 = .ok (.iconst 0, 1) := by decide +kernel
theorem dL_law_216 : decode cL_law 216 = .ok (.ireturn, 1) := by decide +kernel
theorem dL_law_217 : decode cL_law 217 = .ok (.aload_n 1, 1) := by decide +kernel
theorem dL_law_218 : decode cL_law 218 = .ok (.aload_n 0, 1) := by decide +kernel
theorem dL_law_219 : decode cL_law 219 = .ok (.iload_n 3, 1) := by decide +kernel
theorem dL_law_220 : decode cL_law 220 = .ok (.iconst 1, 1) := by decide +kernel
theorem dL_law_221 : decode cL_law 221 = .ok (.iadd, 1) := by decide +kernel
theorem dL_law_222 : decode cL_law 222 = .ok (.iaload, 1) := by decide +kernel
theorem dL_law_223 : decode cL_law 223 = .ok (.aload_n 0, 1) := by decide +kernel
theorem dL_law_224 : decode cL_law 224 = .ok (.iload_n 3, 1) := by decide +kernel
theorem dL_law_225 : decode cL_law 225 = .ok (.iconst 2, 1) := by decide +kernel
theorem dL_law_226 : decode cL_law 226 = .ok (.iadd, 1) := by decide +kernel
theorem dL_law_227 : decode cL_law 227 = .ok (.iaload, 1) := by decide +kernel
theorem dL_law_228 : decode cL_law 228 = .ok (.invokevirtual 18, 3) := by decide +kernel
theorem dL_law_231 : decode cL_law 231 = .ok (.aload_n 2, 1) := by decide +kernel
theorem dL_law_232 : decode cL_law 232 = .ok (.aload_n 0, 1) := by decide +kernel
theorem dL_law_233 : decode cL_law 233 = .ok (.iload_n 3, 1) := by decide +kernel
theorem dL_law_234 : decode cL_law 234 = .ok (.iconst 1, 1) := by decide +kernel
theorem dL_law_235 : decode cL_law 235 = .ok (.iadd, 1) := by decide +kernel
theorem dL_law_236 : decode cL_law 236 = .ok (.iaload, 1) := by decide +kernel
theorem dL_law_237 : decode cL_law 237 = .ok (.aload_n 0, 1) := by decide +kernel
theorem dL_law_238 : decode cL_law 238 = .ok (.iload_n 3, 1) := by decide +kernel
theorem dL_law_239 : decode cL_law 239 = .ok (.iconst 2, 1) := by decide +kernel
theorem dL_law_240 : decode cL_law 240 = .ok (.iadd, 1) := by decide +kernel
theorem dL_law_241 : decode cL_law 241 = .ok (.iaload, 1) := by decide +kernel
theorem dL_law_242 : decode cL_law 242 = .ok (.invokevirtual 21, 3) := by decide +kernel
theorem dL_law_245 : decode cL_law 245 = .ok (.if_icmp .eq 963, 3) := by decide +kernel
theorem dL_law_248 : decode cL_law 248 = .ok (.iconst 0, 1) := by decide +kernel
theorem dL_law_249 : decode cL_law 249 = .ok (.ireturn, 1) := by decide +kernel
theorem dL_law_250 : decode cL_law 250 = .ok (.aload_n 1, 1) := by decide +kernel
theorem dL_law_251 : decode cL_law 251 = .ok (.aload_n 0, 1) := by decide +kernel
theorem dL_law_252 : decode cL_law 252 = .ok (.iload_n 3, 1) := by decide +kernel
theorem dL_law_253 : decode cL_law 253 = .ok (.iconst 1, 1) := by decide +kernel
theorem dL_law_254 : decode cL_law 254 = .ok (.iadd, 1) := by decide +kernel
theorem dL_law_255 : decode cL_law 255 = .ok (.iaload, 1) := by decide +kernel
theorem dL_law_256 : decode cL_law 256 = .ok (.aload_n 0, 1) := by decide +kernel
theorem dL_law_257 : decode cL_law 257 = .ok (.iload_n 3, 1) := by decide +kernel
theorem dL_law_258 : decode cL_law 258 = .ok (.iconst 2, 1) := by decide +kernel
theorem dL_law_259 : decode cL_law 259 = .ok (.iadd, 1) := by decide +kernel
theorem dL_law_260 : decode cL_law 260 = .ok (.iaload, 1) := by decide +kernel
theorem dL_law_261 : decode cL_law 261 = .ok (.aload_n 0, 1) := by decide +kernel
theorem dL_law_262 : decode cL_law 262 = .ok (.iload_n 3, 1) := by decide +kernel
theorem dL_law_263 : decode cL_law 263 = .ok (.iconst 3, 1) := by decide +kernel
theorem dL_law_264 : decode cL_law 264 = .ok (.iadd, 1) := by decide +kernel
theorem dL_law_265 : decode cL_law 265 = .ok (.iaload, 1) := by decide +kernel
theorem dL_law_266 : decode cL_law 266 = .ok (.aload_n 0, 1) := by decide +kernel
theorem dL_law_267 : decode cL_law 267 = .ok (.iload_n 3, 1) := by decide +kernel
theorem dL_law_268 : decode cL_law 268 = .ok (.iconst 4, 1) := by decide +kernel
theorem dL_law_269 : decode cL_law 269 = .ok (.iadd, 1) := by decide +kernel
theorem dL_law_270 : decode cL_law 270 = .ok (.iaload, 1) := by decide +kernel
theorem dL_law_271 : decode cL_law 271 = .ok (.invokevirtual 22, 3) := by decide +kernel
theorem dL_law_274 : decode cL_law 274 = .ok (.aload_n 2, 1) := by decide +kernel
theorem dL_law_275 : decode cL_law 275 = .ok (.aload_n 0, 1) := by decide +kernel
theorem dL_law_276 : decode cL_law 276 = .ok (.iload_n 3, 1) := by decide +kernel
theorem dL_law_277 : decode cL_law 277 = .ok (.iconst 1, 1) := by decide +kernel
theorem dL_law_278 : decode cL_law 278 = .ok (.iadd, 1) := by decide +kernel
theorem dL_law_279 : decode cL_law 279 = .ok (.iaload, 1) := by decide +kernel
theorem dL_law_280 : decode cL_law 280 = .ok (.aload_n 0, 1) := by decide +kernel
theorem dL_law_281 : decode cL_law 281 = .ok (.iload_n 3, 1) := by decide +kernel
theorem dL_law_282 : decode cL_law 282 = .ok (.iconst 2, 1) := by decide +kernel
theorem dL_law_283 : decode cL_law 283 = .ok (.iadd, 1) := by decide +kernel
theorem dL_law_284 : decode cL_law 284 = .ok (.iaload, 1) := by decide +kernel
theorem dL_law_285 : decode cL_law 285 = .ok (.aload_n 0, 1) := by decide +kernel
theorem dL_law_286 : decode cL_law 286 = .ok (.iload_n 3, 1) := by decide +kernel
theorem dL_law_287 : decode cL_law 287 = .ok (.iconst 3, 1) := by decide +kernel
theorem dL_law_288 : decode cL_law 288 = .ok (.iadd, 1) := by decide +kernel
theorem dL_law_289 : decode cL_law 289 = .ok (.iaload, 1) := by decide +kernel
theorem dL_law_290 : decode cL_law 290 = .ok (.aload_n 0, 1) := by decide +kernel
theorem dL_law_291 : decode cL_law 291 = .ok (.iload_n 3, 1) := by decide +kernel
theorem dL_law_292 : decode cL_law 292 = .ok (.iconst 4, 1) := by decide +kernel
theorem dL_law_293 : decode cL_law 293 = .ok (.iadd, 1) := by decide +kernel
theorem dL_law_294 : decode cL_law 294 = .ok (.iaload, 1) := by decide +kernel
theorem dL_law_295 : decode cL_law 295 = .ok (.invokevirtual 26, 3) := by decide +kernel
theorem dL_law_298 : decode cL_law 298 = .ok (.if_icmp .eq 910, 3) := by decide +kernel
theorem dL_law_301 : decode cL_law 301 = .ok (.iconst 0, 1) := by decide +kernel
theorem dL_law_302 : decode cL_law 302 = .ok (.ireturn, 1) := by decide +kernel
theorem dL_law_303 : decode cL_law 303 = .ok (.aload_n 1, 1) := by decide +kernel
theorem dL_law_304 : decode cL_law 304 = .ok (.invokevirtual 27, 3) := by decide +kernel
theorem dL_law_307 : decode cL_law 307 = .ok (.aload_n 2, 1) := by decide +kernel
theorem dL_law_308 : decode cL_law 308 = .ok (.invokevirtual 31, 3) := by decide +kernel
theorem dL_law_311 : decode cL_law 311 = .ok (.if_icmp .eq 897, 3) := by decide +kernel
theorem dL_law_314 : decode cL_law 314 = .ok (.iconst 0, 1) := by decide +kernel
theorem dL_law_315 : decode cL_law 315 = .ok (.ireturn, 1) := by decide +kernel
theorem dL_law_316 : decode cL_law 316 = .ok (.aload_n 1, 1) := by decide +kernel
theorem dL_law_317 : decode cL_law 317 = .ok (.invokevirtual 32, 3) := by decide +kernel
theorem dL_law_320 : decode cL_law 320 = .ok (.aload_n 2, 1) := by decide +kernel
theorem dL_law_321 : decode cL_law 321 = .ok (.invokevirtual 35, 3) := by decide +kernel
theorem dL_law_324 : decode cL_law 324 = .ok (.if_icmp .eq 884, 3) := by decide +kernel
theorem dL_law_327 : decode cL_law 327 = .ok (.iconst 0, 1) := by decide +kernel
theorem dL_law_328 : decode cL_law 328 = .ok (.ireturn, 1) := by decide +kernel
theorem dL_law_329 : decode cL_law 329 = .ok (.aload_n 1, 1) := by decide +kernel
theorem dL_law_330 : decode cL_law 330 = .ok (.aload_n 0, 1) := by decide +kernel
theorem dL_law_331 : decode cL_law 331 = .ok (.iload_n 3, 1) := by decide +kernel
theorem dL_law_332 : decode cL_law 332 = .ok (.iconst 1, 1) := by decide +kernel
theorem dL_law_333 : decode cL_law 333 = .ok (.iadd, 1) := by decide +kernel
theorem dL_law_334 : decode cL_law 334 = .ok (.iaload, 1) := by decide +kernel
theorem dL_law_335 : decode cL_law 335 = .ok (.invokevirtual 36, 3) := by decide +kernel
theorem dL_law_338 : decode cL_law 338 = .ok (.aload_n 2, 1) := by decide +kernel
theorem dL_law_339 : decode cL_law 339 = .ok (.aload_n 0, 1) := by decide +kernel
theorem dL_law_340 : decode cL_law 340 = .ok (.iload_n 3, 1) := by decide +kernel
theorem dL_law_341 : decode cL_law 341 = .ok (.iconst 1, 1) := by decide +kernel
theorem dL_law_342 : decode cL_law 342 = .ok (.iadd, 1) := by decide +kernel
theorem dL_law_343 : decode cL_law 343 = .ok (.iaload, 1) := by decide +kernel
theorem dL_law_344 : decode cL_law 344 = .ok (.invokevirtual 40, 3) := by decide +kernel
theorem dL_law_347 : decode cL_law 347 = .ok (.if_icmp .eq 861, 3) := by decide +kernel
theorem dL_law_350 : decode cL_law 350 = .ok (.iconst 0, 1) := by decide +kernel
theorem dL_law_351 : decode cL_law 351 = .ok (.ireturn, 1) := by decide +kernel
theorem dL_law_352 : decode cL_law 352 = .ok (.aload_n 1, 1) := by decide +kernel
theorem dL_law_353 : decode cL_law 353 = .ok (.invokevirtual 41, 3) := by decide +kernel
theorem dL_law_356 : decode cL_law 356 = .ok (.aload_n 2, 1) := by decide +kernel
theorem dL_law_357 : decode cL_law 357 = .ok (.invokevirtual 44, 3) := by decide +kernel
theorem dL_law_360 : decode cL_law 360 = .ok (.if_icmp .eq 848, 3) := by decide +kernel
theorem dL_law_363 : decode cL_law 363 = .ok (.iconst 0, 1) := by decide +kernel
theorem dL_law_364 : decode cL_law 364 = .ok (.ireturn, 1) := by decide +kernel
theorem dL_law_365 : decode cL_law 365 = .ok (.aload_n 1, 1) := by decide +kernel
theorem dL_law_366 : decode cL_law 366 = .ok (.aload_n 0, 1) := by decide +kernel
theorem dL_law_367 : decode cL_law 367 = .ok (.iload_n 3, 1) := by decide +kernel
theorem dL_law_368 : decode cL_law 368 = .ok (.iconst 1, 1) := by decide +kernel
theorem dL_law_369 : decode cL_law 369 = .ok (.iadd, 1) := by decide +kernel
theorem dL_law_370 : decode cL_law 370 = .ok (.iaload, 1) := by decide +kernel
theorem dL_law_371 : decode cL_law 371 = .ok (.aload_n 0, 1) := by decide +kernel
theorem dL_law_372 : decode cL_law 372 = .ok (.iload_n 3, 1) := by decide +kernel
theorem dL_law_373 : decode cL_law 373 = .ok (.iconst 2, 1) := by decide +kernel
theorem dL_law_374 : decode cL_law 374 = .ok (.iadd, 1) := by decide +kernel
theorem dL_law_375 : decode cL_law 375 = .ok (.iaload, 1) := by decide +kernel
theorem dL_law_376 : decode cL_law 376 = .ok (.invokevirtual 45, 3) := by decide +kernel
theorem dL_law_379 : decode cL_law 379 = .ok (.aload_n 2, 1) := by decide +kernel
theorem dL_law_380 : decode cL_law 380 = .ok (.aload_n 0, 1) := by decide +kernel
theorem dL_law_381 : decode cL_law 381 = .ok (.iload_n 3, 1) := by decide +kernel
theorem dL_law_382 : decode cL_law 382 = .ok (.iconst 1, 1) := by decide +kernel
theorem dL_law_383 : decode cL_law 383 = .ok (.iadd, 1) := by decide +kernel
theorem dL_law_384 : decode cL_law 384 = .ok (.iaload, 1) := by decide +kernel
theorem dL_law_385 : decode cL_law 385 = .ok (.aload_n 0, 1) := by decide +kernel
theorem dL_law_386 : decode cL_law 386 = .ok (.iload_n 3, 1) := by decide +kernel
theorem dL_law_387 : decode cL_law 387 = .ok (.iconst 2, 1) := by decide +kernel
theorem dL_law_388 : decode cL_law 388 = .ok (.iadd, 1) := by decide +kernel
theorem dL_law_389 : decode cL_law 389 = .ok (.iaload, 1) := by decide +kernel
theorem dL_law_390 : decode cL_law 390 = .ok (.invokevirtual 48, 3) := by decide +kernel
theorem dL_law_393 : decode cL_law 393 = .ok (.if_icmp .eq 815, 3) := by decide +kernel
theorem dL_law_396 : decode cL_law 396 = .ok (.iconst 0, 1) := by decide +kernel
theorem dL_law_397 : decode cL_law 397 = .ok (.ireturn, 1) := by decide +kernel
theorem dL_law_398 : decode cL_law 398 = .ok (.aload_n 1, 1) := by decide +kernel
theorem dL_law_399 : decode cL_law 399 = .ok (.aload_n 0, 1) := by decide +kernel
theorem dL_law_400 : decode cL_law 400 = .ok (.iload_n 3, 1) := by decide +kernel
theorem dL_law_401 : decode cL_law 401 = .ok (.iconst 1, 1) := by decide +kernel
theorem dL_law_402 : decode cL_law 402 = .ok (.iadd, 1) := by decide +kernel
theorem dL_law_403 : decode cL_law 403 = .ok (.iaload, 1) := by decide +kernel
theorem dL_law_404 : decode cL_law 404 = .ok (.aload_n 0, 1) := by decide +kernel
theorem dL_law_405 : decode cL_law 405 = .ok (.iload_n 3, 1) := by decide +kernel
theorem dL_law_406 : decode cL_law 406 = .ok (.iconst 2, 1) := by decide +kernel
theorem dL_law_407 : decode cL_law 407 = .ok (.iadd, 1) := by decide +kernel
theorem dL_law_408 : decode cL_law 408 = .ok (.iaload, 1) := by decide +kernel
theorem dL_law_409 : decode cL_law 409 = .ok (.invokevirtual 49, 3) := by decide +kernel
theorem dL_law_412 : decode cL_law 412 = .ok (.aload_n 2, 1) := by decide +kernel
theorem dL_law_413 : decode cL_law 413 = .ok (.aload_n 0, 1) := by decide +kernel
theorem dL_law_414 : decode cL_law 414 = .ok (.iload_n 3, 1) := by decide +kernel
theorem dL_law_415 : decode cL_law 415 = .ok (.iconst 1, 1) := by decide +kernel
theorem dL_law_416 : decode cL_law 416 = .ok (.iadd, 1) := by decide +kernel
theorem dL_law_417 : decode cL_law 417 = .ok (.iaload, 1) := by decide +kernel
theorem dL_law_418 : decode cL_law 418 = .ok (.aload_n 0, 1) := by decide +kernel
theorem dL_law_419 : decode cL_law 419 = .ok (.iload_n 3, 1) := by decide +kernel
theorem dL_law_420 : decode cL_law 420 = .ok (.iconst 2, 1) := by decide +kernel
theorem dL_law_421 : decode cL_law 421 = .ok (.iadd, 1) := by decide +kernel
theorem dL_law_422 : decode cL_law 422 = .ok (.iaload, 1) := by decide +kernel
theorem dL_law_423 : decode cL_law 423 = .ok (.invokevirtual 52, 3) := by decide +kernel
theorem dL_law_426 : decode cL_law 426 = .ok (.if_icmp .eq 782, 3) := by decide +kernel
theorem dL_law_429 : decode cL_law 429 = .ok (.iconst 0, 1) := by decide +kernel
theorem dL_law_430 : decode cL_law 430 = .ok (.ireturn, 1) := by decide +kernel
theorem dL_law_431 : decode cL_law 431 = .ok (.aload_n 1, 1) := by decide +kernel
theorem dL_law_432 : decode cL_law 432 = .ok (.invokevirtual 53, 3) := by decide +kernel
theorem dL_law_435 : decode cL_law 435 = .ok (.aload_n 2, 1) := by decide +kernel
theorem dL_law_436 : decode cL_law 436 = .ok (.invokevirtual 57, 3) := by decide +kernel
theorem dL_law_439 : decode cL_law 439 = .ok (.lcmp, 1) := by decide +kernel
theorem dL_law_440 : decode cL_law 440 = .ok (.ifCond .eq 768, 3) := by decide +kernel
theorem dL_law_443 : decode cL_law 443 = .ok (.iconst 0, 1) := by decide +kernel
theorem dL_law_444 : decode cL_law 444 = .ok (.ireturn, 1) := by decide +kernel
theorem dL_law_445 : decode cL_law 445 = .ok (.aload_n 1, 1) := by decide +kernel
theorem dL_law_446 : decode cL_law 446 = .ok (.aload_n 0, 1) := by decide +kernel
theorem dL_law_447 : decode cL_law 447 = .ok (.iload_n 3, 1) := by decide +kernel
theorem dL_law_448 : decode cL_law 448 = .ok (.iconst 1, 1) := by decide +kernel
theorem dL_law_449 : decode cL_law 449 = .ok (.iadd, 1) := by decide +kernel
theorem dL_law_450 : decode cL_law 450 = .ok (.iaload, 1) := by decide +kernel
theorem dL_law_451 : decode cL_law 451 = .ok (.i2l, 1) := by decide +kernel
theorem dL_law_452 : decode cL_law 452 = .ok (.bipush 32, 2) := by decide +kernel
theorem dL_law_454 : decode cL_law 454 = .ok (.lshl, 1) := by decide +kernel
theorem dL_law_455 : decode cL_law 455 = .ok (.aload_n 0, 1) := by decide +kernel
theorem dL_law_456 : decode cL_law 456 = .ok (.iload_n 3, 1) := by decide +kernel
theorem dL_law_457 : decode cL_law 457 = .ok (.iconst 2, 1) := by decide +kernel
theorem dL_law_458 : decode cL_law 458 = .ok (.iadd, 1) := by decide +kernel
theorem dL_law_459 : decode cL_law 459 = .ok (.iaload, 1) := by decide +kernel
theorem dL_law_460 : decode cL_law 460 = .ok (.i2l, 1) := by decide +kernel
theorem dL_law_461 : decode cL_law 461 = .ok (.ldc2_w 58, 3) := by decide +kernel
theorem dL_law_464 : decode cL_law 464 = .ok (.land, 1) := by decide +kernel
theorem dL_law_465 : decode cL_law 465 = .ok (.lor, 1) := by decide +kernel
theorem dL_law_466 : decode cL_law 466 = .ok (.invokevirtual 60, 3) := by decide +kernel
theorem dL_law_469 : decode cL_law 469 = .ok (.aload_n 2, 1) := by decide +kernel
theorem dL_law_470 : decode cL_law 470 = .ok (.aload_n 0, 1) := by decide +kernel
theorem dL_law_471 : decode cL_law 471 = .ok (.iload_n 3, 1) := by decide +kernel
theorem dL_law_472 : decode cL_law 472 = .ok (.iconst 1, 1) := by decide +kernel
theorem dL_law_473 : decode cL_law 473 = .ok (.iadd, 1) := by decide +kernel
theorem dL_law_474 : decode cL_law 474 = .ok (.iaload, 1) := by decide +kernel
theorem dL_law_475 : decode cL_law 475 = .ok (.i2l, 1) := by decide +kernel
theorem dL_law_476 : decode cL_law 476 = .ok (.bipush 32, 2) := by decide +kernel
theorem dL_law_478 : decode cL_law 478 = .ok (.lshl, 1) := by decide +kernel
theorem dL_law_479 : decode cL_law 479 = .ok (.aload_n 0, 1) := by decide +kernel
theorem dL_law_480 : decode cL_law 480 = .ok (.iload_n 3, 1) := by decide +kernel
theorem dL_law_481 : decode cL_law 481 = .ok (.iconst 2, 1) := by decide +kernel
theorem dL_law_482 : decode cL_law 482 = .ok (.iadd, 1) := by decide +kernel
theorem dL_law_483 : decode cL_law 483 = .ok (.iaload, 1) := by decide +kernel
theorem dL_law_484 : decode cL_law 484 = .ok (.i2l, 1) := by decide +kernel
theorem dL_law_485 : decode cL_law 485 = .ok (.ldc2_w 58, 3) := by decide +kernel
theorem dL_law_488 : decode cL_law 488 = .ok (.land, 1) := by decide +kernel
theorem dL_law_489 : decode cL_law 489 = .ok (.lor, 1) := by decide +kernel
theorem dL_law_490 : decode cL_law 490 = .ok (.invokevirtual 64, 3) := by decide +kernel
theorem dL_law_493 : decode cL_law 493 = .ok (.if_icmp .eq 715, 3) := by decide +kernel
theorem dL_law_496 : decode cL_law 496 = .ok (.iconst 0, 1) := by decide +kernel
theorem dL_law_497 : decode cL_law 497 = .ok (.ireturn, 1) := by decide +kernel
theorem dL_law_498 : decode cL_law 498 = .ok (.aload_n 1, 1) := by decide +kernel
theorem dL_law_499 : decode cL_law 499 = .ok (.invokevirtual 65, 3) := by decide +kernel
theorem dL_law_502 : decode cL_law 502 = .ok (.aload_n 2, 1) := by decide +kernel
theorem dL_law_503 : decode cL_law 503 = .ok (.invokevirtual 68, 3) := by decide +kernel
theorem dL_law_506 : decode cL_law 506 = .ok (.if_icmp .eq 702, 3) := by decide +kernel
theorem dL_law_509 : decode cL_law 509 = .ok (.iconst 0, 1) := by decide +kernel
theorem dL_law_510 : decode cL_law 510 = .ok (.ireturn, 1) := by decide +kernel
theorem dL_law_511 : decode cL_law 511 = .ok (.aload_n 1, 1) := by decide +kernel
theorem dL_law_512 : decode cL_law 512 = .ok (.aload_n 0, 1) := by decide +kernel
theorem dL_law_513 : decode cL_law 513 = .ok (.iload_n 3, 1) := by decide +kernel
theorem dL_law_514 : decode cL_law 514 = .ok (.iconst 1, 1) := by decide +kernel
theorem dL_law_515 : decode cL_law 515 = .ok (.iadd, 1) := by decide +kernel
theorem dL_law_516 : decode cL_law 516 = .ok (.iaload, 1) := by decide +kernel
theorem dL_law_517 : decode cL_law 517 = .ok (.invokevirtual 69, 3) := by decide +kernel
theorem dL_law_520 : decode cL_law 520 = .ok (.aload_n 2, 1) := by decide +kernel
theorem dL_law_521 : decode cL_law 521 = .ok (.aload_n 0, 1) := by decide +kernel
theorem dL_law_522 : decode cL_law 522 = .ok (.iload_n 3, 1) := by decide +kernel
theorem dL_law_523 : decode cL_law 523 = .ok (.iconst 1, 1) := by decide +kernel
theorem dL_law_524 : decode cL_law 524 = .ok (.iadd, 1) := by decide +kernel
theorem dL_law_525 : decode cL_law 525 = .ok (.iaload, 1) := by decide +kernel
theorem dL_law_526 : decode cL_law 526 = .ok (.invokevirtual 72, 3) := by decide +kernel
theorem dL_law_529 : decode cL_law 529 = .ok (.if_icmp .eq 679, 3) := by decide +kernel
theorem dL_law_532 : decode cL_law 532 = .ok (.iconst 0, 1) := by decide +kernel
theorem dL_law_533 : decode cL_law 533 = .ok (.ireturn, 1) := by decide +kernel
theorem dL_law_534 : decode cL_law 534 = .ok (.aload_n 1, 1) := by decide +kernel
theorem dL_law_535 : decode cL_law 535 = .ok (.invokevirtual 73, 3) := by decide +kernel
theorem dL_law_538 : decode cL_law 538 = .ok (.aload_n 2, 1) := by decide +kernel
theorem dL_law_539 : decode cL_law 539 = .ok (.invokevirtual 76, 3) := by decide +kernel
theorem dL_law_542 : decode cL_law 542 = .ok (.if_icmp .eq 666, 3) := by decide +kernel
theorem dL_law_545 : decode cL_law 545 = .ok (.iconst 0, 1) := by decide +kernel
theorem dL_law_546 : decode cL_law 546 = .ok (.ireturn, 1) := by decide +kernel
theorem dL_law_547 : decode cL_law 547 = .ok (.aload_n 1, 1) := by decide +kernel
theorem dL_law_548 : decode cL_law 548 = .ok (.invokevirtual 77, 3) := by decide +kernel
theorem dL_law_551 : decode cL_law 551 = .ok (.aload_n 2, 1) := by decide +kernel
theorem dL_law_552 : decode cL_law 552 = .ok (.invokevirtual 80, 3) := by decide +kernel
theorem dL_law_555 : decode cL_law 555 = .ok (.if_icmp .eq 653, 3) := by decide +kernel
theorem dL_law_558 : decode cL_law 558 = .ok (.iconst 0, 1) := by decide +kernel
theorem dL_law_559 : decode cL_law 559 = .ok (.ireturn, 1) := by decide +kernel
theorem dL_law_560 : decode cL_law 560 = .ok (.aload_n 1, 1) := by decide +kernel
theorem dL_law_561 : decode cL_law 561 = .ok (.invokevirtual 81, 3) := by decide +kernel
theorem dL_law_564 : decode cL_law 564 = .ok (.aload_n 2, 1) := by decide +kernel
theorem dL_law_565 : decode cL_law 565 = .ok (.invokevirtual 84, 3) := by decide +kernel
theorem dL_law_568 : decode cL_law 568 = .ok (.if_icmp .eq 640, 3) := by decide +kernel
theorem dL_law_571 : decode cL_law 571 = .ok (.iconst 0, 1) := by decide +kernel
theorem dL_law_572 : decode cL_law 572 = .ok (.ireturn, 1) := by decide +kernel
theorem dL_law_573 : decode cL_law 573 = .ok (.aload_n 1, 1) := by decide +kernel
theorem dL_law_574 : decode cL_law 574 = .ok (.aload_n 0, 1) := by decide +kernel
theorem dL_law_575 : decode cL_law 575 = .ok (.iload_n 3, 1) := by decide +kernel
theorem dL_law_576 : decode cL_law 576 = .ok (.iconst 1, 1) := by decide +kernel
theorem dL_law_577 : decode cL_law 577 = .ok (.iadd, 1) := by decide +kernel
theorem dL_law_578 : decode cL_law 578 = .ok (.iaload, 1) := by decide +kernel
theorem dL_law_579 : decode cL_law 579 = .ok (.aload_n 0, 1) := by decide +kernel
theorem dL_law_580 : decode cL_law 580 = .ok (.iload_n 3, 1) := by decide +kernel
theorem dL_law_581 : decode cL_law 581 = .ok (.iconst 2, 1) := by decide +kernel
theorem dL_law_582 : decode cL_law 582 = .ok (.iadd, 1) := by decide +kernel
theorem dL_law_583 : decode cL_law 583 = .ok (.iaload, 1) := by decide +kernel
theorem dL_law_584 : decode cL_law 584 = .ok (.ifCond .eq 7, 3) := by decide +kernel
theorem dL_law_587 : decode cL_law 587 = .ok (.iconst 1, 1) := by decide +kernel
theorem dL_law_588 : decode cL_law 588 = .ok (.goto 4, 3) := by decide +kernel
theorem dL_law_591 : decode cL_law 591 = .ok (.iconst 0, 1) := by decide +kernel
theorem dL_law_592 : decode cL_law 592 = .ok (.invokevirtual 85, 3) := by decide +kernel
theorem dL_law_595 : decode cL_law 595 = .ok (.aload_n 2, 1) := by decide +kernel
theorem dL_law_596 : decode cL_law 596 = .ok (.aload_n 0, 1) := by decide +kernel
theorem dL_law_597 : decode cL_law 597 = .ok (.iload_n 3, 1) := by decide +kernel
theorem dL_law_598 : decode cL_law 598 = .ok (.iconst 1, 1) := by decide +kernel
theorem dL_law_599 : decode cL_law 599 = .ok (.iadd, 1) := by decide +kernel
theorem dL_law_600 : decode cL_law 600 = .ok (.iaload, 1) := by decide +kernel
theorem dL_law_601 : decode cL_law 601 = .ok (.aload_n 0, 1) := by decide +kernel
theorem dL_law_602 : decode cL_law 602 = .ok (.iload_n 3, 1) := by decide +kernel
theorem dL_law_603 : decode cL_law 603 = .ok (.iconst 2, 1) := by decide +kernel
theorem dL_law_604 : decode cL_law 604 = .ok (.iadd, 1) := by decide +kernel
theorem dL_law_605 : decode cL_law 605 = .ok (.iaload, 1) := by decide +kernel
theorem dL_law_606 : decode cL_law 606 = .ok (.ifCond .eq 7, 3) := by decide +kernel
theorem dL_law_609 : decode cL_law 609 = .ok (.iconst 1, 1) := by decide +kernel
theorem dL_law_610 : decode cL_law 610 = .ok (.goto 4, 3) := by decide +kernel
theorem dL_law_613 : decode cL_law 613 = .ok (.iconst 0, 1) := by decide +kernel
theorem dL_law_614 : decode cL_law 614 = .ok (.invokevirtual 89, 3) := by decide +kernel
theorem dL_law_617 : decode cL_law 617 = .ok (.if_icmp .eq 591, 3) := by decide +kernel
theorem dL_law_620 : decode cL_law 620 = .ok (.iconst 0, 1) := by decide +kernel
theorem dL_law_621 : decode cL_law 621 = .ok (.ireturn, 1) := by decide +kernel
theorem dL_law_622 : decode cL_law 622 = .ok (.aload_n 1, 1) := by decide +kernel
theorem dL_law_623 : decode cL_law 623 = .ok (.aload_n 0, 1) := by decide +kernel
theorem dL_law_624 : decode cL_law 624 = .ok (.iload_n 3, 1) := by decide +kernel
theorem dL_law_625 : decode cL_law 625 = .ok (.iconst 1, 1) := by decide +kernel
theorem dL_law_626 : decode cL_law 626 = .ok (.iadd, 1) := by decide +kernel
theorem dL_law_627 : decode cL_law 627 = .ok (.iaload, 1) := by decide +kernel
theorem dL_law_628 : decode cL_law 628 = .ok (.aload_n 0, 1) := by decide +kernel
theorem dL_law_629 : decode cL_law 629 = .ok (.iload_n 3, 1) := by decide +kernel
theorem dL_law_630 : decode cL_law 630 = .ok (.iconst 2, 1) := by decide +kernel
theorem dL_law_631 : decode cL_law 631 = .ok (.iadd, 1) := by decide +kernel
theorem dL_law_632 : decode cL_law 632 = .ok (.iaload, 1) := by decide +kernel
theorem dL_law_633 : decode cL_law 633 = .ok (.i2l, 1) := by decide +kernel
theorem dL_law_634 : decode cL_law 634 = .ok (.bipush 32, 2) := by decide +kernel
theorem dL_law_636 : decode cL_law 636 = .ok (.lshl, 1) := by decide +kernel
theorem dL_law_637 : decode cL_law 637 = .ok (.aload_n 0, 1) := by decide +kernel
theorem dL_law_638 : decode cL_law 638 = .ok (.iload_n 3, 1) := by decide +kernel
theorem dL_law_639 : decode cL_law 639 = .ok (.iconst 3, 1) := by decide +kernel
theorem dL_law_640 : decode cL_law 640 = .ok (.iadd, 1) := by decide +kernel
theorem dL_law_641 : decode cL_law 641 = .ok (.iaload, 1) := by decide +kernel
theorem dL_law_642 : decode cL_law 642 = .ok (.i2l, 1) := by decide +kernel
theorem dL_law_643 : decode cL_law 643 = .ok (.ldc2_w 58, 3) := by decide +kernel
theorem dL_law_646 : decode cL_law 646 = .ok (.land, 1) := by decide +kernel
theorem dL_law_647 : decode cL_law 647 = .ok (.lor, 1) := by decide +kernel
theorem dL_law_648 : decode cL_law 648 = .ok (.invokevirtual 90, 3) := by decide +kernel
theorem dL_law_651 : decode cL_law 651 = .ok (.aload_n 2, 1) := by decide +kernel
theorem dL_law_652 : decode cL_law 652 = .ok (.aload_n 0, 1) := by decide +kernel
theorem dL_law_653 : decode cL_law 653 = .ok (.iload_n 3, 1) := by decide +kernel
theorem dL_law_654 : decode cL_law 654 = .ok (.iconst 1, 1) := by decide +kernel
theorem dL_law_655 : decode cL_law 655 = .ok (.iadd, 1) := by decide +kernel
theorem dL_law_656 : decode cL_law 656 = .ok (.iaload, 1) := by decide +kernel
theorem dL_law_657 : decode cL_law 657 = .ok (.aload_n 0, 1) := by decide +kernel
theorem dL_law_658 : decode cL_law 658 = .ok (.iload_n 3, 1) := by decide +kernel
theorem dL_law_659 : decode cL_law 659 = .ok (.iconst 2, 1) := by decide +kernel
theorem dL_law_660 : decode cL_law 660 = .ok (.iadd, 1) := by decide +kernel
theorem dL_law_661 : decode cL_law 661 = .ok (.iaload, 1) := by decide +kernel
theorem dL_law_662 : decode cL_law 662 = .ok (.i2l, 1) := by decide +kernel
theorem dL_law_663 : decode cL_law 663 = .ok (.bipush 32, 2) := by decide +kernel
theorem dL_law_665 : decode cL_law 665 = .ok (.lshl, 1) := by decide +kernel
theorem dL_law_666 : decode cL_law 666 = .ok (.aload_n 0, 1) := by decide +kernel
theorem dL_law_667 : decode cL_law 667 = .ok (.iload_n 3, 1) := by decide +kernel
theorem dL_law_668 : decode cL_law 668 = .ok (.iconst 3, 1) := by decide +kernel
theorem dL_law_669 : decode cL_law 669 = .ok (.iadd, 1) := by decide +kernel
theorem dL_law_670 : decode cL_law 670 = .ok (.iaload, 1) := by decide +kernel
theorem dL_law_671 : decode cL_law 671 = .ok (.i2l, 1) := by decide +kernel
theorem dL_law_672 : decode cL_law 672 = .ok (.ldc2_w 58, 3) := by decide +kernel
theorem dL_law_675 : decode cL_law 675 = .ok (.land, 1) := by decide +kernel
theorem dL_law_676 : decode cL_law 676 = .ok (.lor, 1) := by decide +kernel
theorem dL_law_677 : decode cL_law 677 = .ok (.invokevirtual 94, 3) := by decide +kernel
theorem dL_law_680 : decode cL_law 680 = .ok (.if_icmp .eq 528, 3) := by decide +kernel
theorem dL_law_683 : decode cL_law 683 = .ok (.iconst 0, 1) := by decide +kernel
theorem dL_law_684 : decode cL_law 684 = .ok (.ireturn, 1) := by decide +kernel
theorem dL_law_685 : decode cL_law 685 = .ok (.aload_n 1, 1) := by decide +kernel
theorem dL_law_686 : decode cL_law 686 = .ok (.aload_n 0, 1) := by decide +kernel
theorem dL_law_687 : decode cL_law 687 = .ok (.iload_n 3, 1) := by decide +kernel
theorem dL_law_688 : decode cL_law 688 = .ok (.iconst 1, 1) := by decide +kernel
theorem dL_law_689 : decode cL_law 689 = .ok (.iadd, 1) := by decide +kernel
theorem dL_law_690 : decode cL_law 690 = .ok (.iaload, 1) := by decide +kernel
theorem dL_law_691 : decode cL_law 691 = .ok (.invokevirtual 95, 3) := by decide +kernel
theorem dL_law_694 : decode cL_law 694 = .ok (.aload_n 2, 1) := by decide +kernel
theorem dL_law_695 : decode cL_law 695 = .ok (.aload_n 0, 1) := by decide +kernel
theorem dL_law_696 : decode cL_law 696 = .ok (.iload_n 3, 1) := by decide +kernel
theorem dL_law_697 : decode cL_law 697 = .ok (.iconst 1, 1) := by decide +kernel
theorem dL_law_698 : decode cL_law 698 = .ok (.iadd, 1) := by decide +kernel
theorem dL_law_699 : decode cL_law 699 = .ok (.iaload, 1) := by decide +kernel
theorem dL_law_700 : decode cL_law 700 = .ok (.invokevirtual 98, 3) := by decide +kernel
theorem dL_law_703 : decode cL_law 703 = .ok (.if_icmp .eq 505, 3) := by decide +kernel
theorem dL_law_706 : decode cL_law 706 = .ok (.iconst 0, 1) := by decide +kernel
theorem dL_law_707 : decode cL_law 707 = .ok (.ireturn, 1) := by decide +kernel
theorem dL_law_708 : decode cL_law 708 = .ok (.aload_n 1, 1) := by decide +kernel
theorem dL_law_709 : decode cL_law 709 = .ok (.aload_n 0, 1) := by decide +kernel
theorem dL_law_710 : decode cL_law 710 = .ok (.iload_n 3, 1) := by decide +kernel
theorem dL_law_711 : decode cL_law 711 = .ok (.iconst 1, 1) := by decide +kernel
theorem dL_law_712 : decode cL_law 712 = .ok (.iadd, 1) := by decide +kernel
theorem dL_law_713 : decode cL_law 713 = .ok (.iaload, 1) := by decide +kernel
theorem dL_law_714 : decode cL_law 714 = .ok (.aload_n 0, 1) := by decide +kernel
theorem dL_law_715 : decode cL_law 715 = .ok (.iload_n 3, 1) := by decide +kernel
theorem dL_law_716 : decode cL_law 716 = .ok (.iconst 2, 1) := by decide +kernel
theorem dL_law_717 : decode cL_law 717 = .ok (.iadd, 1) := by decide +kernel
theorem dL_law_718 : decode cL_law 718 = .ok (.iaload, 1) := by decide +kernel
theorem dL_law_719 : decode cL_law 719 = .ok (.invokevirtual 99, 3) := by decide +kernel
theorem dL_law_722 : decode cL_law 722 = .ok (.aload_n 2, 1) := by decide +kernel
theorem dL_law_723 : decode cL_law 723 = .ok (.aload_n 0, 1) := by decide +kernel
theorem dL_law_724 : decode cL_law 724 = .ok (.iload_n 3, 1) := by decide +kernel
theorem dL_law_725 : decode cL_law 725 = .ok (.iconst 1, 1) := by decide +kernel
theorem dL_law_726 : decode cL_law 726 = .ok (.iadd, 1) := by decide +kernel
theorem dL_law_727 : decode cL_law 727 = .ok (.iaload, 1) := by decide +kernel
theorem dL_law_728 : decode cL_law 728 = .ok (.aload_n 0, 1) := by decide +kernel
theorem dL_law_729 : decode cL_law 729 = .ok (.iload_n 3, 1) := by decide +kernel
theorem dL_law_730 : decode cL_law 730 = .ok (.iconst 2, 1) := by decide +kernel
theorem dL_law_731 : decode cL_law 731 = .ok (.iadd, 1) := by decide +kernel
theorem dL_law_732 : decode cL_law 732 = .ok (.iaload, 1) := by decide +kernel
theorem dL_law_733 : decode cL_law 733 = .ok (.invokevirtual 103, 3) := by decide +kernel
theorem dL_law_736 : decode cL_law 736 = .ok (.lcmp, 1) := by decide +kernel
theorem dL_law_737 : decode cL_law 737 = .ok (.ifCond .eq 471, 3) := by decide +kernel
theorem dL_law_740 : decode cL_law 740 = .ok (.iconst 0, 1) := by decide +kernel
theorem dL_law_741 : decode cL_law 741 = .ok (.ireturn, 1) := by decide +kernel
theorem dL_law_742 : decode cL_law 742 = .ok (.aload_n 1, 1) := by decide +kernel
theorem dL_law_743 : decode cL_law 743 = .ok (.aload_n 0, 1) := by decide +kernel
theorem dL_law_744 : decode cL_law 744 = .ok (.iload_n 3, 1) := by decide +kernel
theorem dL_law_745 : decode cL_law 745 = .ok (.iconst 1, 1) := by decide +kernel
theorem dL_law_746 : decode cL_law 746 = .ok (.iadd, 1) := by decide +kernel
theorem dL_law_747 : decode cL_law 747 = .ok (.iaload, 1) := by decide +kernel
theorem dL_law_748 : decode cL_law 748 = .ok (.i2l, 1) := by decide +kernel
theorem dL_law_749 : decode cL_law 749 = .ok (.bipush 32, 2) := by decide +kernel
theorem dL_law_751 : decode cL_law 751 = .ok (.lshl, 1) := by decide +kernel
theorem dL_law_752 : decode cL_law 752 = .ok (.aload_n 0, 1) := by decide +kernel
theorem dL_law_753 : decode cL_law 753 = .ok (.iload_n 3, 1) := by decide +kernel
theorem dL_law_754 : decode cL_law 754 = .ok (.iconst 2, 1) := by decide +kernel
theorem dL_law_755 : decode cL_law 755 = .ok (.iadd, 1) := by decide +kernel
theorem dL_law_756 : decode cL_law 756 = .ok (.iaload, 1) := by decide +kernel
theorem dL_law_757 : decode cL_law 757 = .ok (.i2l, 1) := by decide +kernel
theorem dL_law_758 : decode cL_law 758 = .ok (.ldc2_w 58, 3) := by decide +kernel
theorem dL_law_761 : decode cL_law 761 = .ok (.land, 1) := by decide +kernel
theorem dL_law_762 : decode cL_law 762 = .ok (.lor, 1) := by decide +kernel
theorem dL_law_763 : decode cL_law 763 = .ok (.invokevirtual 104, 3) := by decide +kernel
theorem dL_law_766 : decode cL_law 766 = .ok (.aload_n 2, 1) := by decide +kernel
theorem dL_law_767 : decode cL_law 767 = .ok (.aload_n 0, 1) := by decide +kernel
theorem dL_law_768 : decode cL_law 768 = .ok (.iload_n 3, 1) := by decide +kernel
theorem dL_law_769 : decode cL_law 769 = .ok (.iconst 1, 1) := by decide +kernel
theorem dL_law_770 : decode cL_law 770 = .ok (.iadd, 1) := by decide +kernel
theorem dL_law_771 : decode cL_law 771 = .ok (.iaload, 1) := by decide +kernel
theorem dL_law_772 : decode cL_law 772 = .ok (.i2l, 1) := by decide +kernel
theorem dL_law_773 : decode cL_law 773 = .ok (.bipush 32, 2) := by decide +kernel
theorem dL_law_775 : decode cL_law 775 = .ok (.lshl, 1) := by decide +kernel
theorem dL_law_776 : decode cL_law 776 = .ok (.aload_n 0, 1) := by decide +kernel
theorem dL_law_777 : decode cL_law 777 = .ok (.iload_n 3, 1) := by decide +kernel
theorem dL_law_778 : decode cL_law 778 = .ok (.iconst 2, 1) := by decide +kernel
theorem dL_law_779 : decode cL_law 779 = .ok (.iadd, 1) := by decide +kernel
theorem dL_law_780 : decode cL_law 780 = .ok (.iaload, 1) := by decide +kernel
theorem dL_law_781 : decode cL_law 781 = .ok (.i2l, 1) := by decide +kernel
theorem dL_law_782 : decode cL_law 782 = .ok (.ldc2_w 58, 3) := by decide +kernel
theorem dL_law_785 : decode cL_law 785 = .ok (.land, 1) := by decide +kernel
theorem dL_law_786 : decode cL_law 786 = .ok (.lor, 1) := by decide +kernel
theorem dL_law_787 : decode cL_law 787 = .ok (.invokevirtual 108, 3) := by decide +kernel
theorem dL_law_790 : decode cL_law 790 = .ok (.lcmp, 1) := by decide +kernel
theorem dL_law_791 : decode cL_law 791 = .ok (.ifCond .eq 417, 3) := by decide +kernel
theorem dL_law_794 : decode cL_law 794 = .ok (.iconst 0, 1) := by decide +kernel
theorem dL_law_795 : decode cL_law 795 = .ok (.ireturn, 1) := by decide +kernel
theorem dL_law_796 : decode cL_law 796 = .ok (.aload_n 1, 1) := by decide +kernel
theorem dL_law_797 : decode cL_law 797 = .ok (.aload_n 0, 1) := by decide +kernel
theorem dL_law_798 : decode cL_law 798 = .ok (.iload_n 3, 1) := by decide +kernel
theorem dL_law_799 : decode cL_law 799 = .ok (.iconst 1, 1) := by decide +kernel
theorem dL_law_800 : decode cL_law 800 = .ok (.iadd, 1) := by decide +kernel
theorem dL_law_801 : decode cL_law 801 = .ok (.iaload, 1) := by decide +kernel
theorem dL_law_802 : decode cL_law 802 = .ok (.i2l, 1) := by decide +kernel
theorem dL_law_803 : decode cL_law 803 = .ok (.bipush 32, 2) := by decide +kernel
theorem dL_law_805 : decode cL_law 805 = .ok (.lshl, 1) := by decide +kernel
theorem dL_law_806 : decode cL_law 806 = .ok (.aload_n 0, 1) := by decide +kernel
theorem dL_law_807 : decode cL_law 807 = .ok (.iload_n 3, 1) := by decide +kernel
theorem dL_law_808 : decode cL_law 808 = .ok (.iconst 2, 1) := by decide +kernel
theorem dL_law_809 : decode cL_law 809 = .ok (.iadd, 1) := by decide +kernel
theorem dL_law_810 : decode cL_law 810 = .ok (.iaload, 1) := by decide +kernel
theorem dL_law_811 : decode cL_law 811 = .ok (.i2l, 1) := by decide +kernel
theorem dL_law_812 : decode cL_law 812 = .ok (.ldc2_w 58, 3) := by decide +kernel
theorem dL_law_815 : decode cL_law 815 = .ok (.land, 1) := by decide +kernel
theorem dL_law_816 : decode cL_law 816 = .ok (.lor, 1) := by decide +kernel
theorem dL_law_817 : decode cL_law 817 = .ok (.aload_n 0, 1) := by decide +kernel
theorem dL_law_818 : decode cL_law 818 = .ok (.iload_n 3, 1) := by decide +kernel
theorem dL_law_819 : decode cL_law 819 = .ok (.iconst 3, 1) := by decide +kernel
theorem dL_law_820 : decode cL_law 820 = .ok (.iadd, 1) := by decide +kernel
theorem dL_law_821 : decode cL_law 821 = .ok (.iaload, 1) := by decide +kernel
theorem dL_law_822 : decode cL_law 822 = .ok (.invokevirtual 109, 3) := by decide +kernel
theorem dL_law_825 : decode cL_law 825 = .ok (.aload_n 2, 1) := by decide +kernel
theorem dL_law_826 : decode cL_law 826 = .ok (.aload_n 0, 1) := by decide +kernel
theorem dL_law_827 : decode cL_law 827 = .ok (.iload_n 3, 1) := by decide +kernel
theorem dL_law_828 : decode cL_law 828 = .ok (.iconst 1, 1) := by decide +kernel
theorem dL_law_829 : decode cL_law 829 = .ok (.iadd, 1) := by decide +kernel
theorem dL_law_830 : decode cL_law 830 = .ok (.iaload, 1) := by decide +kernel
theorem dL_law_831 : decode cL_law 831 = .ok (.i2l, 1) := by decide +kernel
theorem dL_law_832 : decode cL_law 832 = .ok (.bipush 32, 2) := by decide +kernel
theorem dL_law_834 : decode cL_law 834 = .ok (.lshl, 1) := by decide +kernel
theorem dL_law_835 : decode cL_law 835 = .ok (.aload_n 0, 1) := by decide +kernel
theorem dL_law_836 : decode cL_law 836 = .ok (.iload_n 3, 1) := by decide +kernel
theorem dL_law_837 : decode cL_law 837 = .ok (.iconst 2, 1) := by decide +kernel
theorem dL_law_838 : decode cL_law 838 = .ok (.iadd, 1) := by decide +kernel
theorem dL_law_839 : decode cL_law 839 = .ok (.iaload, 1) := by decide +kernel
theorem dL_law_840 : decode cL_law 840 = .ok (.i2l, 1) := by decide +kernel
theorem dL_law_841 : decode cL_law 841 = .ok (.ldc2_w 58, 3) := by decide +kernel
theorem dL_law_844 : decode cL_law 844 = .ok (.land, 1) := by decide +kernel
theorem dL_law_845 : decode cL_law 845 = .ok (.lor, 1) := by decide +kernel
theorem dL_law_846 : decode cL_law 846 = .ok (.aload_n 0, 1) := by decide +kernel
theorem dL_law_847 : decode cL_law 847 = .ok (.iload_n 3, 1) := by decide +kernel
theorem dL_law_848 : decode cL_law 848 = .ok (.iconst 3, 1) := by decide +kernel
theorem dL_law_849 : decode cL_law 849 = .ok (.iadd, 1) := by decide +kernel
theorem dL_law_850 : decode cL_law 850 = .ok (.iaload, 1) := by decide +kernel
theorem dL_law_851 : decode cL_law 851 = .ok (.invokevirtual 113, 3) := by decide +kernel
theorem dL_law_854 : decode cL_law 854 = .ok (.lcmp, 1) := by decide +kernel
theorem dL_law_855 : decode cL_law 855 = .ok (.ifCond .eq 353, 3) := by decide +kernel
theorem dL_law_858 : decode cL_law 858 = .ok (.iconst 0, 1) := by decide +kernel
theorem dL_law_859 : decode cL_law 859 = .ok (.ireturn, 1) := by decide +kernel
theorem dL_law_860 : decode cL_law 860 = .ok (.aload_n 1, 1) := by decide +kernel
theorem dL_law_861 : decode cL_law 861 = .ok (.aload_n 0, 1) := by decide +kernel
theorem dL_law_862 : decode cL_law 862 = .ok (.iload_n 3, 1) := by decide +kernel
theorem dL_law_863 : decode cL_law 863 = .ok (.iconst 1, 1) := by decide +kernel
theorem dL_law_864 : decode cL_law 864 = .ok (.iadd, 1) := by decide +kernel
theorem dL_law_865 : decode cL_law 865 = .ok (.iaload, 1) := by decide +kernel
theorem dL_law_866 : decode cL_law 866 = .ok (.i2l, 1) := by decide +kernel
theorem dL_law_867 : decode cL_law 867 = .ok (.bipush 32, 2) := by decide +kernel
theorem dL_law_869 : decode cL_law 869 = .ok (.lshl, 1) := by decide +kernel
theorem dL_law_870 : decode cL_law 870 = .ok (.aload_n 0, 1) := by decide +kernel
theorem dL_law_871 : decode cL_law 871 = .ok (.iload_n 3, 1) := by decide +kernel
theorem dL_law_872 : decode cL_law 872 = .ok (.iconst 2, 1) := by decide +kernel
theorem dL_law_873 : decode cL_law 873 = .ok (.iadd, 1) := by decide +kernel
theorem dL_law_874 : decode cL_law 874 = .ok (.iaload, 1) := by decide +kernel
theorem dL_law_875 : decode cL_law 875 = .ok (.i2l, 1) := by decide +kernel
theorem dL_law_876 : decode cL_law 876 = .ok (.ldc2_w 58, 3) := by decide +kernel
theorem dL_law_879 : decode cL_law 879 = .ok (.land, 1) := by decide +kernel
theorem dL_law_880 : decode cL_law 880 = .ok (.lor, 1) := by decide +kernel
theorem dL_law_881 : decode cL_law 881 = .ok (.invokevirtual 114, 3) := by decide +kernel
theorem dL_law_884 : decode cL_law 884 = .ok (.aload_n 2, 1) := by decide +kernel
theorem dL_law_885 : decode cL_law 885 = .ok (.aload_n 0, 1) := by decide +kernel
theorem dL_law_886 : decode cL_law 886 = .ok (.iload_n 3, 1) := by decide +kernel
theorem dL_law_887 : decode cL_law 887 = .ok (.iconst 1, 1) := by decide +kernel
theorem dL_law_888 : decode cL_law 888 = .ok (.iadd, 1) := by decide +kernel
theorem dL_law_889 : decode cL_law 889 = .ok (.iaload, 1) := by decide +kernel
theorem dL_law_890 : decode cL_law 890 = .ok (.i2l, 1) := by decide +kernel
theorem dL_law_891 : decode cL_law 891 = .ok (.bipush 32, 2) := by decide +kernel
theorem dL_law_893 : decode cL_law 893 = .ok (.lshl, 1) := by decide +kernel
theorem dL_law_894 : decode cL_law 894 = .ok (.aload_n 0, 1) := by decide +kernel
theorem dL_law_895 : decode cL_law 895 = .ok (.iload_n 3, 1) := by decide +kernel
theorem dL_law_896 : decode cL_law 896 = .ok (.iconst 2, 1) := by decide +kernel
theorem dL_law_897 : decode cL_law 897 = .ok (.iadd, 1) := by decide +kernel
theorem dL_law_898 : decode cL_law 898 = .ok (.iaload, 1) := by decide +kernel
theorem dL_law_899 : decode cL_law 899 = .ok (.i2l, 1) := by decide +kernel
theorem dL_law_900 : decode cL_law 900 = .ok (.ldc2_w 58, 3) := by decide +kernel
theorem dL_law_903 : decode cL_law 903 = .ok (.land, 1) := by decide +kernel
theorem dL_law_904 : decode cL_law 904 = .ok (.lor, 1) := by decide +kernel
theorem dL_law_905 : decode cL_law 905 = .ok (.invokevirtual 117, 3) := by decide +kernel
theorem dL_law_908 : decode cL_law 908 = .ok (.if_icmp .eq 300, 3) := by decide +kernel
theorem dL_law_911 : decode cL_law 911 = .ok (.iconst 0, 1) := by decide +kernel
theorem dL_law_912 : decode cL_law 912 = .ok (.ireturn, 1) := by decide +kernel
theorem dL_law_913 : decode cL_law 913 = .ok (.aload_n 1, 1) := by decide +kernel
theorem dL_law_914 : decode cL_law 914 = .ok (.aload_n 0, 1) := by decide +kernel
theorem dL_law_915 : decode cL_law 915 = .ok (.iload_n 3, 1) := by decide +kernel
theorem dL_law_916 : decode cL_law 916 = .ok (.iconst 1, 1) := by decide +kernel
theorem dL_law_917 : decode cL_law 917 = .ok (.iadd, 1) := by decide +kernel
theorem dL_law_918 : decode cL_law 918 = .ok (.iaload, 1) := by decide +kernel
theorem dL_law_919 : decode cL_law 919 = .ok (.aload_n 0, 1) := by decide +kernel
theorem dL_law_920 : decode cL_law 920 = .ok (.iload_n 3, 1) := by decide +kernel
theorem dL_law_921 : decode cL_law 921 = .ok (.iconst 2, 1) := by decide +kernel
theorem dL_law_922 : decode cL_law 922 = .ok (.iadd, 1) := by decide +kernel
theorem dL_law_923 : decode cL_law 923 = .ok (.iaload, 1) := by decide +kernel
theorem dL_law_924 : decode cL_law 924 = .ok (.aload_n 0, 1) := by decide +kernel
theorem dL_law_925 : decode cL_law 925 = .ok (.iload_n 3, 1) := by decide +kernel
theorem dL_law_926 : decode cL_law 926 = .ok (.iconst 3, 1) := by decide +kernel
theorem dL_law_927 : decode cL_law 927 = .ok (.iadd, 1) := by decide +kernel
theorem dL_law_928 : decode cL_law 928 = .ok (.iaload, 1) := by decide +kernel
theorem dL_law_929 : decode cL_law 929 = .ok (.invokevirtual 118, 3) := by decide +kernel
theorem dL_law_932 : decode cL_law 932 = .ok (.aload_n 2, 1) := by decide +kernel
theorem dL_law_933 : decode cL_law 933 = .ok (.aload_n 0, 1) := by decide +kernel
theorem dL_law_934 : decode cL_law 934 = .ok (.iload_n 3, 1) := by decide +kernel
theorem dL_law_935 : decode cL_law 935 = .ok (.iconst 1, 1) := by decide +kernel
theorem dL_law_936 : decode cL_law 936 = .ok (.iadd, 1) := by decide +kernel
theorem dL_law_937 : decode cL_law 937 = .ok (.iaload, 1) := by decide +kernel
theorem dL_law_938 : decode cL_law 938 = .ok (.aload_n 0, 1) := by decide +kernel
theorem dL_law_939 : decode cL_law 939 = .ok (.iload_n 3, 1) := by decide +kernel
theorem dL_law_940 : decode cL_law 940 = .ok (.iconst 2, 1) := by decide +kernel
theorem dL_law_941 : decode cL_law 941 = .ok (.iadd, 1) := by decide +kernel
theorem dL_law_942 : decode cL_law 942 = .ok (.iaload, 1) := by decide +kernel
theorem dL_law_943 : decode cL_law 943 = .ok (.aload_n 0, 1) := by decide +kernel
theorem dL_law_944 : decode cL_law 944 = .ok (.iload_n 3, 1) := by decide +kernel
theorem dL_law_945 : decode cL_law 945 = .ok (.iconst 3, 1) := by decide +kernel
theorem dL_law_946 : decode cL_law 946 = .ok (.iadd, 1) := by decide +kernel
theorem dL_law_947 : decode cL_law 947 = .ok (.iaload, 1) := by decide +kernel
theorem dL_law_948 : decode cL_law 948 = .ok (.invokevirtual 122, 3) := by decide +kernel
theorem dL_law_951 : decode cL_law 951 = .ok (.if_icmp .eq 257, 3) := by decide +kernel
theorem dL_law_954 : decode cL_law 954 = .ok (.iconst 0, 1) := by decide +kernel
theorem dL_law_955 : decode cL_law 955 = .ok (.ireturn, 1) := by decide +kernel
theorem dL_law_956 : decode cL_law 956 = .ok (.aload_n 1, 1) := by decide +kernel
theorem dL_law_957 : decode cL_law 957 = .ok (.aload_n 0, 1) := by decide +kernel
theorem dL_law_958 : decode cL_law 958 = .ok (.iload_n 3, 1) := by decide +kernel
theorem dL_law_959 : decode cL_law 959 = .ok (.iconst 1, 1) := by decide +kernel
theorem dL_law_960 : decode cL_law 960 = .ok (.iadd, 1) := by decide +kernel
theorem dL_law_961 : decode cL_law 961 = .ok (.iaload, 1) := by decide +kernel
theorem dL_law_962 : decode cL_law 962 = .ok (.invokevirtual 123, 3) := by decide +kernel
theorem dL_law_965 : decode cL_law 965 = .ok (.aload_n 2, 1) := by decide +kernel
theorem dL_law_966 : decode cL_law 966 = .ok (.aload_n 0, 1) := by decide +kernel
theorem dL_law_967 : decode cL_law 967 = .ok (.iload_n 3, 1) := by decide +kernel
theorem dL_law_968 : decode cL_law 968 = .ok (.iconst 1, 1) := by decide +kernel
theorem dL_law_969 : decode cL_law 969 = .ok (.iadd, 1) := by decide +kernel
theorem dL_law_970 : decode cL_law 970 = .ok (.iaload, 1) := by decide +kernel
theorem dL_law_971 : decode cL_law 971 = .ok (.invokevirtual 126, 3) := by decide +kernel
theorem dL_law_974 : decode cL_law 974 = .ok (.if_icmp .eq 234, 3) := by decide +kernel
theorem dL_law_977 : decode cL_law 977 = .ok (.iconst 0, 1) := by decide +kernel
theorem dL_law_978 : decode cL_law 978 = .ok (.ireturn, 1) := by decide +kernel
theorem dL_law_979 : decode cL_law 979 = .ok (.aload_n 1, 1) := by decide +kernel
theorem dL_law_980 : decode cL_law 980 = .ok (.aload_n 0, 1) := by decide +kernel
theorem dL_law_981 : decode cL_law 981 = .ok (.iload_n 3, 1) := by decide +kernel
theorem dL_law_982 : decode cL_law 982 = .ok (.iconst 1, 1) := by decide +kernel
theorem dL_law_983 : decode cL_law 983 = .ok (.iadd, 1) := by decide +kernel
theorem dL_law_984 : decode cL_law 984 = .ok (.iaload, 1) := by decide +kernel
theorem dL_law_985 : decode cL_law 985 = .ok (.aload_n 0, 1) := by decide +kernel
theorem dL_law_986 : decode cL_law 986 = .ok (.iload_n 3, 1) := by decide +kernel
theorem dL_law_987 : decode cL_law 987 = .ok (.iconst 2, 1) := by decide +kernel
theorem dL_law_988 : decode cL_law 988 = .ok (.iadd, 1) := by decide +kernel
theorem dL_law_989 : decode cL_law 989 = .ok (.iaload, 1) := by decide +kernel
theorem dL_law_990 : decode cL_law 990 = .ok (.aload_n 0, 1) := by decide +kernel
theorem dL_law_991 : decode cL_law 991 = .ok (.iload_n 3, 1) := by decide +kernel
theorem dL_law_992 : decode cL_law 992 = .ok (.iconst 3, 1) := by decide +kernel
theorem dL_law_993 : decode cL_law 993 = .ok (.iadd, 1) := by decide +kernel
theorem dL_law_994 : decode cL_law 994 = .ok (.iaload, 1) := by decide +kernel
theorem dL_law_995 : decode cL_law 995 = .ok (.invokevirtual 127, 3) := by decide +kernel
theorem dL_law_998 : decode cL_law 998 = .ok (.aload_n 2, 1) := by decide +kernel
theorem dL_law_999 : decode cL_law 999 = .ok (.aload_n 0, 1) := by decide +kernel
theorem dL_law_1000 : decode cL_law 1000 = .ok (.iload_n 3, 1) := by decide +kernel
theorem dL_law_1001 : decode cL_law 1001 = .ok (.iconst 1, 1) := by decide +kernel
theorem dL_law_1002 : decode cL_law 1002 = .ok (.iadd, 1) := by decide +kernel
theorem dL_law_1003 : decode cL_law 1003 = .ok (.iaload, 1) := by decide +kernel
theorem dL_law_1004 : decode cL_law 1004 = .ok (.aload_n 0, 1) := by decide +kernel
theorem dL_law_1005 : decode cL_law 1005 = .ok (.iload_n 3, 1) := by decide +kernel
theorem dL_law_1006 : decode cL_law 1006 = .ok (.iconst 2, 1) := by decide +kernel
theorem dL_law_1007 : decode cL_law 1007 = .ok (.iadd, 1) := by decide +kernel
theorem dL_law_1008 : decode cL_law 1008 = .ok (.iaload, 1) := by decide +kernel
theorem dL_law_1009 : decode cL_law 1009 = .ok (.aload_n 0, 1) := by decide +kernel
theorem dL_law_1010 : decode cL_law 1010 = .ok (.iload_n 3, 1) := by decide +kernel
theorem dL_law_1011 : decode cL_law 1011 = .ok (.iconst 3, 1) := by decide +kernel
theorem dL_law_1012 : decode cL_law 1012 = .ok (.iadd, 1) := by decide +kernel
theorem dL_law_1013 : decode cL_law 1013 = .ok (.iaload, 1) := by decide +kernel
theorem dL_law_1014 : decode cL_law 1014 = .ok (.invokevirtual 130, 3) := by decide +kernel
theorem dL_law_1017 : decode cL_law 1017 = .ok (.if_icmp .eq 191, 3) := by decide +kernel
theorem dL_law_1020 : decode cL_law 1020 = .ok (.iconst 0, 1) := by decide +kernel
theorem dL_law_1021 : decode cL_law 1021 = .ok (.ireturn, 1) := by decide +kernel
theorem dL_law_1022 : decode cL_law 1022 = .ok (.aload_n 1, 1) := by decide +kernel
theorem dL_law_1023 : decode cL_law 1023 = .ok (.invokevirtual 131, 3) := by decide +kernel
theorem dL_law_1026 : decode cL_law 1026 = .ok (.aload_n 2, 1) := by decide +kernel
theorem dL_law_1027 : decode cL_law 1027 = .ok (.invokevirtual 134, 3) := by decide +kernel
theorem dL_law_1030 : decode cL_law 1030 = .ok (.if_icmp .eq 178, 3) := by decide +kernel
theorem dL_law_1033 : decode cL_law 1033 = .ok (.iconst 0, 1) := by decide +kernel
theorem dL_law_1034 : decode cL_law 1034 = .ok (.ireturn, 1) := by decide +kernel
theorem dL_law_1035 : decode cL_law 1035 = .ok (.aload_n 1, 1) := by decide +kernel
theorem dL_law_1036 : decode cL_law 1036 = .ok (.aload_n 0, 1) := by decide +kernel
theorem dL_law_1037 : decode cL_law 1037 = .ok (.iload_n 3, 1) := by decide +kernel
theorem dL_law_1038 : decode cL_law 1038 = .ok (.iconst 1, 1) := by decide +kernel
theorem dL_law_1039 : decode cL_law 1039 = .ok (.iadd, 1) := by decide +kernel
theorem dL_law_1040 : decode cL_law 1040 = .ok (.iaload, 1) := by decide +kernel
theorem dL_law_1041 : decode cL_law 1041 = .ok (.invokevirtual 135, 3) := by decide +kernel
theorem dL_law_1044 : decode cL_law 1044 = .ok (.aload_n 2, 1) := by decide +kernel
theorem dL_law_1045 : decode cL_law 1045 = .ok (.aload_n 0, 1) := by decide +kernel
theorem dL_law_1046 : decode cL_law 1046 = .ok (.iload_n 3, 1) := by decide +kernel
theorem dL_law_1047 : decode cL_law 1047 = .ok (.iconst 1, 1) := by decide +kernel
theorem dL_law_1048 : decode cL_law 1048 = .ok (.iadd, 1) := by decide +kernel
theorem dL_law_1049 : decode cL_law 1049 = .ok (.iaload, 1) := by decide +kernel
theorem dL_law_1050 : decode cL_law 1050 = .ok (.invokevirtual 139, 3) := by decide +kernel
theorem dL_law_1053 : decode cL_law 1053 = .ok (.lcmp, 1) := by decide +kernel
theorem dL_law_1054 : decode cL_law 1054 = .ok (.ifCond .eq 154, 3) := by decide +kernel
theorem dL_law_1057 : decode cL_law 1057 = .ok (.iconst 0, 1) := by decide +kernel
theorem dL_law_1058 : decode cL_law 1058 = .ok (.ireturn, 1) := by decide +kernel
theorem dL_law_1059 : decode cL_law 1059 = .ok (.aload_n 1, 1) := by decide +kernel
theorem dL_law_1060 : decode cL_law 1060 = .ok (.aload_n 0, 1) := by decide +kernel
theorem dL_law_1061 : decode cL_law 1061 = .ok (.iload_n 3, 1) := by decide +kernel
theorem dL_law_1062 : decode cL_law 1062 = .ok (.iconst 1, 1) := by decide +kernel
theorem dL_law_1063 : decode cL_law 1063 = .ok (.iadd, 1) := by decide +kernel
theorem dL_law_1064 : decode cL_law 1064 = .ok (.iaload, 1) := by decide +kernel
theorem dL_law_1065 : decode cL_law 1065 = .ok (.aload_n 0, 1) := by decide +kernel
theorem dL_law_1066 : decode cL_law 1066 = .ok (.iload_n 3, 1) := by decide +kernel
theorem dL_law_1067 : decode cL_law 1067 = .ok (.iconst 2, 1) := by decide +kernel
theorem dL_law_1068 : decode cL_law 1068 = .ok (.iadd, 1) := by decide +kernel
theorem dL_law_1069 : decode cL_law 1069 = .ok (.iaload, 1) := by decide +kernel
theorem dL_law_1070 : decode cL_law 1070 = .ok (.invokevirtual 140, 3) := by decide +kernel
theorem dL_law_1073 : decode cL_law 1073 = .ok (.aload_n 2, 1) := by decide +kernel
theorem dL_law_1074 : decode cL_law 1074 = .ok (.aload_n 0, 1) := by decide +kernel
theorem dL_law_1075 : decode cL_law 1075 = .ok (.iload_n 3, 1) := by decide +kernel
theorem dL_law_1076 : decode cL_law 1076 = .ok (.iconst 1, 1) := by decide +kernel
theorem dL_law_1077 : decode cL_law 1077 = .ok (.iadd, 1) := by decide +kernel
theorem dL_law_1078 : decode cL_law 1078 = .ok (.iaload, 1) := by decide +kernel
theorem dL_law_1079 : decode cL_law 1079 = .ok (.aload_n 0, 1) := by decide +kernel
theorem dL_law_1080 : decode cL_law 1080 = .ok (.iload_n 3, 1) := by decide +kernel
theorem dL_law_1081 : decode cL_law 1081 = .ok (.iconst 2, 1) := by decide +kernel
theorem dL_law_1082 : decode cL_law 1082 = .ok (.iadd, 1) := by decide +kernel
theorem dL_law_1083 : decode cL_law 1083 = .ok (.iaload, 1) := by decide +kernel
theorem dL_law_1084 : decode cL_law 1084 = .ok (.invokevirtual 143, 3) := by decide +kernel
theorem dL_law_1087 : decode cL_law 1087 = .ok (.if_icmp .eq 121, 3) := by decide +kernel
theorem dL_law_1090 : decode cL_law 1090 = .ok (.iconst 0, 1) := by decide +kernel
theorem dL_law_1091 : decode cL_law 1091 = .ok (.ireturn, 1) := by decide +kernel
theorem dL_law_1092 : decode cL_law 1092 = .ok (.aload_n 1, 1) := by decide +kernel
theorem dL_law_1093 : decode cL_law 1093 = .ok (.aload_n 0, 1) := by decide +kernel
theorem dL_law_1094 : decode cL_law 1094 = .ok (.iload_n 3, 1) := by decide +kernel
theorem dL_law_1095 : decode cL_law 1095 = .ok (.iconst 1, 1) := by decide +kernel
theorem dL_law_1096 : decode cL_law 1096 = .ok (.iadd, 1) := by decide +kernel
theorem dL_law_1097 : decode cL_law 1097 = .ok (.iaload, 1) := by decide +kernel
theorem dL_law_1098 : decode cL_law 1098 = .ok (.invokevirtual 144, 3) := by decide +kernel
theorem dL_law_1101 : decode cL_law 1101 = .ok (.aload_n 2, 1) := by decide +kernel
theorem dL_law_1102 : decode cL_law 1102 = .ok (.aload_n 0, 1) := by decide +kernel
theorem dL_law_1103 : decode cL_law 1103 = .ok (.iload_n 3, 1) := by decide +kernel
theorem dL_law_1104 : decode cL_law 1104 = .ok (.iconst 1, 1) := by decide +kernel
theorem dL_law_1105 : decode cL_law 1105 = .ok (.iadd, 1) := by decide +kernel
theorem dL_law_1106 : decode cL_law 1106 = .ok (.iaload, 1) := by decide +kernel
theorem dL_law_1107 : decode cL_law 1107 = .ok (.invokevirtual 147, 3) := by decide +kernel
theorem dL_law_1110 : decode cL_law 1110 = .ok (.if_icmp .eq 98, 3) := by decide +kernel
theorem dL_law_1113 : decode cL_law 1113 = .ok (.iconst 0, 1) := by decide +kernel
theorem dL_law_1114 : decode cL_law 1114 = .ok (.ireturn, 1) := by decide +kernel
theorem dL_law_1115 : decode cL_law 1115 = .ok (.aload_n 1, 1) := by decide +kernel
theorem dL_law_1116 : decode cL_law 1116 = .ok (.invokevirtual 148, 3) := by decide +kernel
theorem dL_law_1119 : decode cL_law 1119 = .ok (.aload_n 2, 1) := by decide +kernel
theorem dL_law_1120 : decode cL_law 1120 = .ok (.invokevirtual 151, 3) := by decide +kernel
theorem dL_law_1123 : decode cL_law 1123 = .ok (.if_icmp .eq 85, 3) := by decide +kernel
theorem dL_law_1126 : decode cL_law 1126 = .ok (.iconst 0, 1) := by decide +kernel
theorem dL_law_1127 : decode cL_law 1127 = .ok (.ireturn, 1) := by decide +kernel
theorem dL_law_1128 : decode cL_law 1128 = .ok (.aload_n 1, 1) := by decide +kernel
theorem dL_law_1129 : decode cL_law 1129 = .ok (.aload_n 0, 1) := by decide +kernel
theorem dL_law_1130 : decode cL_law 1130 = .ok (.iload_n 3, 1) := by decide +kernel
theorem dL_law_1131 : decode cL_law 1131 = .ok (.iconst 1, 1) := by decide +kernel
theorem dL_law_1132 : decode cL_law 1132 = .ok (.iadd, 1) := by decide +kernel
theorem dL_law_1133 : decode cL_law 1133 = .ok (.iaload, 1) := by decide +kernel
theorem dL_law_1134 : decode cL_law 1134 = .ok (.aload_n 0, 1) := by decide +kernel
theorem dL_law_1135 : decode cL_law 1135 = .ok (.iload_n 3, 1) := by decide +kernel
theorem dL_law_1136 : decode cL_law 1136 = .ok (.iconst 2, 1) := by decide +kernel
theorem dL_law_1137 : decode cL_law 1137 = .ok (.iadd, 1) := by decide +kernel
theorem dL_law_1138 : decode cL_law 1138 = .ok (.iaload, 1) := by decide +kernel
theorem dL_law_1139 : decode cL_law 1139 = .ok (.aload_n 0, 1) := by decide +kernel
theorem dL_law_1140 : decode cL_law 1140 = .ok (.iload_n 3, 1) := by decide +kernel
theorem dL_law_1141 : decode cL_law 1141 = .ok (.iconst 3, 1) := by decide +kernel
theorem dL_law_1142 : decode cL_law 1142 = .ok (.iadd, 1) := by decide +kernel
theorem dL_law_1143 : decode cL_law 1143 = .ok (.iaload, 1) := by decide +kernel
theorem dL_law_1144 : decode cL_law 1144 = .ok (.invokevirtual 152, 3) := by decide +kernel
theorem dL_law_1147 : decode cL_law 1147 = .ok (.aload_n 2, 1) := by decide +kernel
theorem dL_law_1148 : decode cL_law 1148 = .ok (.aload_n 0, 1) := by decide +kernel
theorem dL_law_1149 : decode cL_law 1149 = .ok (.iload_n 3, 1) := by decide +kernel
theorem dL_law_1150 : decode cL_law 1150 = .ok (.iconst 1, 1) := by decide +kernel
theorem dL_law_1151 : decode cL_law 1151 = .ok (.iadd, 1) := by decide +kernel
theorem dL_law_1152 : decode cL_law 1152 = .ok (.iaload, 1) := by decide +kernel
theorem dL_law_1153 : decode cL_law 1153 = .ok (.aload_n 0, 1) := by decide +kernel
theorem dL_law_1154 : decode cL_law 1154 = .ok (.iload_n 3, 1) := by decide +kernel
theorem dL_law_1155 : decode cL_law 1155 = .ok (.iconst 2, 1) := by decide +kernel
theorem dL_law_1156 : decode cL_law 1156 = .ok (.iadd, 1) := by decide +kernel
theorem dL_law_1157 : decode cL_law 1157 = .ok (.iaload, 1) := by decide +kernel
theorem dL_law_1158 : decode cL_law 1158 = .ok (.aload_n 0, 1) := by decide +kernel
theorem dL_law_1159 : decode cL_law 1159 = .ok (.iload_n 3, 1) := by decide +kernel
theorem dL_law_1160 : decode cL_law 1160 = .ok (.iconst 3, 1) := by decide +kernel
theorem dL_law_1161 : decode cL_law 1161 = .ok (.iadd, 1) := by decide +kernel
theorem dL_law_1162 : decode cL_law 1162 = .ok (.iaload, 1) := by decide +kernel
theorem dL_law_1163 : decode cL_law 1163 = .ok (.invokevirtual 155, 3) := by decide +kernel
theorem dL_law_1166 : decode cL_law 1166 = .ok (.if_icmp .eq 42, 3) := by decide +kernel
theorem dL_law_1169 : decode cL_law 1169 = .ok (.iconst 0, 1) := by decide +kernel
theorem dL_law_1170 : decode cL_law 1170 = .ok (.ireturn, 1) := by decide +kernel
theorem dL_law_1171 : decode cL_law 1171 = .ok (.aload_n 1, 1) := by decide +kernel
theorem dL_law_1172 : decode cL_law 1172 = .ok (.aload_n 0, 1) := by decide +kernel
theorem dL_law_1173 : decode cL_law 1173 = .ok (.iload_n 3, 1) := by decide +kernel
theorem dL_law_1174 : decode cL_law 1174 = .ok (.iconst 1, 1) := by decide +kernel
theorem dL_law_1175 : decode cL_law 1175 = .ok (.iadd, 1) := by decide +kernel
theorem dL_law_1176 : decode cL_law 1176 = .ok (.iaload, 1) := by decide +kernel
theorem dL_law_1177 : decode cL_law 1177 = .ok (.invokevirtual 156, 3) := by decide +kernel
theorem dL_law_1180 : decode cL_law 1180 = .ok (.aload_n 2, 1) := by decide +kernel
theorem dL_law_1181 : decode cL_law 1181 = .ok (.aload_n 0, 1) := by decide +kernel
theorem dL_law_1182 : decode cL_law 1182 = .ok (.iload_n 3, 1) := by decide +kernel
theorem dL_law_1183 : decode cL_law 1183 = .ok (.iconst 1, 1) := by decide +kernel
theorem dL_law_1184 : decode cL_law 1184 = .ok (.iadd, 1) := by decide +kernel
theorem dL_law_1185 : decode cL_law 1185 = .ok (.iaload, 1) := by decide +kernel
theorem dL_law_1186 : decode cL_law 1186 = .ok (.invokevirtual 159, 3) := by decide +kernel
theorem dL_law_1189 : decode cL_law 1189 = .ok (.if_icmp .eq 19, 3) := by decide +kernel
theorem dL_law_1192 : decode cL_law 1192 = .ok (.iconst 0, 1) := by decide +kernel
theorem dL_law_1193 : decode cL_law 1193 = .ok (.ireturn, 1) := by decide +kernel
theorem dL_law_1194 : decode cL_law 1194 = .ok (.aload_n 1, 1) := by decide +kernel
theorem dL_law_1195 : decode cL_law 1195 = .ok (.invokevirtual 160, 3) := by decide +kernel
theorem dL_law_1198 : decode cL_law 1198 = .ok (.aload_n 2, 1) := by decide +kernel
theorem dL_law_1199 : decode cL_law 1199 = .ok (.invokevirtual 163, 3) := by decide +kernel
theorem dL_law_1202 : decode cL_law 1202 = .ok (.lcmp, 1) := by decide +kernel
theorem dL_law_1203 : decode cL_law 1203 = .ok (.ifCond .eq 5, 3) := by decide +kernel
theorem dL_law_1206 : decode cL_law 1206 = .ok (.iconst 0, 1) := by decide +kernel
theorem dL_law_1207 : decode cL_law 1207 = .ok (.ireturn, 1) := by decide +kernel
theorem dL_law_1208 : decode cL_law 1208 = .ok (.iinc 3 5, 3) := by decide +kernel
theorem dL_law_1211 : decode cL_law 1211 = .ok (.goto (-1193), 3) := by decide +kernel
theorem dL_law_1214 : decode cL_law 1214 = .ok (.iconst 1, 1) := by decide +kernel
theorem dL_law_1215 : decode cL_law 1215 = .ok (.ireturn, 1) := by decide +kernel
end
section
/-! ===== the memory as three tables; computations over it ===== -/
abbrev Zt : Type := Nat × (Nat → Nat) × (Nat → Nat)
abbrev Dm : Type := (Nat → Nat → Int32) × (Nat → Nat → Int64) × (Nat → Nat → Nat)
abbrev MM (α : Type) : Type := Dm → Option (α × Dm)
def mp {α : Type} (a : α) : MM α := fun d => some (a, d)
def mb {α β : Type} (f : MM α) (k : α → MM β) : MM β := fun d => match f d with
  | none => none
  | some q => k q.1 q.2
def ml {α β : Type} (a : α) (k : α → MM β) : MM β := k a
def mr {α β : Type} (f : MM β) : MM (α ⊕ β) := fun d => match f d with
  | none => none
  | some q => some (.inr q.1, q.2)
def mz (r : Int32) : MM Int32 := fun d => if r = 0 ∨ r = 1 then some (r, d) else none
def u2 {α : Type} (f : Nat → Nat → α) (a k : Nat) (x : α) : Nat → Nat → α := fun i j => if i = a ∧ j = k then x else f i j
def it {α β : Type} (b : α → MM (α ⊕ β)) : Nat → α → MM β
  | 0, _ => fun _ => none
  | n + 1, a => fun d => match b a d with
    | none => none
    | some (.inl a', d') => it b n a' d'
    | some (.inr r, d') => some (r, d')
noncomputable def lo {α β : Type} (b : α → MM (α ⊕ β)) (a : α) : MM β := fun d => @dite _ (∃ q, ∃ n, it b n a d = some q) (Classical.propDecidable _) (fun h => some h.choose) (fun _ => none)
theorem it_mono {α β : Type} {b : α → MM (α ⊕ β)} : ∀ {n : Nat} {a : α} {d : Dm} {q : β × Dm}, it b n a d = some q → ∀ k, it b (n + k) a d = some q := by
  intro n
  induction n with
  | zero => intro a d q h; simp [it] at h
  | succ n ih =>
    intro a d q h k
    rw [Nat.add_right_comm]
    simp only [it] at h ⊢
    split at h
    · simp at h
    · next a' d' hb => exact ih h k
    · next r d' hb => exact h
theorem it_det {α β : Type} {b : α → MM (α ⊕ β)} {n k : Nat} {a : α} {d : Dm} {q r : β × Dm} (h : it b n a d = some q) (h2 : it b k a d = some r) : q = r := by
  have h3 := it_mono h k
  have h4 := it_mono h2 n
  rw [Nat.add_comm] at h4
  rw [h4] at h3
  exact (Option.some.inj h3).symm
theorem lo_iff {α β : Type} {b : α → MM (α ⊕ β)} {a : α} {d : Dm} {q : β × Dm} : lo b a d = some q ↔ ∃ n, it b n a d = some q := by
  unfold lo
  by_cases h : ∃ q, ∃ n, it b n a d = some q
  · rw [dif_pos h]
    obtain ⟨n, hn⟩ := h.choose_spec
    constructor
    · intro e
      rw [← Option.some.inj e]
      exact ⟨n, hn⟩
    · intro ⟨k, hk⟩
      rw [it_det hn hk]
  · rw [dif_neg h]
    constructor
    · intro e; cases e
    · intro ⟨n, hn⟩; exact absurd ⟨q, n, hn⟩ h
theorem lo_eq {α β : Type} (b : α → MM (α ⊕ β)) (a : α) (d : Dm) : lo b a d = match b a d with
    | none => none
    | some (.inl a', d') => lo b a' d'
    | some (.inr r, d') => some (r, d') := by
  apply Option.ext
  intro q
  rw [lo_iff]
  constructor
  · intro ⟨n, hn⟩
    cases n with
    | zero => simp [it] at hn
    | succ n =>
      simp only [it] at hn
      split at hn
      · simp at hn
      · next a' d' hb => exact lo_iff.mpr ⟨n, hn⟩
      · next r d' hb => exact hn
  · intro h
    split at h
    · simp at h
    · next a' d' hb =>
      obtain ⟨n, hn⟩ := lo_iff.mp h
      exact ⟨n + 1, by simp only [it]; rw [hb]; exact hn⟩
    · next r d' hb => exact ⟨1, by simp only [it]; rw [hb]; exact h⟩
abbrev ib (i : Int32) (n : Nat) : Prop := 0 ≤ i ∧ i.toNatClampNeg < n
def gI (Z : Zt) (c k a : Nat) : MM Int32 := fun d => if Z.2.1 a = c then some (d.1 a k, d) else none
def gL (Z : Zt) (c k a : Nat) : MM Int64 := fun d => if Z.2.1 a = c then some (d.2.1 a k, d) else none
def gR (Z : Zt) (c k a : Nat) : MM Nat := fun d => if Z.2.1 a = c then some (d.2.2 a k, d) else none
def pI (Z : Zt) (c k a : Nat) (x : Int32) : MM Unit := fun d => if Z.2.1 a = c then some ((), (u2 d.1 a k x, d.2)) else none
def pZ (Z : Zt) (c k a : Nat) (x : Int32) : MM Unit := fun d => if Z.2.1 a = c ∧ (x = 0 ∨ x = 1) then some ((), (u2 d.1 a k x, d.2)) else none
def pC (Z : Zt) (c k a : Nat) (x : Int32) : MM Unit := fun d => if Z.2.1 a = c ∧ (0 ≤ x ∧ x ≤ 65535) then some ((), (u2 d.1 a k x, d.2)) else none
def pL (Z : Zt) (c k a : Nat) (x : Int64) : MM Unit := fun d => if Z.2.1 a = c then some ((), (d.1, u2 d.2.1 a k x, d.2.2)) else none
def pR (Z : Zt) (c k a : Nat) (x : Nat) : MM Unit := fun d => if Z.2.1 a = c then some ((), (d.1, d.2.1, u2 d.2.2 a k x)) else none
def aI (Z : Zt) (c a : Nat) (i : Int32) : MM Int32 := fun d => if Z.2.1 a = c ∧ ib i (Z.2.2 a) then some (d.1 a i.toNatClampNeg, d) else none
def aL (Z : Zt) (a : Nat) (i : Int32) : MM Int64 := fun d => if Z.2.1 a = 24 ∧ ib i (Z.2.2 a) then some (d.2.1 a i.toNatClampNeg, d) else none
def aR (Z : Zt) (c a : Nat) (i : Int32) : MM Nat := fun d => if Z.2.1 a = c ∧ ib i (Z.2.2 a) then some (d.2.2 a i.toNatClampNeg, d) else none
def sI (Z : Zt) (a : Nat) (i x : Int32) : MM Unit := fun d => if Z.2.1 a = 23 ∧ ib i (Z.2.2 a) then some ((), (u2 d.1 a i.toNatClampNeg x, d.2)) else none
def sB (Z : Zt) (a : Nat) (i x : Int32) : MM Unit := fun d => if Z.2.1 a = 21 ∧ ib i (Z.2.2 a) then some ((), (u2 d.1 a i.toNatClampNeg x.toInt8.toInt32, d.2)) else none
def sC (Z : Zt) (a : Nat) (i x : Int32) : MM Unit := fun d => if Z.2.1 a = 22 ∧ ib i (Z.2.2 a) then some ((), (u2 d.1 a i.toNatClampNeg x.toUInt32.toUInt16.toUInt32.toInt32, d.2)) else none
def sZ (Z : Zt) (a : Nat) (i x : Int32) : MM Unit := fun d => if (Z.2.1 a = 25 ∧ ib i (Z.2.2 a)) ∧ (x = 0 ∨ x = 1) then some ((), (u2 d.1 a i.toNatClampNeg x, d.2)) else none
def sL (Z : Zt) (a : Nat) (i : Int32) (x : Int64) : MM Unit := fun d => if Z.2.1 a = 24 ∧ ib i (Z.2.2 a) then some ((), (d.1, u2 d.2.1 a i.toNatClampNeg x, d.2.2)) else none
def sR (Z : Zt) (c e a : Nat) (i : Int32) (x : Nat) : MM Unit := fun d => if (Z.2.1 a = c ∧ ib i (Z.2.2 a)) ∧ Z.2.1 x = e then some ((), (d.1, d.2.1, u2 d.2.2 a i.toNatClampNeg x)) else none
def al (Z : Zt) (c a : Nat) : MM Int32 := fun d => if Z.2.1 a = c then some (Int32.ofNat (Z.2.2 a), d) else none
def vc {α : Type} (Z : Zt) (c a : Nat) (f : MM α) : MM α := fun d => if Z.2.1 a = c then f d else none
def cpF (f : Nat → Nat → Int32) (a b : Nat) (i j n : Nat) : Nat → Nat → Int32 := fun x y => if x = b ∧ j ≤ y ∧ y < j + n then f a (i + (y - j)) else f x y
def ac (Z : Zt) (a : Nat) (i : Int32) (b : Nat) (j n : Int32) : MM Unit := fun d => if (Z.2.1 a = 23 ∧ Z.2.1 b = 23) ∧ (0 ≤ i ∧ 0 ≤ j ∧ 0 ≤ n) ∧ i.toNatClampNeg + n.toNatClampNeg ≤ Z.2.2 a ∧ j.toNatClampNeg + n.toNatClampNeg ≤ Z.2.2 b ∧ a ≠ b then some ((), (cpF d.1 a b i.toNatClampNeg j.toNatClampNeg n.toNatClampNeg, d.2)) else none
def sw {α : Type} (x : Int32) (lo : Int32) : List (MM α) → MM α → MM α
  | [], f => f
  | g :: gs, f => if x = lo then g else sw x (lo + 1) gs f
end
section
/-! ===== the words, the world, the judgement Sm ===== -/
def TT : List Cond := lw_tbl.filter goodWord
theorem tt_at {w : Cond} (i : Nat) (h : lw_tbl[i]? = some w) (hg : goodWord w = true) : w ∈ TT := List.mem_filter.mpr ⟨List.mem_of_getElem? h, hg⟩
theorem tt_good {w : Cond} (h : w ∈ TT) : (w.onTables && w.keeps) = true ∨ ∃ ty, w = .arrayClass ty := good_of_word (List.mem_filter.mp h).2
theorem gi_tt {b : Cond} {w0 : Cond} (h0 : w0 ∈ TT) : GoodIn (b :: TT) (w0 :: TT) := fun w hw => by
  rcases List.mem_cons.mp hw with rfl | h
  · exact ⟨List.mem_cons_of_mem _ h0, tt_good h0⟩
  · exact ⟨List.mem_cons_of_mem _ h, tt_good h⟩
theorem gi_t0 {w0 : Cond} (h0 : w0 ∈ TT) : GoodIn TT (w0 :: TT) := fun w hw => by
  rcases List.mem_cons.mp hw with rfl | h
  · exact ⟨h0, tt_good h0⟩
  · exact ⟨h, tt_good h⟩
def cnF (ci : Nat) : Nat := match ci with
  | 0 => 5 | 1 => 4 | 2 => 3 | 3 => 2 | 4 => 6 | 5 => 3 | 6 => 9 | 7 => 4 | 8 => 4 | 9 => 5 | 10 => 11 | 11 => 44 | _ => 0
def ctF (ci : Nat) : Nat → FieldType := match ci with
  | 0 => tyX0 | 1 => tyX1 | 2 => tyX2 | 3 => tyX3 | 4 => tyX4 | 5 => tyX5 | 6 => tyX6 | 7 => tyX7 | 8 => tyX8 | 9 => tyX9 | 10 => tyX10 | _ => tyX11
def ro (ad : Nat → Nat) (a : Nat) : Option Nat := if a = 0 then none else some (ad a)
def rv (ad : Nat → Nat) (a : Nat) : Value := va_rf (ro ad a)
theorem rv_0 {ad : Nat → Nat} {a : Nat} (h : a = 0) : rv ad a = .null := by simp [rv, ro, h, va_rf]
theorem rv_n {ad : Nat → Nat} {a : Nat} (h : a ≠ 0) : rv ad a = .ref (ad a) := by simp [rv, ro, h, va_rf]
def fv (ad : Nat → Nat) (d : Dm) (a k : Nat) (ty : FieldType) : Value := match ty with
  | .long => .long (d.2.1 a k)
  | .object _ => rv ad (d.2.2 a k)
  | .array _ => rv ad (d.2.2 a k)
  | _ => .int (d.1 a k)
def fl (ad : Nat → Nat) (d : Dm) (a ci : Nat) : List Value := (List.range (cnF ci)).map (fun k => fv ad d a k (ctF ci k))
def wc (cy : Nat → ClassId) (ad : Nat → Nat) (Z : Zt) (d : Dm) (a : Nat) : va_E :=
  if Z.2.1 a ≤ 12 then .inr (Z.2.1 a - 1, fl ad d a (Z.2.1 a - 1))
  else if Z.2.1 a = 24 then .inl (cy 24, Z.2.2 a, .inr (.inl (d.2.1 a)))
  else if Z.2.1 a ≤ 25 then .inl (cy (Z.2.1 a), Z.2.2 a, .inl (d.1 a))
  else .inl (cy (Z.2.1 a), Z.2.2 a, .inr (.inr (.inr (.inr (fun k => ro ad (d.2.2 a k))))))
def wd (cy : Nat → ClassId) (ad : Nat → Nat) (Z : Zt) (d : Dm) : va_W := (List.range Z.1).map (fun i => (ad (i + 1), wc cy ad Z d (i + 1)))
theorem wd_at {cy : Nat → ClassId} {ad : Nat → Nat} {Z : Zt} {d : Dm} {a : Nat} (h : 1 ≤ a) (h2 : a ≤ Z.1) : (wd cy ad Z d)[a - 1]? = some (ad a, wc cy ad Z d a) := by
  have e : a - 1 + 1 = a := by omega
  simp [wd, List.getElem?_range (show a - 1 < Z.1 by omega), e]
theorem wd_set {cy : Nat → ClassId} {ad : Nat → Nat} {Z : Zt} {d d' : Dm} {a : Nat} {e : va_E} (h : 1 ≤ a) (he : wc cy ad Z d' a = e) (ho : ∀ b, b ≠ a → wc cy ad Z d' b = wc cy ad Z d b) : (wd cy ad Z d).set (a - 1) (ad a, e) = wd cy ad Z d' := by
  apply List.ext_getElem?
  intro i
  simp only [wd, List.getElem?_set, List.getElem?_map, List.length_map, List.length_range]
  by_cases hi : a - 1 = i
  · subst hi
    by_cases hl : a - 1 < Z.1
    · have e1 : a - 1 + 1 = a := by omega
      rw [if_pos rfl, if_pos hl, List.getElem?_range hl]
      simp [e1, he]
    · rw [if_pos rfl, if_neg hl, List.getElem?_eq_none (by simp; omega)]
      rfl
  · rw [if_neg hi]
    by_cases hl : i < Z.1
    · rw [List.getElem?_range hl]
      simp only [Option.map_some]
      rw [ho (i + 1) (by omega)]
    · rw [List.getElem?_eq_none (by simp; omega)]
      rfl
def tysF (cy : Nat → ClassId) : List (ClassId × FieldType) := [(cy 21, .byte), (cy 22, .char), (cy 23, .int), (cy 24, .long), (cy 25, .boolean), (cy 26, .object RX0), (cy 27, .object RX8)]
def cv (ad : Nat → Nat) (v : Value) : Value := match v with
  | .ref a => rv ad a
  | v => v
def cw (ad : Nat → Nat) (q : Nat × Value) : Nat × Value := (q.1, cv ad q.2)
def nestW : List (String × Nat × MethodName × String) := lw_tbl.filterMap (fun w => match w with
  | .methodLinkNest a i x h => some (a, i, x, h)
  | _ => none)
def Wd (U : State) : Prop := (∀ q ∈ nestW, va_Nw (.methodLinkNest q.1 q.2.1 q.2.2.1 q.2.2.2) U) ∧ va_AO RX0 U ∧ va_AO RX8 U
theorem Wd.warm {s U : State} (hW : s.WarmedH U.vm) (h : Wd s) : Wd U := ⟨fun q hq => va_Nw.warmM hW (h.1 q hq), va_AO.moved hW.alike h.2.1, va_AO.moved hW.alike h.2.2⟩
theorem Wd.same {u U : State} (e : u.vm = U.vm) (h : Wd u) : Wd U := ⟨fun q hq => va_Nw.same rfl e (h.1 q hq), va_AO.moved (by rw [e]; exact Vm.Alike.refl U.vm) h.2.1, va_AO.moved (by rw [e]; exact Vm.Alike.refl U.vm) h.2.2⟩
abbrev GT : Type := Program × Launch × Env × State × MethodId × Array Value × List Frame × Method × Code × (State → Prop) × (Nat → Prop) × (Nat → ClassId) × va_G
def Cx (G : GT) (R : Room) (cc : ByteArray) (nL : Nat) (own : String) : Prop := match G with
  | (p, _, _, s, m, args, _, meth, c, _, A, cy, D) => p.tables.exec = Jvm.exec ∧ c.code = cc ∧ c.maxLocals = nL ∧ s.vm.findClass own = some m.cls ∧ (∀ w ∈ TT, w.before args s = true) ∧ va_K D vwCl (tysF cy) s ∧ Wd s ∧ (∀ q, s.heap.size ≤ q → A q) ∧ meth.locks = false
def Vk (ad : Nat → Nat) (Z : Zt) : Prop := (∀ a b, 1 ≤ a → a ≤ Z.1 → 1 ≤ b → b ≤ Z.1 → ad a = ad b → a = b) ∧ ∀ a, Z.2.1 a ≠ 0 → 1 ≤ a ∧ a ≤ Z.1
def Vx (G : GT) (R : Room) (ad : Nat → Nat) (Z : Zt) (ck : Nat × Nat) : Prop := Vk ad Z ∧ (match G with
  | (_, _, _, _, _, _, _, _, _, _, A, _, _) => ∀ a, 1 ≤ a → a ≤ Z.1 → A (ad a)) ∧ ck.1 ≤ R.cells ∧ ck.2 ≤ R.slots
def Sm {ρ : Type} (G : GT) (R : Room) (ad : Nat → Nat) (Z : Zt) (ck : Nat × Nat) (K : ρ → Dm → Prop) (pc : Nat) (L : List (Nat × Value)) (st : List Value) (f : MM ρ) : Prop := match G with
  | (p, l, e, s, m, args, below, meth, c, Q, A, cy, D) => ∀ (d : Dm) (r : ρ) (d' : Dm), f d = some (r, d') → K r d' → ∀ (H : Heap) (locs : List Loc) (ls : Array Slot), lv_has ls c.maxLocals (L.map (cw ad)) → va_P D vwCl (wd cy ad Z d) H → va_S A s.heap H locs → W p l e R s m args below meth c H locs ck.1 ck.2 Q (F0 m pc ls (st.map (cv ad)))
theorem vk_D {A : Nat → Prop} {cy : Nat → ClassId} {ad : Nat → Nat} {Z : Zt} {d : Dm} (h : Vk ad Z) (hA : ∀ a, 1 ≤ a → a ≤ Z.1 → A (ad a)) : va_D A (wd cy ad Z d) := by
  constructor
  · intro i j p q hi hj e
    simp only [wd, List.getElem?_map, Option.map_eq_some_iff] at hi hj
    obtain ⟨i', hi', rfl⟩ := hi
    obtain ⟨j', hj', rfl⟩ := hj
    obtain ⟨hil, hi2⟩ := List.getElem?_eq_some_iff.mp hi'
    obtain ⟨hjl, hj2⟩ := List.getElem?_eq_some_iff.mp hj'
    simp only [List.length_range, List.getElem_range] at hil hi2 hjl hj2
    have := h.1 (i' + 1) (j' + 1) (by omega) (by omega) (by omega) (by omega) e
    omega
  · intro k q hk
    simp only [wd, List.getElem?_map, Option.map_eq_some_iff] at hk
    obtain ⟨i', hi', rfl⟩ := hk
    obtain ⟨hil, hi2⟩ := List.getElem?_eq_some_iff.mp hi'
    simp only [List.length_range, List.getElem_range] at hil hi2
    exact hA (i' + 1) (by omega) (by omega)
def lk : List (Nat × Value) → Nat → Option Value
  | [], _ => none
  | q :: t, i => bif Nat.beq q.1 i then some q.2 else lk t i
theorem lk_mem : ∀ {L : List (Nat × Value)} {i : Nat} {v : Value}, lk L i = some v → (i, v) ∈ L
  | [], _, _, h => by cases h
  | q :: t, i, v, h => by
    simp only [lk] at h
    cases hb : Nat.beq q.1 i with
    | true =>
      rw [hb] at h
      simp only [cond_true, Option.some.injEq] at h
      have := Nat.eq_of_beq_eq_true hb
      subst this; subst h
      exact List.mem_cons_self
    | false =>
      rw [hb] at h
      exact List.mem_cons_of_mem _ (lk_mem h)
theorem lk_at {ad : Nat → Nat} {ls : Array Slot} {n : Nat} {L : List (Nat × Value)} {i : Nat} {v : Value} (h : lv_has ls n (L.map (cw ad))) (hk : lk L i = some v) : ls[i]? = some (.val (cv ad v)) := h.2.2 (i, cv ad v) (List.mem_map.mpr ⟨(i, v), lk_mem hk, rfl⟩)
def pkL (L : List (Nat × Value)) (is : List Nat) : List (Nat × Value) := is.filterMap (fun i => (lk L i).map (fun v => (i, v)))
theorem pkL_has {ad : Nat → Nat} {ls : Array Slot} {n : Nat} {L : List (Nat × Value)} (is : List Nat) (h : lv_has ls n (L.map (cw ad))) : lv_has ls n ((pkL L is).map (cw ad)) := by
  refine ⟨h.1, h.2.1, fun q hq => ?_⟩
  obtain ⟨x, hx, rfl⟩ := List.mem_map.mp hq
  obtain ⟨i, -, hi⟩ := List.mem_filterMap.mp hx
  obtain ⟨v, hv, rfl⟩ := Option.map_eq_some_iff.mp hi
  exact lk_at h hv
def st1 (L : List (Nat × Value)) (i : Nat) (v : Value) : List (Nat × Value) := (i, v) :: L.filter (fun q => !(Nat.beq q.1 i) && !(Nat.beq (q.1 + 1) i && Nat.beq q.2.category 2))
def st2 (L : List (Nat × Value)) (i : Nat) (v : Value) : List (Nat × Value) := (i, v) :: L.filter (fun q => !(Nat.beq q.1 i) && (!(Nat.beq q.1 (i + 1)) && !(Nat.beq (q.1 + 1) i && Nat.beq q.2.category 2)))
theorem beq_n (a b : Nat) : Nat.beq a b = (a == b) := by
  rw [Bool.eq_iff_iff]
  simp [Nat.beq_eq]
theorem cv_cat (ad : Nat → Nat) (v : Value) : (cv ad v).category = v.category := by
  cases v <;> first | rfl | (show (rv ad _).category = _; unfold rv ro; split <;> rfl)
theorem st1_map (ad : Nat → Nat) (L : List (Nat × Value)) (i : Nat) (v : Value) : (i, cv ad v) :: (L.map (cw ad)).filter (fun q => !(q.1 == i) && !(q.1 + 1 == i && q.2.category == 2)) = (st1 L i v).map (cw ad) := by
  simp only [st1, List.map_cons, List.filter_map, beq_n]
  congr 2
  apply List.filter_congr
  intro q _
  simp [cw, cv_cat]
theorem st2_map (ad : Nat → Nat) (L : List (Nat × Value)) (i : Nat) (v : Value) : (i, cv ad v) :: (L.map (cw ad)).filter (fun q => !(q.1 == i) && (!(q.1 == i + 1) && !(q.1 + 1 == i && q.2.category == 2))) = (st2 L i v).map (cw ad) := by
  simp only [st2, List.map_cons, List.filter_map, beq_n]
  congr 2
  apply List.filter_congr
  intro q _
  simp [cw, cv_cat]
end
section
section
variable {ρ : Type} {G : GT} {R : Room} {ad : Nat → Nat} {Z : Zt} {ck : Nat × Nat} {K : ρ → Dm → Prop} {pc nL : Nat} {cc : ByteArray} {own : String} {L : List (Nat × Value)} {st : List Value} {f : MM ρ}
theorem s_iadd (C : Cx G R cc nL own) {x y : Int32} (hd : decode cc pc = .ok (.iadd, 1)) (k : Sm G R ad Z ck K (pc + 1) L (.int (x + y) :: st) f) : Sm G R ad Z ck K pc L (.int y :: .int x :: st) f := by
  obtain ⟨p, l, e, s, m, args, below, meth, c, Q, A, cy, D⟩ := G
  obtain ⟨hx, hb, hml, hown, hts, hTy, hWd, hA, hlk⟩ := C
  intro d r d' hf hK H locs ls hl hP hS
  exact lv_iadd hx hb hd (k d r d' hf hK H locs ls hl hP hS)
theorem s_isub (C : Cx G R cc nL own) {x y : Int32} (hd : decode cc pc = .ok (.isub, 1)) (k : Sm G R ad Z ck K (pc + 1) L (.int (x - y) :: st) f) : Sm G R ad Z ck K pc L (.int y :: .int x :: st) f := by
  obtain ⟨p, l, e, s, m, args, below, meth, c, Q, A, cy, D⟩ := G
  obtain ⟨hx, hb, hml, hown, hts, hTy, hWd, hA, hlk⟩ := C
  intro d r d' hf hK H locs ls hl hP hS
  exact lv_isub hx hb hd (k d r d' hf hK H locs ls hl hP hS)
theorem s_imul (C : Cx G R cc nL own) {x y : Int32} (hd : decode cc pc = .ok (.imul, 1)) (k : Sm G R ad Z ck K (pc + 1) L (.int (x * y) :: st) f) : Sm G R ad Z ck K pc L (.int y :: .int x :: st) f := by
  obtain ⟨p, l, e, s, m, args, below, meth, c, Q, A, cy, D⟩ := G
  obtain ⟨hx, hb, hml, hown, hts, hTy, hWd, hA, hlk⟩ := C
  intro d r d' hf hK H locs ls hl hP hS
  exact lv_imul hx hb hd (k d r d' hf hK H locs ls hl hP hS)
theorem s_iand (C : Cx G R cc nL own) {x y : Int32} (hd : decode cc pc = .ok (.iand, 1)) (k : Sm G R ad Z ck K (pc + 1) L (.int (x &&& y) :: st) f) : Sm G R ad Z ck K pc L (.int y :: .int x :: st) f := by
  obtain ⟨p, l, e, s, m, args, below, meth, c, Q, A, cy, D⟩ := G
  obtain ⟨hx, hb, hml, hown, hts, hTy, hWd, hA, hlk⟩ := C
  intro d r d' hf hK H locs ls hl hP hS
  exact lv_iand hx hb hd (k d r d' hf hK H locs ls hl hP hS)
theorem s_ior (C : Cx G R cc nL own) {x y : Int32} (hd : decode cc pc = .ok (.ior, 1)) (k : Sm G R ad Z ck K (pc + 1) L (.int (x ||| y) :: st) f) : Sm G R ad Z ck K pc L (.int y :: .int x :: st) f := by
  obtain ⟨p, l, e, s, m, args, below, meth, c, Q, A, cy, D⟩ := G
  obtain ⟨hx, hb, hml, hown, hts, hTy, hWd, hA, hlk⟩ := C
  intro d r d' hf hK H locs ls hl hP hS
  exact lv_ior hx hb hd (k d r d' hf hK H locs ls hl hP hS)
theorem s_ixor (C : Cx G R cc nL own) {x y : Int32} (hd : decode cc pc = .ok (.ixor, 1)) (k : Sm G R ad Z ck K (pc + 1) L (.int (x ^^^ y) :: st) f) : Sm G R ad Z ck K pc L (.int y :: .int x :: st) f := by
  obtain ⟨p, l, e, s, m, args, below, meth, c, Q, A, cy, D⟩ := G
  obtain ⟨hx, hb, hml, hown, hts, hTy, hWd, hA, hlk⟩ := C
  intro d r d' hf hK H locs ls hl hP hS
  exact lv_ixor hx hb hd (k d r d' hf hK H locs ls hl hP hS)
theorem s_ishl (C : Cx G R cc nL own) {x y : Int32} (hd : decode cc pc = .ok (.ishl, 1)) (k : Sm G R ad Z ck K (pc + 1) L (.int (x <<< (y &&& 31)) :: st) f) : Sm G R ad Z ck K pc L (.int y :: .int x :: st) f := by
  obtain ⟨p, l, e, s, m, args, below, meth, c, Q, A, cy, D⟩ := G
  obtain ⟨hx, hb, hml, hown, hts, hTy, hWd, hA, hlk⟩ := C
  intro d r d' hf hK H locs ls hl hP hS
  exact lv_ishl hx hb hd (k d r d' hf hK H locs ls hl hP hS)
theorem s_ishr (C : Cx G R cc nL own) {x y : Int32} (hd : decode cc pc = .ok (.ishr, 1)) (k : Sm G R ad Z ck K (pc + 1) L (.int (x >>> (y &&& 31)) :: st) f) : Sm G R ad Z ck K pc L (.int y :: .int x :: st) f := by
  obtain ⟨p, l, e, s, m, args, below, meth, c, Q, A, cy, D⟩ := G
  obtain ⟨hx, hb, hml, hown, hts, hTy, hWd, hA, hlk⟩ := C
  intro d r d' hf hK H locs ls hl hP hS
  exact lv_ishr hx hb hd (k d r d' hf hK H locs ls hl hP hS)
theorem s_iushr (C : Cx G R cc nL own) {x y : Int32} (hd : decode cc pc = .ok (.iushr, 1)) (k : Sm G R ad Z ck K (pc + 1) L (.int ((x.toUInt32 >>> (y.toUInt32 &&& Int32.toUInt32 31)).toInt32) :: st) f) : Sm G R ad Z ck K pc L (.int y :: .int x :: st) f := by
  obtain ⟨p, l, e, s, m, args, below, meth, c, Q, A, cy, D⟩ := G
  obtain ⟨hx, hb, hml, hown, hts, hTy, hWd, hA, hlk⟩ := C
  intro d r d' hf hK H locs ls hl hP hS
  exact lv_iushr hx hb hd rfl (k d r d' hf hK H locs ls hl hP hS)
theorem s_idiv (C : Cx G R cc nL own) {x y : Int32} (hn : ¬ y = 0) (hd : decode cc pc = .ok (.idiv, 1)) (k : Sm G R ad Z ck K (pc + 1) L (.int (x / y) :: st) f) : Sm G R ad Z ck K pc L (.int y :: .int x :: st) f := by
  obtain ⟨p, l, e, s, m, args, below, meth, c, Q, A, cy, D⟩ := G
  obtain ⟨hx, hb, hml, hown, hts, hTy, hWd, hA, hlk⟩ := C
  intro d r d' hf hK H locs ls hl hP hS
  exact lv_idiv hx hb hd hn (k d r d' hf hK H locs ls hl hP hS)
theorem s_irem (C : Cx G R cc nL own) {x y : Int32} (hn : ¬ y = 0) (hd : decode cc pc = .ok (.irem, 1)) (k : Sm G R ad Z ck K (pc + 1) L (.int (x - x / y * y) :: st) f) : Sm G R ad Z ck K pc L (.int y :: .int x :: st) f := by
  obtain ⟨p, l, e, s, m, args, below, meth, c, Q, A, cy, D⟩ := G
  obtain ⟨hx, hb, hml, hown, hts, hTy, hWd, hA, hlk⟩ := C
  intro d r d' hf hK H locs ls hl hP hS
  exact lv_irem hx hb hd hn (k d r d' hf hK H locs ls hl hP hS)
theorem s_ineg (C : Cx G R cc nL own) {x : Int32} (hd : decode cc pc = .ok (.ineg, 1)) (k : Sm G R ad Z ck K (pc + 1) L (.int (-x) :: st) f) : Sm G R ad Z ck K pc L (.int x :: st) f := by
  obtain ⟨p, l, e, s, m, args, below, meth, c, Q, A, cy, D⟩ := G
  obtain ⟨hx, hb, hml, hown, hts, hTy, hWd, hA, hlk⟩ := C
  intro d r d' hf hK H locs ls hl hP hS
  exact lv_ineg hx hb hd (k d r d' hf hK H locs ls hl hP hS)
theorem s_ladd (C : Cx G R cc nL own) {x y : Int64} (hd : decode cc pc = .ok (.ladd, 1)) (k : Sm G R ad Z ck K (pc + 1) L (.long (x + y) :: st) f) : Sm G R ad Z ck K pc L (.long y :: .long x :: st) f := by
  obtain ⟨p, l, e, s, m, args, below, meth, c, Q, A, cy, D⟩ := G
  obtain ⟨hx, hb, hml, hown, hts, hTy, hWd, hA, hlk⟩ := C
  intro d r d' hf hK H locs ls hl hP hS
  exact lv_ladd hx hb hd (k d r d' hf hK H locs ls hl hP hS)
theorem s_lmul (C : Cx G R cc nL own) {x y : Int64} (hd : decode cc pc = .ok (.lmul, 1)) (k : Sm G R ad Z ck K (pc + 1) L (.long (x * y) :: st) f) : Sm G R ad Z ck K pc L (.long y :: .long x :: st) f := by
  obtain ⟨p, l, e, s, m, args, below, meth, c, Q, A, cy, D⟩ := G
  obtain ⟨hx, hb, hml, hown, hts, hTy, hWd, hA, hlk⟩ := C
  intro d r d' hf hK H locs ls hl hP hS
  exact lv_lmul hx hb hd (k d r d' hf hK H locs ls hl hP hS)
theorem s_land (C : Cx G R cc nL own) {x y : Int64} (hd : decode cc pc = .ok (.land, 1)) (k : Sm G R ad Z ck K (pc + 1) L (.long (x &&& y) :: st) f) : Sm G R ad Z ck K pc L (.long y :: .long x :: st) f := by
  obtain ⟨p, l, e, s, m, args, below, meth, c, Q, A, cy, D⟩ := G
  obtain ⟨hx, hb, hml, hown, hts, hTy, hWd, hA, hlk⟩ := C
  intro d r d' hf hK H locs ls hl hP hS
  exact lv_land hx hb hd (k d r d' hf hK H locs ls hl hP hS)
theorem s_lor (C : Cx G R cc nL own) {x y : Int64} (hd : decode cc pc = .ok (.lor, 1)) (k : Sm G R ad Z ck K (pc + 1) L (.long (x ||| y) :: st) f) : Sm G R ad Z ck K pc L (.long y :: .long x :: st) f := by
  obtain ⟨p, l, e, s, m, args, below, meth, c, Q, A, cy, D⟩ := G
  obtain ⟨hx, hb, hml, hown, hts, hTy, hWd, hA, hlk⟩ := C
  intro d r d' hf hK H locs ls hl hP hS
  exact lv_lor hx hb hd (k d r d' hf hK H locs ls hl hP hS)
theorem s_lxor (C : Cx G R cc nL own) {x y : Int64} (hd : decode cc pc = .ok (.lxor, 1)) (k : Sm G R ad Z ck K (pc + 1) L (.long (x ^^^ y) :: st) f) : Sm G R ad Z ck K pc L (.long y :: .long x :: st) f := by
  obtain ⟨p, l, e, s, m, args, below, meth, c, Q, A, cy, D⟩ := G
  obtain ⟨hx, hb, hml, hown, hts, hTy, hWd, hA, hlk⟩ := C
  intro d r d' hf hK H locs ls hl hP hS
  exact lv_lxor hx hb hd (k d r d' hf hK H locs ls hl hP hS)
theorem s_ldiv (C : Cx G R cc nL own) {x y : Int64} (hn : ¬ y = 0) (hd : decode cc pc = .ok (.ldiv, 1)) (k : Sm G R ad Z ck K (pc + 1) L (.long (x / y) :: st) f) : Sm G R ad Z ck K pc L (.long y :: .long x :: st) f := by
  obtain ⟨p, l, e, s, m, args, below, meth, c, Q, A, cy, D⟩ := G
  obtain ⟨hx, hb, hml, hown, hts, hTy, hWd, hA, hlk⟩ := C
  intro d r d' hf hK H locs ls hl hP hS
  exact lv_ldiv hx hb hd hn (k d r d' hf hK H locs ls hl hP hS)
theorem s_lrem (C : Cx G R cc nL own) {x y : Int64} (hn : ¬ y = 0) (hd : decode cc pc = .ok (.lrem, 1)) (k : Sm G R ad Z ck K (pc + 1) L (.long (x - x / y * y) :: st) f) : Sm G R ad Z ck K pc L (.long y :: .long x :: st) f := by
  obtain ⟨p, l, e, s, m, args, below, meth, c, Q, A, cy, D⟩ := G
  obtain ⟨hx, hb, hml, hown, hts, hTy, hWd, hA, hlk⟩ := C
  intro d r d' hf hK H locs ls hl hP hS
  exact lv_lrem hx hb hd hn (k d r d' hf hK H locs ls hl hP hS)
theorem s_lshl (C : Cx G R cc nL own) {x : Int64} {y : Int32} (hd : decode cc pc = .ok (.lshl, 1)) (k : Sm G R ad Z ck K (pc + 1) L (.long (x <<< (y.toInt64 &&& 63)) :: st) f) : Sm G R ad Z ck K pc L (.int y :: .long x :: st) f := by
  obtain ⟨p, l, e, s, m, args, below, meth, c, Q, A, cy, D⟩ := G
  obtain ⟨hx, hb, hml, hown, hts, hTy, hWd, hA, hlk⟩ := C
  intro d r d' hf hK H locs ls hl hP hS
  exact lv_lshl hx hb hd rfl (k d r d' hf hK H locs ls hl hP hS)
theorem s_lshr (C : Cx G R cc nL own) {x : Int64} {y : Int32} (hd : decode cc pc = .ok (.lshr, 1)) (k : Sm G R ad Z ck K (pc + 1) L (.long (x >>> (y.toInt64 &&& 63)) :: st) f) : Sm G R ad Z ck K pc L (.int y :: .long x :: st) f := by
  obtain ⟨p, l, e, s, m, args, below, meth, c, Q, A, cy, D⟩ := G
  obtain ⟨hx, hb, hml, hown, hts, hTy, hWd, hA, hlk⟩ := C
  intro d r d' hf hK H locs ls hl hP hS
  exact lv_lshr hx hb hd rfl (k d r d' hf hK H locs ls hl hP hS)
theorem s_lushr (C : Cx G R cc nL own) {x : Int64} {y : Int32} (hd : decode cc pc = .ok (.lushr, 1)) (k : Sm G R ad Z ck K (pc + 1) L (.long ((x.toUInt64 >>> (y.toInt64.toUInt64 &&& Int64.toUInt64 63)).toInt64) :: st) f) : Sm G R ad Z ck K pc L (.int y :: .long x :: st) f := by
  obtain ⟨p, l, e, s, m, args, below, meth, c, Q, A, cy, D⟩ := G
  obtain ⟨hx, hb, hml, hown, hts, hTy, hWd, hA, hlk⟩ := C
  intro d r d' hf hK H locs ls hl hP hS
  exact lv_lushr hx hb hd rfl (k d r d' hf hK H locs ls hl hP hS)
theorem s_i2l (C : Cx G R cc nL own) {x : Int32} (hd : decode cc pc = .ok (.i2l, 1)) (k : Sm G R ad Z ck K (pc + 1) L (.long x.toInt64 :: st) f) : Sm G R ad Z ck K pc L (.int x :: st) f := by
  obtain ⟨p, l, e, s, m, args, below, meth, c, Q, A, cy, D⟩ := G
  obtain ⟨hx, hb, hml, hown, hts, hTy, hWd, hA, hlk⟩ := C
  intro d r d' hf hK H locs ls hl hP hS
  exact lv_i2l hx hb hd rfl (k d r d' hf hK H locs ls hl hP hS)
theorem s_l2i (C : Cx G R cc nL own) {x : Int64} (hd : decode cc pc = .ok (.l2i, 1)) (k : Sm G R ad Z ck K (pc + 1) L (.int x.toInt32 :: st) f) : Sm G R ad Z ck K pc L (.long x :: st) f := by
  obtain ⟨p, l, e, s, m, args, below, meth, c, Q, A, cy, D⟩ := G
  obtain ⟨hx, hb, hml, hown, hts, hTy, hWd, hA, hlk⟩ := C
  intro d r d' hf hK H locs ls hl hP hS
  exact lv_l2i hx hb hd rfl (k d r d' hf hK H locs ls hl hP hS)
theorem s_i2b (C : Cx G R cc nL own) {x : Int32} (hd : decode cc pc = .ok (.i2b, 1)) (k : Sm G R ad Z ck K (pc + 1) L (.int x.toInt8.toInt32 :: st) f) : Sm G R ad Z ck K pc L (.int x :: st) f := by
  obtain ⟨p, l, e, s, m, args, below, meth, c, Q, A, cy, D⟩ := G
  obtain ⟨hx, hb, hml, hown, hts, hTy, hWd, hA, hlk⟩ := C
  intro d r d' hf hK H locs ls hl hP hS
  exact lv_i2b hx hb hd rfl (k d r d' hf hK H locs ls hl hP hS)
theorem s_i2c (C : Cx G R cc nL own) {x : Int32} (hd : decode cc pc = .ok (.i2c, 1)) (k : Sm G R ad Z ck K (pc + 1) L (.int (x.toUInt32 % 65536).toInt32 :: st) f) : Sm G R ad Z ck K pc L (.int x :: st) f := by
  obtain ⟨p, l, e, s, m, args, below, meth, c, Q, A, cy, D⟩ := G
  obtain ⟨hx, hb, hml, hown, hts, hTy, hWd, hA, hlk⟩ := C
  intro d r d' hf hK H locs ls hl hP hS
  exact lv_i2c hx hb hd rfl (k d r d' hf hK H locs ls hl hP hS)
theorem s_iconst (C : Cx G R cc nL own) {n : Int} (v : Int32) (hv : Int32.ofInt n = v) (hd : decode cc pc = .ok (.iconst n, 1)) (k : Sm G R ad Z ck K (pc + 1) L (.int v :: st) f) : Sm G R ad Z ck K pc L (st) f := by
  obtain ⟨p, l, e, s, m, args, below, meth, c, Q, A, cy, D⟩ := G
  obtain ⟨hx, hb, hml, hown, hts, hTy, hWd, hA, hlk⟩ := C
  intro d r d' hf hK H locs ls hl hP hS
  exact lv_iconst hx hb hd hv (k d r d' hf hK H locs ls hl hP hS)
theorem s_bipush (C : Cx G R cc nL own) {n : Int} (v : Int32) (hv : (Int8.ofInt n).toInt32 = v) (hd : decode cc pc = .ok (.bipush n, 2)) (k : Sm G R ad Z ck K (pc + 2) L (.int v :: st) f) : Sm G R ad Z ck K pc L (st) f := by
  obtain ⟨p, l, e, s, m, args, below, meth, c, Q, A, cy, D⟩ := G
  obtain ⟨hx, hb, hml, hown, hts, hTy, hWd, hA, hlk⟩ := C
  intro d r d' hf hK H locs ls hl hP hS
  exact lv_bipush hx hb hd hv (k d r d' hf hK H locs ls hl hP hS)
theorem s_sipush (C : Cx G R cc nL own) {n : Int} (v : Int32) (hv : (Int16.ofInt n).toInt32 = v) (hd : decode cc pc = .ok (.sipush n, 3)) (k : Sm G R ad Z ck K (pc + 3) L (.int v :: st) f) : Sm G R ad Z ck K pc L (st) f := by
  obtain ⟨p, l, e, s, m, args, below, meth, c, Q, A, cy, D⟩ := G
  obtain ⟨hx, hb, hml, hown, hts, hTy, hWd, hA, hlk⟩ := C
  intro d r d' hf hK H locs ls hl hP hS
  exact lv_sipush hx hb hd hv (k d r d' hf hK H locs ls hl hP hS)
theorem s_lconst (C : Cx G R cc nL own) {n : Fin 2} (v : Int64) (hv : Int64.ofNat (n : Nat) = v) (hd : decode cc pc = .ok (.lconst n, 1)) (k : Sm G R ad Z ck K (pc + 1) L (.long v :: st) f) : Sm G R ad Z ck K pc L (st) f := by
  obtain ⟨p, l, e, s, m, args, below, meth, c, Q, A, cy, D⟩ := G
  obtain ⟨hx, hb, hml, hown, hts, hTy, hWd, hA, hlk⟩ := C
  intro d r d' hf hK H locs ls hl hP hS
  exact lv_lconst hx hb hd hv (k d r d' hf hK H locs ls hl hP hS)
theorem s_ldc2 (C : Cx G R cc nL own) {n : Nat} {v : Int64} (hw : Jvm.Cond.constantLong own n v ∈ TT) (hd : decode cc pc = .ok (.ldc2_w n, 3)) (k : Sm G R ad Z ck K (pc + 3) L (.long v :: st) f) : Sm G R ad Z ck K pc L (st) f := by
  obtain ⟨p, l, e, s, m, args, below, meth, c, Q, A, cy, D⟩ := G
  obtain ⟨hx, hb, hml, hown, hts, hTy, hWd, hA, hlk⟩ := C
  intro d r d' hf hK H locs ls hl hP hS
  exact lv_ldc2 hx hb hown (hts _ hw) hd (k d r d' hf hK H locs ls hl hP hS)
theorem s_ldcw (C : Cx G R cc nL own) {n : Nat} {v : Int32} (hw : Jvm.Cond.constant own n v ∈ TT) (hd : decode cc pc = .ok (.ldc_w n, 3)) (k : Sm G R ad Z ck K (pc + 3) L (.int v :: st) f) : Sm G R ad Z ck K pc L (st) f := by
  obtain ⟨p, l, e, s, m, args, below, meth, c, Q, A, cy, D⟩ := G
  obtain ⟨hx, hb, hml, hown, hts, hTy, hWd, hA, hlk⟩ := C
  intro d r d' hf hK H locs ls hl hP hS
  exact lv_ldcw hx hb hown (hts _ hw) hd (k d r d' hf hK H locs ls hl hP hS)
theorem s_dupi (C : Cx G R cc nL own) {x : Int32} (hd : decode cc pc = .ok (.dup, 1)) (k : Sm G R ad Z ck K (pc + 1) L (.int x :: .int x :: st) f) : Sm G R ad Z ck K pc L (.int x :: st) f := by
  obtain ⟨p, l, e, s, m, args, below, meth, c, Q, A, cy, D⟩ := G
  obtain ⟨hx, hb, hml, hown, hts, hTy, hWd, hA, hlk⟩ := C
  intro d r d' hf hK H locs ls hl hP hS
  exact lv_dup hx hb hd rfl (k d r d' hf hK H locs ls hl hP hS)
theorem s_iload_n (C : Cx G R cc nL own) {n : Fin 4} {x : Int32} (hk : lk L (n : Nat) = some (.int x)) (hd : decode cc pc = .ok (.iload_n n, 1)) (k : Sm G R ad Z ck K (pc + 1) L (.int x :: st) f) : Sm G R ad Z ck K pc L (st) f := by
  obtain ⟨p, l, e, s, m, args, below, meth, c, Q, A, cy, D⟩ := G
  obtain ⟨hx, hb, hml, hown, hts, hTy, hWd, hA, hlk⟩ := C
  intro d r d' hf hK H locs ls hl hP hS
  exact lv_iload_n hx hb hd rfl (lk_at hl hk) (k d r d' hf hK H locs ls hl hP hS)
theorem s_iload (C : Cx G R cc nL own) {n : Nat} {x : Int32} (hk : lk L n = some (.int x)) (hd : decode cc pc = .ok (.iload n, 2)) (k : Sm G R ad Z ck K (pc + 2) L (.int x :: st) f) : Sm G R ad Z ck K pc L (st) f := by
  obtain ⟨p, l, e, s, m, args, below, meth, c, Q, A, cy, D⟩ := G
  obtain ⟨hx, hb, hml, hown, hts, hTy, hWd, hA, hlk⟩ := C
  intro d r d' hf hK H locs ls hl hP hS
  exact lv_iload hx hb hd (lk_at hl hk) (k d r d' hf hK H locs ls hl hP hS)
theorem s_lload_n (C : Cx G R cc nL own) {n : Fin 4} {x : Int64} (hk : lk L (n : Nat) = some (.long x)) (hd : decode cc pc = .ok (.lload_n n, 1)) (k : Sm G R ad Z ck K (pc + 1) L (.long x :: st) f) : Sm G R ad Z ck K pc L (st) f := by
  obtain ⟨p, l, e, s, m, args, below, meth, c, Q, A, cy, D⟩ := G
  obtain ⟨hx, hb, hml, hown, hts, hTy, hWd, hA, hlk⟩ := C
  intro d r d' hf hK H locs ls hl hP hS
  exact lv_lload_n hx hb hd rfl (lk_at hl hk) (k d r d' hf hK H locs ls hl hP hS)
theorem s_lload (C : Cx G R cc nL own) {n : Nat} {x : Int64} (hk : lk L n = some (.long x)) (hd : decode cc pc = .ok (.lload n, 2)) (k : Sm G R ad Z ck K (pc + 2) L (.long x :: st) f) : Sm G R ad Z ck K pc L (st) f := by
  obtain ⟨p, l, e, s, m, args, below, meth, c, Q, A, cy, D⟩ := G
  obtain ⟨hx, hb, hml, hown, hts, hTy, hWd, hA, hlk⟩ := C
  intro d r d' hf hK H locs ls hl hP hS
  exact lv_lload hx hb hd (lk_at hl hk) (k d r d' hf hK H locs ls hl hP hS)
theorem s_aload_n (C : Cx G R cc nL own) {n : Fin 4} {x : Nat} (hk : lk L (n : Nat) = some (.ref x)) (hd : decode cc pc = .ok (.aload_n n, 1)) (k : Sm G R ad Z ck K (pc + 1) L (.ref x :: st) f) : Sm G R ad Z ck K pc L st f := by
  obtain ⟨p, l, e, s, m, args, below, meth, c, Q, A, cy, D⟩ := G
  obtain ⟨hx, hb, hml, hown, hts, hTy, hWd, hA, hlk⟩ := C
  intro d r d' hf hK H locs ls hl hP hS
  have h := lk_at hl hk
  have kk := k d r d' hf hK H locs ls hl hP hS
  rw [List.map_cons] at kk
  rw [show cv ad (.ref x) = rv ad x from rfl] at h kk
  by_cases hz : x = 0
  · rw [rv_0 hz] at h kk
    exact lv_aload_nN hx hb hd rfl h kk
  · rw [rv_n hz] at h kk
    exact lv_aload_n hx hb hd rfl h kk
theorem s_aload (C : Cx G R cc nL own) {n : Nat} {x : Nat} (hk : lk L n = some (.ref x)) (hd : decode cc pc = .ok (.aload n, 2)) (k : Sm G R ad Z ck K (pc + 2) L (.ref x :: st) f) : Sm G R ad Z ck K pc L st f := by
  obtain ⟨p, l, e, s, m, args, below, meth, c, Q, A, cy, D⟩ := G
  obtain ⟨hx, hb, hml, hown, hts, hTy, hWd, hA, hlk⟩ := C
  intro d r d' hf hK H locs ls hl hP hS
  have h := lk_at hl hk
  have kk := k d r d' hf hK H locs ls hl hP hS
  rw [List.map_cons] at kk
  rw [show cv ad (.ref x) = rv ad x from rfl] at h kk
  by_cases hz : x = 0
  · rw [rv_0 hz] at h kk
    exact lv_aloadN hx hb hd h kk
  · rw [rv_n hz] at h kk
    exact lv_aload hx hb hd h kk
theorem s_istore_n (C : Cx G R cc nL own) {n : Fin 4} {x : Int32} {L' : List (Nat × Value)} (hn : (n : Nat) < nL) (hL : st1 L (n : Nat) (.int x) = L') (hd : decode cc pc = .ok (.istore_n n, 1)) (k : Sm G R ad Z ck K (pc + 1) L' st f) : Sm G R ad Z ck K pc L (.int x :: st) f := by
  subst hL
  obtain ⟨p, l, e, s, m, args, below, meth, c, Q, A, cy, D⟩ := G
  obtain ⟨hx, hb, hml, hown, hts, hTy, hWd, hA, hlk⟩ := C
  intro d r d' hf hK H locs ls hl hP hS
  exact lv_istore_n hx hb hd rfl hl (by rw [hml]; exact hn) (st1_map ad L (n : Nat) (.int x)) (fun ls' hl' => k d r d' hf hK H locs ls' hl' hP hS)
theorem s_istore (C : Cx G R cc nL own) {n : Nat} {x : Int32} {L' : List (Nat × Value)} (hn : n < nL) (hL : st1 L n (.int x) = L') (hd : decode cc pc = .ok (.istore n, 2)) (k : Sm G R ad Z ck K (pc + 2) L' st f) : Sm G R ad Z ck K pc L (.int x :: st) f := by
  subst hL
  obtain ⟨p, l, e, s, m, args, below, meth, c, Q, A, cy, D⟩ := G
  obtain ⟨hx, hb, hml, hown, hts, hTy, hWd, hA, hlk⟩ := C
  intro d r d' hf hK H locs ls hl hP hS
  exact lv_istore hx hb hd hl (by rw [hml]; exact hn) (st1_map ad L n (.int x)) (fun ls' hl' => k d r d' hf hK H locs ls' hl' hP hS)
theorem s_lstore_n (C : Cx G R cc nL own) {n : Fin 4} {x : Int64} {L' : List (Nat × Value)} (hn : (n : Nat) + 1 < nL) (hL : st2 L (n : Nat) (.long x) = L') (hd : decode cc pc = .ok (.lstore_n n, 1)) (k : Sm G R ad Z ck K (pc + 1) L' st f) : Sm G R ad Z ck K pc L (.long x :: st) f := by
  subst hL
  obtain ⟨p, l, e, s, m, args, below, meth, c, Q, A, cy, D⟩ := G
  obtain ⟨hx, hb, hml, hown, hts, hTy, hWd, hA, hlk⟩ := C
  intro d r d' hf hK H locs ls hl hP hS
  exact lv_lstore_n hx hb hd rfl hl (by rw [hml]; exact hn) (st2_map ad L (n : Nat) (.long x)) (fun ls' hl' => k d r d' hf hK H locs ls' hl' hP hS)
theorem s_lstore (C : Cx G R cc nL own) {n : Nat} {x : Int64} {L' : List (Nat × Value)} (hn : n + 1 < nL) (hL : st2 L n (.long x) = L') (hd : decode cc pc = .ok (.lstore n, 2)) (k : Sm G R ad Z ck K (pc + 2) L' st f) : Sm G R ad Z ck K pc L (.long x :: st) f := by
  subst hL
  obtain ⟨p, l, e, s, m, args, below, meth, c, Q, A, cy, D⟩ := G
  obtain ⟨hx, hb, hml, hown, hts, hTy, hWd, hA, hlk⟩ := C
  intro d r d' hf hK H locs ls hl hP hS
  exact lv_lstore hx hb hd hl (by rw [hml]; exact hn) (st2_map ad L n (.long x)) (fun ls' hl' => k d r d' hf hK H locs ls' hl' hP hS)
theorem s_astore_n (C : Cx G R cc nL own) {n : Fin 4} {x : Nat} {L' : List (Nat × Value)} (hn : (n : Nat) < nL) (hL : st1 L (n : Nat) (.ref x) = L') (hd : decode cc pc = .ok (.astore_n n, 1)) (k : Sm G R ad Z ck K (pc + 1) L' st f) : Sm G R ad Z ck K pc L (.ref x :: st) f := by
  subst hL
  obtain ⟨p, l, e, s, m, args, below, meth, c, Q, A, cy, D⟩ := G
  obtain ⟨hx, hb, hml, hown, hts, hTy, hWd, hA, hlk⟩ := C
  intro d r d' hf hK H locs ls hl hP hS
  have kk := fun ls' hl' => k d r d' hf hK H locs ls' hl' hP hS
  have hm := st1_map ad L (n : Nat) (.ref x)
  rw [List.map_cons]
  rw [show cv ad (.ref x) = rv ad x from rfl] at hm ⊢
  by_cases hz : x = 0
  · rw [rv_0 hz] at hm ⊢
    exact lv_astore_nN hx hb hd rfl hl (by rw [hml]; exact hn) hm kk
  · rw [rv_n hz] at hm ⊢
    exact lv_astore_n hx hb hd rfl hl (by rw [hml]; exact hn) hm kk
theorem s_astore (C : Cx G R cc nL own) {n : Nat} {x : Nat} {L' : List (Nat × Value)} (hn : n < nL) (hL : st1 L n (.ref x) = L') (hd : decode cc pc = .ok (.astore n, 2)) (k : Sm G R ad Z ck K (pc + 2) L' st f) : Sm G R ad Z ck K pc L (.ref x :: st) f := by
  subst hL
  obtain ⟨p, l, e, s, m, args, below, meth, c, Q, A, cy, D⟩ := G
  obtain ⟨hx, hb, hml, hown, hts, hTy, hWd, hA, hlk⟩ := C
  intro d r d' hf hK H locs ls hl hP hS
  have kk := fun ls' hl' => k d r d' hf hK H locs ls' hl' hP hS
  have hm := st1_map ad L n (.ref x)
  rw [List.map_cons]
  rw [show cv ad (.ref x) = rv ad x from rfl] at hm ⊢
  by_cases hz : x = 0
  · rw [rv_0 hz] at hm ⊢
    exact lv_astoreN hx hb hd hl (by rw [hml]; exact hn) hm kk
  · rw [rv_n hz] at hm ⊢
    exact lv_astore hx hb hd hl (by rw [hml]; exact hn) hm kk
theorem s_iinc (C : Cx G R cc nL own) {n : Nat} {z : Int} {x : Int32} {kf : Int32 → MM ρ} {L' : Int32 → List (Nat × Value)} (v : Int32) (hv : Int32.ofInt z = v) (hk : lk L n = some (.int x)) (hn : n < nL) (hL : ∀ y, st1 L n (.int y) = L' y) (hd : decode cc pc = .ok (.iinc n z, 3)) (k : ∀ y, Sm G R ad Z ck K (pc + 3) (L' y) st (kf y)) : Sm G R ad Z ck K pc L st (ml (x + v) kf) := by
  have k := k (x + v)
  rw [← hL (x + v)] at k
  obtain ⟨p, l, e, s, m, args, below, meth, c, Q, A, cy, D⟩ := G
  obtain ⟨hx, hb, hml, hown, hts, hTy, hWd, hA, hlk⟩ := C
  intro d r d' hf hK H locs ls hl hP hS
  obtain ⟨j, hj, hj2⟩ := List.getElem_of_mem (List.mem_map.mpr ⟨(n, Value.int x), lk_mem hk, rfl⟩ : (n, Value.int x) ∈ L.map (cw ad))
  exact lv_iinc (k := j) hx hb hd hl (by rw [List.getElem?_eq_getElem hj, hj2]) (by rw [hv]) (by rw [hml]; exact hn) (st1_map ad L n (.int (x + v))) (fun ls' hl' => k d r d' hf hK H locs ls' hl' hP hS)
theorem s_dupr (C : Cx G R cc nL own) {x : Nat} (hd : decode cc pc = .ok (.dup, 1)) (k : Sm G R ad Z ck K (pc + 1) L (.ref x :: .ref x :: st) f) : Sm G R ad Z ck K pc L (.ref x :: st) f := by
  obtain ⟨p, l, e, s, m, args, below, meth, c, Q, A, cy, D⟩ := G
  obtain ⟨hx, hb, hml, hown, hts, hTy, hWd, hA, hlk⟩ := C
  intro d r d' hf hK H locs ls hl hP hS
  exact lv_dup hx hb hd (cv_cat ad (.ref x)) (k d r d' hf hK H locs ls hl hP hS)
theorem s_dup2 (C : Cx G R cc nL own) {x : Nat} {y : Int32} (hd : decode cc pc = .ok (.dup2, 1)) (k : Sm G R ad Z ck K (pc + 1) L (.int y :: .ref x :: .int y :: .ref x :: st) f) : Sm G R ad Z ck K pc L (.int y :: .ref x :: st) f := by
  obtain ⟨p, l, e, s, m, args, below, meth, c, Q, A, cy, D⟩ := G
  obtain ⟨hx, hb, hml, hown, hts, hTy, hWd, hA, hlk⟩ := C
  intro d r d' hf hK H locs ls hl hP hS
  exact lv_dup2_11 hx hb hd (cv_cat ad (.int y)) (cv_cat ad (.ref x)) (k d r d' hf hK H locs ls hl hP hS)
theorem s_goto (C : Cx G R cc nL own) {off : Int} (tgt : Nat) (ht : (pc : Int) + off = (tgt : Int)) (hd : decode cc pc = .ok (.goto off, 3)) (k : Sm G R ad Z ck K tgt L st f) : Sm G R ad Z ck K pc L st f := by
  obtain ⟨p, l, e, s, m, args, below, meth, c, Q, A, cy, D⟩ := G
  obtain ⟨hx, hb, hml, hown, hts, hTy, hWd, hA, hlk⟩ := C
  intro d r d' hf hK H locs ls hl hP hS
  exact lv_goto hx hb hd ht (k d r d' hf hK H locs ls hl hP hS)
theorem s_icmp_eq (C : Cx G R cc nL own) {x y : Int32} {g : MM ρ} {off : Int} (tgt : Nat) (ht : (pc : Int) + off = (tgt : Int)) (hd : decode cc pc = .ok (.if_icmp .eq off, 3)) (kt : Sm G R ad Z ck K tgt L st f) (kf : Sm G R ad Z ck K (pc + 3) L st g) : Sm G R ad Z ck K pc L (.int y :: .int x :: st) (if x = y then f else g) := by
  obtain ⟨p, l, e, s, m, args, below, meth, c, Q, A, cy, D⟩ := G
  obtain ⟨hx, hb, hml, hown, hts, hTy, hWd, hA, hlk⟩ := C
  intro d r d' hf hK H locs ls hl hP hS
  refine lv_icmp_eq hx hb hd ht (fun h => ?_) (fun h => ?_)
  · rw [if_pos h] at hf
    exact kt d r d' hf hK H locs ls hl hP hS
  · rw [if_neg h] at hf
    exact kf d r d' hf hK H locs ls hl hP hS
theorem s_if_eq (C : Cx G R cc nL own) {x : Int32} {g : MM ρ} {off : Int} (tgt : Nat) (ht : (pc : Int) + off = (tgt : Int)) (hd : decode cc pc = .ok (.ifCond .eq off, 3)) (kt : Sm G R ad Z ck K tgt L st f) (kf : Sm G R ad Z ck K (pc + 3) L st g) : Sm G R ad Z ck K pc L (.int x :: st) (if x = 0 then f else g) := by
  obtain ⟨p, l, e, s, m, args, below, meth, c, Q, A, cy, D⟩ := G
  obtain ⟨hx, hb, hml, hown, hts, hTy, hWd, hA, hlk⟩ := C
  intro d r d' hf hK H locs ls hl hP hS
  refine lv_if_eq hx hb hd ht (fun h => ?_) (fun h => ?_)
  · rw [if_pos h] at hf
    exact kt d r d' hf hK H locs ls hl hP hS
  · rw [if_neg h] at hf
    exact kf d r d' hf hK H locs ls hl hP hS
theorem s_icmp_ne (C : Cx G R cc nL own) {x y : Int32} {g : MM ρ} {off : Int} (tgt : Nat) (ht : (pc : Int) + off = (tgt : Int)) (hd : decode cc pc = .ok (.if_icmp .ne off, 3)) (kt : Sm G R ad Z ck K tgt L st f) (kf : Sm G R ad Z ck K (pc + 3) L st g) : Sm G R ad Z ck K pc L (.int y :: .int x :: st) (if x = y then g else f) := by
  obtain ⟨p, l, e, s, m, args, below, meth, c, Q, A, cy, D⟩ := G
  obtain ⟨hx, hb, hml, hown, hts, hTy, hWd, hA, hlk⟩ := C
  intro d r d' hf hK H locs ls hl hP hS
  refine lv_icmp_ne hx hb hd ht (fun h => ?_) (fun h => ?_)
  · rw [if_neg h] at hf
    exact kt d r d' hf hK H locs ls hl hP hS
  · rw [if_pos h] at hf
    exact kf d r d' hf hK H locs ls hl hP hS
theorem s_if_ne (C : Cx G R cc nL own) {x : Int32} {g : MM ρ} {off : Int} (tgt : Nat) (ht : (pc : Int) + off = (tgt : Int)) (hd : decode cc pc = .ok (.ifCond .ne off, 3)) (kt : Sm G R ad Z ck K tgt L st f) (kf : Sm G R ad Z ck K (pc + 3) L st g) : Sm G R ad Z ck K pc L (.int x :: st) (if x = 0 then g else f) := by
  obtain ⟨p, l, e, s, m, args, below, meth, c, Q, A, cy, D⟩ := G
  obtain ⟨hx, hb, hml, hown, hts, hTy, hWd, hA, hlk⟩ := C
  intro d r d' hf hK H locs ls hl hP hS
  refine lv_if_ne hx hb hd ht (fun h => ?_) (fun h => ?_)
  · rw [if_neg h] at hf
    exact kt d r d' hf hK H locs ls hl hP hS
  · rw [if_pos h] at hf
    exact kf d r d' hf hK H locs ls hl hP hS
theorem s_icmp_lt (C : Cx G R cc nL own) {x y : Int32} {g : MM ρ} {off : Int} (tgt : Nat) (ht : (pc : Int) + off = (tgt : Int)) (hd : decode cc pc = .ok (.if_icmp .lt off, 3)) (kt : Sm G R ad Z ck K tgt L st f) (kf : Sm G R ad Z ck K (pc + 3) L st g) : Sm G R ad Z ck K pc L (.int y :: .int x :: st) (if x < y then f else g) := by
  obtain ⟨p, l, e, s, m, args, below, meth, c, Q, A, cy, D⟩ := G
  obtain ⟨hx, hb, hml, hown, hts, hTy, hWd, hA, hlk⟩ := C
  intro d r d' hf hK H locs ls hl hP hS
  refine lv_icmp_lt hx hb hd ht (fun h => ?_) (fun h => ?_)
  · rw [if_pos h] at hf
    exact kt d r d' hf hK H locs ls hl hP hS
  · rw [if_neg h] at hf
    exact kf d r d' hf hK H locs ls hl hP hS
theorem s_if_lt (C : Cx G R cc nL own) {x : Int32} {g : MM ρ} {off : Int} (tgt : Nat) (ht : (pc : Int) + off = (tgt : Int)) (hd : decode cc pc = .ok (.ifCond .lt off, 3)) (kt : Sm G R ad Z ck K tgt L st f) (kf : Sm G R ad Z ck K (pc + 3) L st g) : Sm G R ad Z ck K pc L (.int x :: st) (if x < 0 then f else g) := by
  obtain ⟨p, l, e, s, m, args, below, meth, c, Q, A, cy, D⟩ := G
  obtain ⟨hx, hb, hml, hown, hts, hTy, hWd, hA, hlk⟩ := C
  intro d r d' hf hK H locs ls hl hP hS
  refine lv_if_lt hx hb hd ht (fun h => ?_) (fun h => ?_)
  · rw [if_pos h] at hf
    exact kt d r d' hf hK H locs ls hl hP hS
  · rw [if_neg h] at hf
    exact kf d r d' hf hK H locs ls hl hP hS
theorem s_icmp_ge (C : Cx G R cc nL own) {x y : Int32} {g : MM ρ} {off : Int} (tgt : Nat) (ht : (pc : Int) + off = (tgt : Int)) (hd : decode cc pc = .ok (.if_icmp .ge off, 3)) (kt : Sm G R ad Z ck K tgt L st f) (kf : Sm G R ad Z ck K (pc + 3) L st g) : Sm G R ad Z ck K pc L (.int y :: .int x :: st) (if y ≤ x then f else g) := by
  obtain ⟨p, l, e, s, m, args, below, meth, c, Q, A, cy, D⟩ := G
  obtain ⟨hx, hb, hml, hown, hts, hTy, hWd, hA, hlk⟩ := C
  intro d r d' hf hK H locs ls hl hP hS
  refine lv_icmp_ge hx hb hd ht (fun h => ?_) (fun h => ?_)
  · rw [if_pos h] at hf
    exact kt d r d' hf hK H locs ls hl hP hS
  · rw [if_neg h] at hf
    exact kf d r d' hf hK H locs ls hl hP hS
theorem s_if_ge (C : Cx G R cc nL own) {x : Int32} {g : MM ρ} {off : Int} (tgt : Nat) (ht : (pc : Int) + off = (tgt : Int)) (hd : decode cc pc = .ok (.ifCond .ge off, 3)) (kt : Sm G R ad Z ck K tgt L st f) (kf : Sm G R ad Z ck K (pc + 3) L st g) : Sm G R ad Z ck K pc L (.int x :: st) (if 0 ≤ x then f else g) := by
  obtain ⟨p, l, e, s, m, args, below, meth, c, Q, A, cy, D⟩ := G
  obtain ⟨hx, hb, hml, hown, hts, hTy, hWd, hA, hlk⟩ := C
  intro d r d' hf hK H locs ls hl hP hS
  refine lv_if_ge hx hb hd ht (fun h => ?_) (fun h => ?_)
  · rw [if_pos h] at hf
    exact kt d r d' hf hK H locs ls hl hP hS
  · rw [if_neg h] at hf
    exact kf d r d' hf hK H locs ls hl hP hS
theorem s_icmp_gt (C : Cx G R cc nL own) {x y : Int32} {g : MM ρ} {off : Int} (tgt : Nat) (ht : (pc : Int) + off = (tgt : Int)) (hd : decode cc pc = .ok (.if_icmp .gt off, 3)) (kt : Sm G R ad Z ck K tgt L st f) (kf : Sm G R ad Z ck K (pc + 3) L st g) : Sm G R ad Z ck K pc L (.int y :: .int x :: st) (if y < x then f else g) := by
  obtain ⟨p, l, e, s, m, args, below, meth, c, Q, A, cy, D⟩ := G
  obtain ⟨hx, hb, hml, hown, hts, hTy, hWd, hA, hlk⟩ := C
  intro d r d' hf hK H locs ls hl hP hS
  refine lv_icmp_gt hx hb hd ht (fun h => ?_) (fun h => ?_)
  · rw [if_pos h] at hf
    exact kt d r d' hf hK H locs ls hl hP hS
  · rw [if_neg h] at hf
    exact kf d r d' hf hK H locs ls hl hP hS
theorem s_if_gt (C : Cx G R cc nL own) {x : Int32} {g : MM ρ} {off : Int} (tgt : Nat) (ht : (pc : Int) + off = (tgt : Int)) (hd : decode cc pc = .ok (.ifCond .gt off, 3)) (kt : Sm G R ad Z ck K tgt L st f) (kf : Sm G R ad Z ck K (pc + 3) L st g) : Sm G R ad Z ck K pc L (.int x :: st) (if 0 < x then f else g) := by
  obtain ⟨p, l, e, s, m, args, below, meth, c, Q, A, cy, D⟩ := G
  obtain ⟨hx, hb, hml, hown, hts, hTy, hWd, hA, hlk⟩ := C
  intro d r d' hf hK H locs ls hl hP hS
  refine lv_if_gt hx hb hd ht (fun h => ?_) (fun h => ?_)
  · rw [if_pos h] at hf
    exact kt d r d' hf hK H locs ls hl hP hS
  · rw [if_neg h] at hf
    exact kf d r d' hf hK H locs ls hl hP hS
theorem s_icmp_le (C : Cx G R cc nL own) {x y : Int32} {g : MM ρ} {off : Int} (tgt : Nat) (ht : (pc : Int) + off = (tgt : Int)) (hd : decode cc pc = .ok (.if_icmp .le off, 3)) (kt : Sm G R ad Z ck K tgt L st f) (kf : Sm G R ad Z ck K (pc + 3) L st g) : Sm G R ad Z ck K pc L (.int y :: .int x :: st) (if x ≤ y then f else g) := by
  obtain ⟨p, l, e, s, m, args, below, meth, c, Q, A, cy, D⟩ := G
  obtain ⟨hx, hb, hml, hown, hts, hTy, hWd, hA, hlk⟩ := C
  intro d r d' hf hK H locs ls hl hP hS
  refine lv_icmp_le hx hb hd ht (fun h => ?_) (fun h => ?_)
  · rw [if_pos h] at hf
    exact kt d r d' hf hK H locs ls hl hP hS
  · rw [if_neg h] at hf
    exact kf d r d' hf hK H locs ls hl hP hS
theorem s_if_le (C : Cx G R cc nL own) {x : Int32} {g : MM ρ} {off : Int} (tgt : Nat) (ht : (pc : Int) + off = (tgt : Int)) (hd : decode cc pc = .ok (.ifCond .le off, 3)) (kt : Sm G R ad Z ck K tgt L st f) (kf : Sm G R ad Z ck K (pc + 3) L st g) : Sm G R ad Z ck K pc L (.int x :: st) (if x ≤ 0 then f else g) := by
  obtain ⟨p, l, e, s, m, args, below, meth, c, Q, A, cy, D⟩ := G
  obtain ⟨hx, hb, hml, hown, hts, hTy, hWd, hA, hlk⟩ := C
  intro d r d' hf hK H locs ls hl hP hS
  refine lv_if_le hx hb hd ht (fun h => ?_) (fun h => ?_)
  · rw [if_pos h] at hf
    exact kt d r d' hf hK H locs ls hl hP hS
  · rw [if_neg h] at hf
    exact kf d r d' hf hK H locs ls hl hP hS
theorem lc_gt (x y : Int64) : 0 < lg_cmp x y ↔ y < x := by
  unfold lg_cmp
  by_cases h : x > y
  · rw [if_pos h]; exact ⟨fun _ => h, fun _ => by decide⟩
  · rw [if_neg h]
    constructor
    · intro h2; exfalso; split at h2 <;> exact absurd h2 (by decide)
    · intro h2; exact absurd h2 h
theorem lc_eq (x y : Int64) : lg_cmp x y = 0 ↔ x = y := by
  unfold lg_cmp
  by_cases h : x > y
  · rw [if_pos h]
    constructor
    · intro h2; exact absurd h2 (by decide)
    · intro h2; subst h2; exact (Int64.lt_irrefl h).elim
  · rw [if_neg h]
    by_cases h2 : x = y
    · rw [if_pos h2]; exact ⟨fun _ => h2, fun _ => rfl⟩
    · rw [if_neg h2]; exact ⟨fun h3 => absurd h3 (by decide), fun h3 => absurd h3 h2⟩
theorem lc_ge (x y : Int64) : 0 ≤ lg_cmp x y ↔ y ≤ x := lg_cmp_ge x y
theorem lc_lt (x y : Int64) : lg_cmp x y < 0 ↔ x < y := by
  rw [← Int32.not_le, lc_ge, Int64.not_le]
theorem lc_le (x y : Int64) : lg_cmp x y ≤ 0 ↔ x ≤ y := by
  rw [← Int32.not_lt, lc_gt, Int64.not_lt]
theorem s_lcmp_eq (C : Cx G R cc nL own) {x y : Int64} {g : MM ρ} {off : Int} (tgt : Nat) (ht : ((pc + 1 : Nat) : Int) + off = (tgt : Int)) (hd : decode cc pc = .ok (.lcmp, 1)) (hd2 : decode cc (pc + 1) = .ok (.ifCond .eq off, 3)) (kt : Sm G R ad Z ck K tgt L st f) (kf : Sm G R ad Z ck K (pc + 4) L st g) : Sm G R ad Z ck K pc L (.long y :: .long x :: st) (if x = y then f else g) := by
  obtain ⟨p, l, e, s, m, args, below, meth, c, Q, A, cy, D⟩ := G
  obtain ⟨hx, hb, hml, hown, hts, hTy, hWd, hA, hlk⟩ := C
  intro d r d' hf hK H locs ls hl hP hS
  refine W.lcmp hx hb hd ?_
  refine lv_if_eq hx hb hd2 ht (fun h => ?_) (fun h => ?_)
  · rw [if_pos ((lc_eq x y).mp h)] at hf
    exact kt d r d' hf hK H locs ls hl hP hS
  · rw [if_neg (mt (lc_eq x y).mpr h)] at hf
    exact kf d r d' hf hK H locs ls hl hP hS
theorem s_lcmp_ne (C : Cx G R cc nL own) {x y : Int64} {g : MM ρ} {off : Int} (tgt : Nat) (ht : ((pc + 1 : Nat) : Int) + off = (tgt : Int)) (hd : decode cc pc = .ok (.lcmp, 1)) (hd2 : decode cc (pc + 1) = .ok (.ifCond .ne off, 3)) (kt : Sm G R ad Z ck K tgt L st f) (kf : Sm G R ad Z ck K (pc + 4) L st g) : Sm G R ad Z ck K pc L (.long y :: .long x :: st) (if x = y then g else f) := by
  obtain ⟨p, l, e, s, m, args, below, meth, c, Q, A, cy, D⟩ := G
  obtain ⟨hx, hb, hml, hown, hts, hTy, hWd, hA, hlk⟩ := C
  intro d r d' hf hK H locs ls hl hP hS
  refine W.lcmp hx hb hd ?_
  refine lv_if_ne hx hb hd2 ht (fun h => ?_) (fun h => ?_)
  · rw [if_neg (mt (lc_eq x y).mpr h)] at hf
    exact kt d r d' hf hK H locs ls hl hP hS
  · rw [if_pos ((lc_eq x y).mp h)] at hf
    exact kf d r d' hf hK H locs ls hl hP hS
theorem s_lcmp_lt (C : Cx G R cc nL own) {x y : Int64} {g : MM ρ} {off : Int} (tgt : Nat) (ht : ((pc + 1 : Nat) : Int) + off = (tgt : Int)) (hd : decode cc pc = .ok (.lcmp, 1)) (hd2 : decode cc (pc + 1) = .ok (.ifCond .lt off, 3)) (kt : Sm G R ad Z ck K tgt L st f) (kf : Sm G R ad Z ck K (pc + 4) L st g) : Sm G R ad Z ck K pc L (.long y :: .long x :: st) (if x < y then f else g) := by
  obtain ⟨p, l, e, s, m, args, below, meth, c, Q, A, cy, D⟩ := G
  obtain ⟨hx, hb, hml, hown, hts, hTy, hWd, hA, hlk⟩ := C
  intro d r d' hf hK H locs ls hl hP hS
  refine W.lcmp hx hb hd ?_
  refine lv_if_lt hx hb hd2 ht (fun h => ?_) (fun h => ?_)
  · rw [if_pos ((lc_lt x y).mp h)] at hf
    exact kt d r d' hf hK H locs ls hl hP hS
  · rw [if_neg (mt (lc_lt x y).mpr h)] at hf
    exact kf d r d' hf hK H locs ls hl hP hS
theorem s_lcmp_ge (C : Cx G R cc nL own) {x y : Int64} {g : MM ρ} {off : Int} (tgt : Nat) (ht : ((pc + 1 : Nat) : Int) + off = (tgt : Int)) (hd : decode cc pc = .ok (.lcmp, 1)) (hd2 : decode cc (pc + 1) = .ok (.ifCond .ge off, 3)) (kt : Sm G R ad Z ck K tgt L st f) (kf : Sm G R ad Z ck K (pc + 4) L st g) : Sm G R ad Z ck K pc L (.long y :: .long x :: st) (if y ≤ x then f else g) := by
  obtain ⟨p, l, e, s, m, args, below, meth, c, Q, A, cy, D⟩ := G
  obtain ⟨hx, hb, hml, hown, hts, hTy, hWd, hA, hlk⟩ := C
  intro d r d' hf hK H locs ls hl hP hS
  refine W.lcmp hx hb hd ?_
  refine lv_if_ge hx hb hd2 ht (fun h => ?_) (fun h => ?_)
  · rw [if_pos ((lc_ge x y).mp h)] at hf
    exact kt d r d' hf hK H locs ls hl hP hS
  · rw [if_neg (mt (lc_ge x y).mpr h)] at hf
    exact kf d r d' hf hK H locs ls hl hP hS
theorem s_lcmp_gt (C : Cx G R cc nL own) {x y : Int64} {g : MM ρ} {off : Int} (tgt : Nat) (ht : ((pc + 1 : Nat) : Int) + off = (tgt : Int)) (hd : decode cc pc = .ok (.lcmp, 1)) (hd2 : decode cc (pc + 1) = .ok (.ifCond .gt off, 3)) (kt : Sm G R ad Z ck K tgt L st f) (kf : Sm G R ad Z ck K (pc + 4) L st g) : Sm G R ad Z ck K pc L (.long y :: .long x :: st) (if y < x then f else g) := by
  obtain ⟨p, l, e, s, m, args, below, meth, c, Q, A, cy, D⟩ := G
  obtain ⟨hx, hb, hml, hown, hts, hTy, hWd, hA, hlk⟩ := C
  intro d r d' hf hK H locs ls hl hP hS
  refine W.lcmp hx hb hd ?_
  refine lv_if_gt hx hb hd2 ht (fun h => ?_) (fun h => ?_)
  · rw [if_pos ((lc_gt x y).mp h)] at hf
    exact kt d r d' hf hK H locs ls hl hP hS
  · rw [if_neg (mt (lc_gt x y).mpr h)] at hf
    exact kf d r d' hf hK H locs ls hl hP hS
theorem s_lcmp_le (C : Cx G R cc nL own) {x y : Int64} {g : MM ρ} {off : Int} (tgt : Nat) (ht : ((pc + 1 : Nat) : Int) + off = (tgt : Int)) (hd : decode cc pc = .ok (.lcmp, 1)) (hd2 : decode cc (pc + 1) = .ok (.ifCond .le off, 3)) (kt : Sm G R ad Z ck K tgt L st f) (kf : Sm G R ad Z ck K (pc + 4) L st g) : Sm G R ad Z ck K pc L (.long y :: .long x :: st) (if x ≤ y then f else g) := by
  obtain ⟨p, l, e, s, m, args, below, meth, c, Q, A, cy, D⟩ := G
  obtain ⟨hx, hb, hml, hown, hts, hTy, hWd, hA, hlk⟩ := C
  intro d r d' hf hK H locs ls hl hP hS
  refine W.lcmp hx hb hd ?_
  refine lv_if_le hx hb hd2 ht (fun h => ?_) (fun h => ?_)
  · rw [if_pos ((lc_le x y).mp h)] at hf
    exact kt d r d' hf hK H locs ls hl hP hS
  · rw [if_neg (mt (lc_le x y).mpr h)] at hf
    exact kf d r d' hf hK H locs ls hl hP hS
theorem s_leti {x : Int32} {kf : Int32 → MM ρ} (k : ∀ y, Sm G R ad Z ck K pc L (.int y :: st) (kf y)) : Sm G R ad Z ck K pc L (.int x :: st) (ml x kf) := k x
theorem s_letl {x : Int64} {kf : Int64 → MM ρ} (k : ∀ y, Sm G R ad Z ck K pc L (.long y :: st) (kf y)) : Sm G R ad Z ck K pc L (.long x :: st) (ml x kf) := k x
theorem s_weak (is : List Nat) {L' : List (Nat × Value)} (h : pkL L is = L') (k : Sm G R ad Z ck K pc L' st f) : Sm G R ad Z ck K pc L st f := by
  subst h
  obtain ⟨p, l, e, s, m, args, below, meth, c, Q, A, cy, D⟩ := G
  intro d r d' hf hK H locs ls hl hP hS
  exact k d r d' hf hK H locs ls (pkL_has is hl) hP hS
def lpK {α : Type} (G : GT) (R : Room) (ad : Nat → Nat) (Z : Zt) (ck : Nat × Nat) (hd : Nat) (en : α → List (Nat × Value)) (K : ρ → Dm → Prop) : α ⊕ ρ → Dm → Prop
  | .inr r, d => K r d
  | .inl a, d => match G with
    | (p, l, e, s, m, args, below, meth, c, Q, A, cy, D) => ∀ (H : Heap) (locs : List Loc) (ls : Array Slot), lv_has ls c.maxLocals ((en a).map (cw ad)) → va_P D vwCl (wd cy ad Z d) H → va_S A s.heap H locs → W p l e R s m args below meth c H locs ck.1 ck.2 Q (F0 m hd ls [])
theorem s_back {α : Type} {hd : Nat} {en : α → List (Nat × Value)} (is : List Nat) (a : α) (h : pkL L is = en a) : Sm G R ad Z ck (lpK G R ad Z ck hd en K) hd L [] (mp (.inl a)) := by
  refine s_weak is h ?_
  obtain ⟨p, l, e, s, m, args, below, meth, c, Q, A, cy, D⟩ := G
  intro d r d' hf hK H locs ls hl hP hS
  unfold mp at hf
  cases hf
  exact hK H locs ls hl hP hS
theorem s_exit {α : Type} {hd : Nat} {en : α → List (Nat × Value)} (k : Sm G R ad Z ck K pc L st f) : Sm G R ad Z ck (lpK G R ad Z ck hd en K) pc L st (mr (α := α) f) := by
  obtain ⟨p, l, e, s, m, args, below, meth, c, Q, A, cy, D⟩ := G
  intro d r d' hf hK H locs ls hl hP hS
  unfold mr at hf
  split at hf
  · cases hf
  · next q hq =>
    cases hf
    exact k d q.1 q.2 hq hK H locs ls hl hP hS
theorem s_loop {α : Type} {hd : Nat} {en : α → List (Nat × Value)} {b : α → MM (α ⊕ ρ)} (h : ∀ a, Sm G R ad Z ck (lpK G R ad Z ck hd en K) hd (en a) [] (b a)) (a : α) : Sm G R ad Z ck K hd (en a) [] (lo b a) := by
  obtain ⟨p, l, e, s, m, args, below, meth, c, Q, A, cy, D⟩ := G
  intro d r d' hf hK H locs ls hl hP hS
  obtain ⟨n, hn⟩ := lo_iff.mp hf
  clear hf
  induction n generalizing a d H locs ls with
  | zero => simp [it] at hn
  | succ n ih =>
    simp only [it] at hn
    split at hn
    · cases hn
    · next a' d1 hb =>
      refine h a d (.inl a') d1 hb ?_ H locs ls hl hP hS
      intro H1 locs1 ls1 hl1 hP1 hS1
      exact ih a' d1 H1 locs1 ls1 hl1 hP1 hS1 hn
    · next r1 d1 hb =>
      cases hn
      exact h a d (.inr r) d' hb hK H locs ls hl hP hS
end
end
section
/-! ===== fields, arrays ===== -/
def CF (ci : Nat) (C : String) (T : u_T) (N : Nat) : Prop := vwCl[ci]? = some (C, T, N) ∧ cnF ci = N ∧ (∀ w ∈ u_ws C T N, w ∈ TT) ∧ (∀ k, k < N → parseFieldDescriptor (T k).2.2.1 = some (ctF ci k)) ∧ (∀ a, a < N → ∀ b, b < N → a ≠ b → (T a).2.1 ≠ (T b).2.1) ∧ ci < 12
def FL (own : String) (idx ci k : Nat) : Prop := ∃ C T N, CF ci C T N ∧ k < N ∧ Cond.fieldLink own idx (T k).1 (T k).2.1 (T k).2.2.1 ∈ TT
def FW (own : String) (idx ci k : Nat) : Prop := ∃ C T N, CF ci C T N ∧ k < N ∧ Cond.fieldLink own idx (T k).1 (T k).2.1 (T k).2.2.1 ∈ TT ∧ (T k).2.2.2 = false
theorem mb_some {α β : Type} {f : MM α} {k : α → MM β} {d : Dm} {q : β × Dm} (h : mb f k d = some q) : ∃ a d1, f d = some (a, d1) ∧ k a d1 = some q := by
  unfold mb at h
  split at h
  · cases h
  · next x hx => exact ⟨x.1, x.2, hx, h⟩
theorem some_if {α : Type} {c : Prop} [Decidable c] {x y : α} (h : (if c then some x else none) = some y) : c ∧ x = y := by
  by_cases hc : c
  · rw [if_pos hc] at h; exact ⟨hc, Option.some.inj h⟩
  · rw [if_neg hc] at h; cases h
theorem u2_s {α : Type} (f : Nat → Nat → α) (a k : Nat) (x : α) : u2 f a k x a k = x := if_pos ⟨rfl, rfl⟩
theorem u2_a {α : Type} (f : Nat → Nat → α) {a b : Nat} (h : b ≠ a) (k : Nat) (x : α) (j : Nat) : u2 f a k x b j = f b j := if_neg fun q => h q.1
theorem u2_k {α : Type} (f : Nat → Nat → α) (a b : Nat) {k j : Nat} (h : j ≠ k) (x : α) : u2 f a k x b j = f b j := if_neg fun q => h q.2
theorem u2_row {α : Type} (f : Nat → Nat → α) {a b : Nat} (h : b ≠ a) (k : Nat) (x : α) : u2 f a k x b = f b := funext fun j => u2_a f h k x j
section
variable {cy : Nat → ClassId} {ad : Nat → Nat} {Z : Zt} {d d' : Dm} {a ci k : Nat}
theorem wc_obj (h : Z.2.1 a = ci + 1) (hc : ci < 12) : wc cy ad Z d a = .inr (ci, fl ad d a ci) := by
  unfold wc
  rw [if_pos (by omega), h]
  rfl
theorem wc_int {c : Nat} (h : Z.2.1 a = c) (hc : c = 21 ∨ c = 22 ∨ c = 23 ∨ c = 25) : wc cy ad Z d a = .inl (cy c, Z.2.2 a, .inl (d.1 a)) := by
  unfold wc
  rw [if_neg (by omega), if_neg (by omega), if_pos (by omega), h]
theorem wc_long (h : Z.2.1 a = 24) : wc cy ad Z d a = .inl (cy 24, Z.2.2 a, .inr (.inl (d.2.1 a))) := by
  unfold wc
  rw [if_neg (by omega), if_pos h]
theorem wc_ref {c : Nat} (h : Z.2.1 a = c) (hc : c = 26 ∨ c = 27) : wc cy ad Z d a = .inl (cy c, Z.2.2 a, .inr (.inr (.inr (.inr (fun k => ro ad (d.2.2 a k)))))) := by
  unfold wc
  rw [if_neg (by omega), if_neg (by omega), if_neg (by omega), h]
theorem fv_congr (h1 : d'.1 a = d.1 a) (h2 : d'.2.1 a = d.2.1 a) (h3 : d'.2.2 a = d.2.2 a) (ty : FieldType) : fv ad d' a k ty = fv ad d a k ty := by
  unfold fv
  rw [h1, h2, h3]
theorem wc_congr (h1 : d'.1 a = d.1 a) (h2 : d'.2.1 a = d.2.1 a) (h3 : d'.2.2 a = d.2.2 a) : wc cy ad Z d' a = wc cy ad Z d a := by
  have e : ∀ ci, fl ad d' a ci = fl ad d a ci := fun ci => by
    unfold fl
    exact List.map_congr_left (fun k _ => fv_congr h1 h2 h3 _)
  unfold wc
  rw [e, h1, h2, h3]
theorem fl_get (h : k < cnF ci) : (fl ad d a ci)[k]? = some (fv ad d a k (ctF ci k)) := by
  simp [fl, List.getElem?_range h]
theorem fl_len : (fl ad d a ci).length = cnF ci := by simp [fl]
theorem fl_set {v : Value} (hv : fv ad d' a k (ctF ci k) = v) (ho : ∀ j, j ≠ k → fv ad d' a j (ctF ci j) = fv ad d a j (ctF ci j)) : (fl ad d a ci).set k v = fl ad d' a ci := by
  apply List.ext_getElem?
  intro i
  by_cases hl : i < cnF ci
  · rw [List.getElem?_set, fl_get hl, fl_get hl, fl_len]
    by_cases hi : k = i
    · subst hi; rw [if_pos rfl, if_pos hl, hv]
    · rw [if_neg hi, ho i (fun q => hi q.symm)]
  · rw [List.getElem?_eq_none (by rw [List.length_set, fl_len]; omega), List.getElem?_eq_none (by rw [fl_len]; omega)]
end
theorem ib_in {i : Int32} {n : Nat} (h : ib i n) : vp_in i n := fun q => q.elim (fun q => absurd h.1 (Int32.not_le.mpr q)) (fun q => absurd h.2 (Nat.not_lt.mpr q))
theorem ref_st {ad : Nat → Nat} {Z : Zt} {a : Nat} (hk : Vk ad Z) (h : Z.2.1 a ≠ 0) : (1 ≤ a ∧ a ≤ Z.1) ∧ cv ad (.ref a) = .ref (ad a) := ⟨hk.2 a h, rv_n (fun q => by have := (hk.2 a h).1; omega)⟩
theorem chr_nar {x : Int32} (h : 0 ≤ x ∧ x ≤ 65535) : narrow .char (.int x) = .int x := by
  obtain ⟨j, hj, rfl⟩ := nI_of2 (M := 65535) (n := 65535) rfl (Int32.not_lt.mpr h.1) h.2
  exact (pk_charN (show j < 65536 by omega)).1
section
variable {ρ : Type} {G : GT} {R : Room} {ad : Nat → Nat} {Z : Zt} {ck : Nat × Nat} {K : ρ → Dm → Prop} {pc nL : Nat} {cc : ByteArray} {own : String} {L : List (Nat × Value)} {st : List Value} {f : MM ρ}
theorem s_getI (C : Cx G R cc nL own) (hV : Vx G R ad Z ck) {idx ci k : Nat} (hF : FL own idx ci k) (hty : ∀ (ad : Nat → Nat) (d : Dm) (a : Nat), fv ad d a k (ctF ci k) = .int (d.1 a k)) {a : Nat} {kf : Int32 → MM ρ} (hd : decode cc pc = .ok (.getfield idx, 3)) (kk : ∀ x, Sm G R ad Z ck K (pc + 3) L (.int x :: st) (kf x)) : Sm G R ad Z ck K pc L (.ref a :: st) (mb (gI Z (ci + 1) k a) kf) := by
  obtain ⟨p, l, e, s, m, args, below, meth, c, Q, A, cy, D⟩ := G
  obtain ⟨hx, hb, hml, hown, hts, hTy, hWd, hA, hlk⟩ := C
  obtain ⟨hVk, hVA, hVc⟩ := hV
  have hVA : ∀ a, 1 ≤ a → a ≤ Z.1 → A (ad a) := hVA
  intro d r d' hf hK H locs ls hl hP hS
  obtain ⟨x, d1, h1, h2⟩ := mb_some hf
  obtain ⟨hk, he⟩ := some_if h1
  cases he
  obtain ⟨hz, hr⟩ := ref_st hVk (a := a) (by omega)
  obtain ⟨C', T, N, hcf, hkN, hw⟩ := hF
  rw [List.map_cons, hr]
  exact va_get hx hb hts hcf.2.2.1 hown hTy hP (a - 1) ((wd_at hz.1 hz.2).trans (by rw [wc_obj hk hcf.2.2.2.2.2])) hcf.1 k hkN (hts _ hw) (fun _ h => h) ((fl_get (by rw [hcf.2.1]; exact hkN)).trans (by rw [hty]; rfl)) hd (kk _ d r d' h2 hK H locs ls hl hP hS)
theorem s_getL (C : Cx G R cc nL own) (hV : Vx G R ad Z ck) {idx ci k : Nat} (hF : FL own idx ci k) (hty : ∀ (ad : Nat → Nat) (d : Dm) (a : Nat), fv ad d a k (ctF ci k) = .long (d.2.1 a k)) {a : Nat} {kf : Int64 → MM ρ} (hd : decode cc pc = .ok (.getfield idx, 3)) (kk : ∀ x, Sm G R ad Z ck K (pc + 3) L (.long x :: st) (kf x)) : Sm G R ad Z ck K pc L (.ref a :: st) (mb (gL Z (ci + 1) k a) kf) := by
  obtain ⟨p, l, e, s, m, args, below, meth, c, Q, A, cy, D⟩ := G
  obtain ⟨hx, hb, hml, hown, hts, hTy, hWd, hA, hlk⟩ := C
  obtain ⟨hVk, hVA, hVc⟩ := hV
  have hVA : ∀ a, 1 ≤ a → a ≤ Z.1 → A (ad a) := hVA
  intro d r d' hf hK H locs ls hl hP hS
  obtain ⟨x, d1, h1, h2⟩ := mb_some hf
  obtain ⟨hk, he⟩ := some_if h1
  cases he
  obtain ⟨hz, hr⟩ := ref_st hVk (a := a) (by omega)
  obtain ⟨C', T, N, hcf, hkN, hw⟩ := hF
  rw [List.map_cons, hr]
  exact va_get hx hb hts hcf.2.2.1 hown hTy hP (a - 1) ((wd_at hz.1 hz.2).trans (by rw [wc_obj hk hcf.2.2.2.2.2])) hcf.1 k hkN (hts _ hw) (fun _ h => h) ((fl_get (by rw [hcf.2.1]; exact hkN)).trans (by rw [hty]; rfl)) hd (kk _ d r d' h2 hK H locs ls hl hP hS)
theorem s_getR (C : Cx G R cc nL own) (hV : Vx G R ad Z ck) {idx ci k : Nat} (hF : FL own idx ci k) (hty : ∀ (ad : Nat → Nat) (d : Dm) (a : Nat), fv ad d a k (ctF ci k) = rv ad (d.2.2 a k)) {a : Nat} {kf : Nat → MM ρ} (hd : decode cc pc = .ok (.getfield idx, 3)) (kk : ∀ x, Sm G R ad Z ck K (pc + 3) L (.ref x :: st) (kf x)) : Sm G R ad Z ck K pc L (.ref a :: st) (mb (gR Z (ci + 1) k a) kf) := by
  obtain ⟨p, l, e, s, m, args, below, meth, c, Q, A, cy, D⟩ := G
  obtain ⟨hx, hb, hml, hown, hts, hTy, hWd, hA, hlk⟩ := C
  obtain ⟨hVk, hVA, hVc⟩ := hV
  have hVA : ∀ a, 1 ≤ a → a ≤ Z.1 → A (ad a) := hVA
  intro d r d' hf hK H locs ls hl hP hS
  obtain ⟨x, d1, h1, h2⟩ := mb_some hf
  obtain ⟨hk, he⟩ := some_if h1
  cases he
  obtain ⟨hz, hr⟩ := ref_st hVk (a := a) (by omega)
  obtain ⟨C', T, N, hcf, hkN, hw⟩ := hF
  rw [List.map_cons, hr]
  exact va_get hx hb hts hcf.2.2.1 hown hTy hP (a - 1) ((wd_at hz.1 hz.2).trans (by rw [wc_obj hk hcf.2.2.2.2.2])) hcf.1 k hkN (hts _ hw) (fun _ h => h) ((fl_get (by rw [hcf.2.1]; exact hkN)).trans (by rw [hty]; rfl)) hd (kk _ d r d' h2 hK H locs ls hl hP hS)
theorem s_putI (C : Cx G R cc nL own) (hV : Vx G R ad Z ck) {idx ci k : Nat} (hF : FW own idx ci k) (hty : ctF ci k = .int) {a : Nat} {v : Int32} {kf : Unit → MM ρ} (hd : decode cc pc = .ok (.putfield idx, 3)) (kk : Sm G R ad Z ck K (pc + 3) L st (kf ())) : Sm G R ad Z ck K pc L (.int v :: .ref a :: st) (mb (pI Z (ci + 1) k a v) kf) := by
  obtain ⟨p, l, e, s, m, args, below, meth, c, Q, A, cy, D⟩ := G
  obtain ⟨hx, hb, hml, hown, hts, hTy, hWd, hA, hlk⟩ := C
  obtain ⟨hVk, hVA, hVc⟩ := hV
  have hVA : ∀ a, 1 ≤ a → a ≤ Z.1 → A (ad a) := hVA
  intro d r d' hf hK H locs ls hl hP hS
  obtain ⟨x, d1, h1, h2⟩ := mb_some hf
  obtain ⟨hk, he⟩ := some_if h1
  cases he
  have hk1 : Z.2.1 a = ci + 1 := hk
  obtain ⟨hz, hr⟩ := ref_st hVk (a := a) (by omega)
  obtain ⟨C', T, N, hcf, hkN, hw, hfin⟩ := hF
  rw [List.map_cons, List.map_cons, hr]
  refine va_put (v := .int v) hx hb hts hcf.2.2.1 (ctF ci) hcf.2.2.2.1 hcf.2.2.2.2.1 hown hTy hP (vk_D hVk hVA) hS (a - 1) ((wd_at hz.1 hz.2).trans (by rw [wc_obj hk1 hcf.2.2.2.2.2])) hcf.1 k hkN (hts _ hw) (fun _ h => h) hfin ((hcf.2.2.2.1 k hkN).trans (by rw [hty])) rfl rfl (by rw [fl_len, hcf.2.1]; exact hkN) hd (fun H1 locs1 hP1 _ hS1 => ?_)
  refine kk _ r d' h2 hK H1 locs1 ls hl ?_ hS1
  rw [← wd_set hz.1 (wc_obj hk1 hcf.2.2.2.2.2) (fun b hb2 => wc_congr ?_ ?_ ?_), ← fl_set (d := d) (k := k)]
  · exact hP1
  · rw [hty]; show Value.int (u2 _ a k v a k) = Value.int v; rw [u2_s]
  · intro j hj; unfold fv; simp only [u2_k _ _ _ hj]
  · exact u2_row d.1 hb2 k v
  · rfl
  · rfl
theorem s_putZ (C : Cx G R cc nL own) (hV : Vx G R ad Z ck) {idx ci k : Nat} (hF : FW own idx ci k) (hty : ctF ci k = .boolean) {a : Nat} {v : Int32} {kf : Unit → MM ρ} (hd : decode cc pc = .ok (.putfield idx, 3)) (kk : Sm G R ad Z ck K (pc + 3) L st (kf ())) : Sm G R ad Z ck K pc L (.int v :: .ref a :: st) (mb (pZ Z (ci + 1) k a v) kf) := by
  obtain ⟨p, l, e, s, m, args, below, meth, c, Q, A, cy, D⟩ := G
  obtain ⟨hx, hb, hml, hown, hts, hTy, hWd, hA, hlk⟩ := C
  obtain ⟨hVk, hVA, hVc⟩ := hV
  have hVA : ∀ a, 1 ≤ a → a ≤ Z.1 → A (ad a) := hVA
  intro d r d' hf hK H locs ls hl hP hS
  obtain ⟨x, d1, h1, h2⟩ := mb_some hf
  obtain ⟨hk, he⟩ := some_if h1
  cases he
  have hk1 : Z.2.1 a = ci + 1 := hk.1
  obtain ⟨hz, hr⟩ := ref_st hVk (a := a) (by omega)
  obtain ⟨C', T, N, hcf, hkN, hw, hfin⟩ := hF
  rw [List.map_cons, List.map_cons, hr]
  refine va_put (v := .int v) hx hb hts hcf.2.2.1 (ctF ci) hcf.2.2.2.1 hcf.2.2.2.2.1 hown hTy hP (vk_D hVk hVA) hS (a - 1) ((wd_at hz.1 hz.2).trans (by rw [wc_obj hk1 hcf.2.2.2.2.2])) hcf.1 k hkN (hts _ hw) (fun _ h => h) hfin ((hcf.2.2.2.1 k hkN).trans (by rw [hty])) (by rcases hk.2 with e | e <;> rw [e] <;> rfl) (by rcases hk.2 with e | e <;> rw [e] <;> rfl) (by rw [fl_len, hcf.2.1]; exact hkN) hd (fun H1 locs1 hP1 _ hS1 => ?_)
  refine kk _ r d' h2 hK H1 locs1 ls hl ?_ hS1
  rw [← wd_set hz.1 (wc_obj hk1 hcf.2.2.2.2.2) (fun b hb2 => wc_congr ?_ ?_ ?_), ← fl_set (d := d) (k := k)]
  · exact hP1
  · rw [hty]; show Value.int (u2 _ a k v a k) = Value.int v; rw [u2_s]
  · intro j hj; unfold fv; simp only [u2_k _ _ _ hj]
  · exact u2_row d.1 hb2 k v
  · rfl
  · rfl
theorem s_putC (C : Cx G R cc nL own) (hV : Vx G R ad Z ck) {idx ci k : Nat} (hF : FW own idx ci k) (hty : ctF ci k = .char) {a : Nat} {v : Int32} {kf : Unit → MM ρ} (hd : decode cc pc = .ok (.putfield idx, 3)) (kk : Sm G R ad Z ck K (pc + 3) L st (kf ())) : Sm G R ad Z ck K pc L (.int v :: .ref a :: st) (mb (pC Z (ci + 1) k a v) kf) := by
  obtain ⟨p, l, e, s, m, args, below, meth, c, Q, A, cy, D⟩ := G
  obtain ⟨hx, hb, hml, hown, hts, hTy, hWd, hA, hlk⟩ := C
  obtain ⟨hVk, hVA, hVc⟩ := hV
  have hVA : ∀ a, 1 ≤ a → a ≤ Z.1 → A (ad a) := hVA
  intro d r d' hf hK H locs ls hl hP hS
  obtain ⟨x, d1, h1, h2⟩ := mb_some hf
  obtain ⟨hk, he⟩ := some_if h1
  cases he
  have hk1 : Z.2.1 a = ci + 1 := hk.1
  obtain ⟨hz, hr⟩ := ref_st hVk (a := a) (by omega)
  obtain ⟨C', T, N, hcf, hkN, hw, hfin⟩ := hF
  rw [List.map_cons, List.map_cons, hr]
  refine va_put (v := .int v) hx hb hts hcf.2.2.1 (ctF ci) hcf.2.2.2.1 hcf.2.2.2.2.1 hown hTy hP (vk_D hVk hVA) hS (a - 1) ((wd_at hz.1 hz.2).trans (by rw [wc_obj hk1 hcf.2.2.2.2.2])) hcf.1 k hkN (hts _ hw) (fun _ h => h) hfin ((hcf.2.2.2.1 k hkN).trans (by rw [hty])) (chr_nar hk.2) (by simp [fits, hk.2.1, hk.2.2]) (by rw [fl_len, hcf.2.1]; exact hkN) hd (fun H1 locs1 hP1 _ hS1 => ?_)
  refine kk _ r d' h2 hK H1 locs1 ls hl ?_ hS1
  rw [← wd_set hz.1 (wc_obj hk1 hcf.2.2.2.2.2) (fun b hb2 => wc_congr ?_ ?_ ?_), ← fl_set (d := d) (k := k)]
  · exact hP1
  · rw [hty]; show Value.int (u2 _ a k v a k) = Value.int v; rw [u2_s]
  · intro j hj; unfold fv; simp only [u2_k _ _ _ hj]
  · exact u2_row d.1 hb2 k v
  · rfl
  · rfl
theorem s_putL (C : Cx G R cc nL own) (hV : Vx G R ad Z ck) {idx ci k : Nat} (hF : FW own idx ci k) (hty : ctF ci k = .long) {a : Nat} {v : Int64} {kf : Unit → MM ρ} (hd : decode cc pc = .ok (.putfield idx, 3)) (kk : Sm G R ad Z ck K (pc + 3) L st (kf ())) : Sm G R ad Z ck K pc L (.long v :: .ref a :: st) (mb (pL Z (ci + 1) k a v) kf) := by
  obtain ⟨p, l, e, s, m, args, below, meth, c, Q, A, cy, D⟩ := G
  obtain ⟨hx, hb, hml, hown, hts, hTy, hWd, hA, hlk⟩ := C
  obtain ⟨hVk, hVA, hVc⟩ := hV
  have hVA : ∀ a, 1 ≤ a → a ≤ Z.1 → A (ad a) := hVA
  intro d r d' hf hK H locs ls hl hP hS
  obtain ⟨x, d1, h1, h2⟩ := mb_some hf
  obtain ⟨hk, he⟩ := some_if h1
  cases he
  have hk1 : Z.2.1 a = ci + 1 := hk
  obtain ⟨hz, hr⟩ := ref_st hVk (a := a) (by omega)
  obtain ⟨C', T, N, hcf, hkN, hw, hfin⟩ := hF
  rw [List.map_cons, List.map_cons, hr]
  refine va_put (v := .long v) hx hb hts hcf.2.2.1 (ctF ci) hcf.2.2.2.1 hcf.2.2.2.2.1 hown hTy hP (vk_D hVk hVA) hS (a - 1) ((wd_at hz.1 hz.2).trans (by rw [wc_obj hk1 hcf.2.2.2.2.2])) hcf.1 k hkN (hts _ hw) (fun _ h => h) hfin ((hcf.2.2.2.1 k hkN).trans (by rw [hty])) rfl rfl (by rw [fl_len, hcf.2.1]; exact hkN) hd (fun H1 locs1 hP1 _ hS1 => ?_)
  refine kk _ r d' h2 hK H1 locs1 ls hl ?_ hS1
  rw [← wd_set hz.1 (wc_obj hk1 hcf.2.2.2.2.2) (fun b hb2 => wc_congr ?_ ?_ ?_), ← fl_set (d := d) (k := k)]
  · exact hP1
  · rw [hty]; show Value.long (u2 _ a k v a k) = Value.long v; rw [u2_s]
  · intro j hj; unfold fv; simp only [u2_k _ _ _ hj]
  · rfl
  · exact u2_row d.2.1 hb2 k v
  · rfl
theorem s_iaload (C : Cx G R cc nL own) (hV : Vx G R ad Z ck) {a : Nat} {i : Int32} {kf : Int32 → MM ρ} (hd : decode cc pc = .ok (.iaload, 1)) (kk : ∀ x, Sm G R ad Z ck K (pc + 1) L (.int x :: st) (kf x)) : Sm G R ad Z ck K pc L (.int i :: .ref a :: st) (mb (aI Z 23 a i) kf) := by
  obtain ⟨p, l, e, s, m, args, below, meth, c, Q, A, cy, D⟩ := G
  obtain ⟨hx, hb, hml, hown, hts, hTy, hWd, hA, hlk⟩ := C
  obtain ⟨hVk, hVA, hVc⟩ := hV
  have hVA : ∀ a, 1 ≤ a → a ≤ Z.1 → A (ad a) := hVA
  intro d r d' hf hK H locs ls hl hP hS
  obtain ⟨x, d1, h1, h2⟩ := mb_some hf
  obtain ⟨hk, he⟩ := some_if h1
  cases he
  obtain ⟨hz, hr⟩ := ref_st hVk (a := a) (by omega)
  rw [List.map_cons, List.map_cons, hr]
  exact va_iald hx hb hTy hP (a - 1) 2 ((wd_at hz.1 hz.2).trans (by rw [wc_int hk.1 (by omega)])) rfl (ib_in hk.2) hd (kk _ d r d' h2 hK H locs ls hl hP hS)
theorem s_baload (C : Cx G R cc nL own) (hV : Vx G R ad Z ck) {a : Nat} {i : Int32} {kf : Int32 → MM ρ} (hd : decode cc pc = .ok (.baload, 1)) (kk : ∀ x, Sm G R ad Z ck K (pc + 1) L (.int x :: st) (kf x)) : Sm G R ad Z ck K pc L (.int i :: .ref a :: st) (mb (aI Z 21 a i) kf) := by
  obtain ⟨p, l, e, s, m, args, below, meth, c, Q, A, cy, D⟩ := G
  obtain ⟨hx, hb, hml, hown, hts, hTy, hWd, hA, hlk⟩ := C
  obtain ⟨hVk, hVA, hVc⟩ := hV
  have hVA : ∀ a, 1 ≤ a → a ≤ Z.1 → A (ad a) := hVA
  intro d r d' hf hK H locs ls hl hP hS
  obtain ⟨x, d1, h1, h2⟩ := mb_some hf
  obtain ⟨hk, he⟩ := some_if h1
  cases he
  obtain ⟨hz, hr⟩ := ref_st hVk (a := a) (by omega)
  rw [List.map_cons, List.map_cons, hr]
  exact va_bald hx hb hTy hP (a - 1) 0 ((wd_at hz.1 hz.2).trans (by rw [wc_int hk.1 (by omega)])) rfl (ib_in hk.2) hd (kk _ d r d' h2 hK H locs ls hl hP hS)
theorem s_caload (C : Cx G R cc nL own) (hV : Vx G R ad Z ck) {a : Nat} {i : Int32} {kf : Int32 → MM ρ} (hd : decode cc pc = .ok (.caload, 1)) (kk : ∀ x, Sm G R ad Z ck K (pc + 1) L (.int x :: st) (kf x)) : Sm G R ad Z ck K pc L (.int i :: .ref a :: st) (mb (aI Z 22 a i) kf) := by
  obtain ⟨p, l, e, s, m, args, below, meth, c, Q, A, cy, D⟩ := G
  obtain ⟨hx, hb, hml, hown, hts, hTy, hWd, hA, hlk⟩ := C
  obtain ⟨hVk, hVA, hVc⟩ := hV
  have hVA : ∀ a, 1 ≤ a → a ≤ Z.1 → A (ad a) := hVA
  intro d r d' hf hK H locs ls hl hP hS
  obtain ⟨x, d1, h1, h2⟩ := mb_some hf
  obtain ⟨hk, he⟩ := some_if h1
  cases he
  obtain ⟨hz, hr⟩ := ref_st hVk (a := a) (by omega)
  rw [List.map_cons, List.map_cons, hr]
  exact va_cald hx hb hTy hP (a - 1) 1 ((wd_at hz.1 hz.2).trans (by rw [wc_int hk.1 (by omega)])) rfl (ib_in hk.2) hd (kk _ d r d' h2 hK H locs ls hl hP hS)
theorem s_zaload (C : Cx G R cc nL own) (hV : Vx G R ad Z ck) {a : Nat} {i : Int32} {kf : Int32 → MM ρ} (hd : decode cc pc = .ok (.baload, 1)) (kk : ∀ x, Sm G R ad Z ck K (pc + 1) L (.int x :: st) (kf x)) : Sm G R ad Z ck K pc L (.int i :: .ref a :: st) (mb (aI Z 25 a i) kf) := by
  obtain ⟨p, l, e, s, m, args, below, meth, c, Q, A, cy, D⟩ := G
  obtain ⟨hx, hb, hml, hown, hts, hTy, hWd, hA, hlk⟩ := C
  obtain ⟨hVk, hVA, hVc⟩ := hV
  have hVA : ∀ a, 1 ≤ a → a ≤ Z.1 → A (ad a) := hVA
  intro d r d' hf hK H locs ls hl hP hS
  obtain ⟨x, d1, h1, h2⟩ := mb_some hf
  obtain ⟨hk, he⟩ := some_if h1
  cases he
  obtain ⟨hz, hr⟩ := ref_st hVk (a := a) (by omega)
  rw [List.map_cons, List.map_cons, hr]
  exact va_zald hx hb hTy hP (a - 1) 4 ((wd_at hz.1 hz.2).trans (by rw [wc_int hk.1 (by omega)])) rfl (ib_in hk.2) hd (kk _ d r d' h2 hK H locs ls hl hP hS)
theorem s_laload (C : Cx G R cc nL own) (hV : Vx G R ad Z ck) {a : Nat} {i : Int32} {kf : Int64 → MM ρ} (hd : decode cc pc = .ok (.laload, 1)) (kk : ∀ x, Sm G R ad Z ck K (pc + 1) L (.long x :: st) (kf x)) : Sm G R ad Z ck K pc L (.int i :: .ref a :: st) (mb (aL Z a i) kf) := by
  obtain ⟨p, l, e, s, m, args, below, meth, c, Q, A, cy, D⟩ := G
  obtain ⟨hx, hb, hml, hown, hts, hTy, hWd, hA, hlk⟩ := C
  obtain ⟨hVk, hVA, hVc⟩ := hV
  have hVA : ∀ a, 1 ≤ a → a ≤ Z.1 → A (ad a) := hVA
  intro d r d' hf hK H locs ls hl hP hS
  obtain ⟨x, d1, h1, h2⟩ := mb_some hf
  obtain ⟨hk, he⟩ := some_if h1
  cases he
  obtain ⟨hz, hr⟩ := ref_st hVk (a := a) (by omega)
  rw [List.map_cons, List.map_cons, hr]
  exact va_lald hx hb hTy hP (a - 1) 3 ((wd_at hz.1 hz.2).trans (by rw [wc_long hk.1])) rfl (ib_in hk.2) hd (kk _ d r d' h2 hK H locs ls hl hP hS)
theorem s_aaloadA (C : Cx G R cc nL own) (hV : Vx G R ad Z ck) {a : Nat} {i : Int32} {kf : Nat → MM ρ} (hd : decode cc pc = .ok (.aaload, 1)) (kk : ∀ x, Sm G R ad Z ck K (pc + 1) L (.ref x :: st) (kf x)) : Sm G R ad Z ck K pc L (.int i :: .ref a :: st) (mb (aR Z 26 a i) kf) := by
  obtain ⟨p, l, e, s, m, args, below, meth, c, Q, A, cy, D⟩ := G
  obtain ⟨hx, hb, hml, hown, hts, hTy, hWd, hA, hlk⟩ := C
  obtain ⟨hVk, hVA, hVc⟩ := hV
  have hVA : ∀ a, 1 ≤ a → a ≤ Z.1 → A (ad a) := hVA
  intro d r d' hf hK H locs ls hl hP hS
  obtain ⟨x, d1, h1, h2⟩ := mb_some hf
  obtain ⟨hk, he⟩ := some_if h1
  cases he
  obtain ⟨hz, hr⟩ := ref_st hVk (a := a) (by omega)
  rw [List.map_cons, List.map_cons, hr]
  exact va_aldq (f := fun k => ro ad (d.2.2 a k)) hx hb hTy hP (a - 1) 5 ((wd_at hz.1 hz.2).trans (by rw [wc_ref hk.1 (by omega)])) rfl (ib_in hk.2) hd (kk _ d r d' h2 hK H locs ls hl hP hS)
theorem s_aaloadT (C : Cx G R cc nL own) (hV : Vx G R ad Z ck) {a : Nat} {i : Int32} {kf : Nat → MM ρ} (hd : decode cc pc = .ok (.aaload, 1)) (kk : ∀ x, Sm G R ad Z ck K (pc + 1) L (.ref x :: st) (kf x)) : Sm G R ad Z ck K pc L (.int i :: .ref a :: st) (mb (aR Z 27 a i) kf) := by
  obtain ⟨p, l, e, s, m, args, below, meth, c, Q, A, cy, D⟩ := G
  obtain ⟨hx, hb, hml, hown, hts, hTy, hWd, hA, hlk⟩ := C
  obtain ⟨hVk, hVA, hVc⟩ := hV
  have hVA : ∀ a, 1 ≤ a → a ≤ Z.1 → A (ad a) := hVA
  intro d r d' hf hK H locs ls hl hP hS
  obtain ⟨x, d1, h1, h2⟩ := mb_some hf
  obtain ⟨hk, he⟩ := some_if h1
  cases he
  obtain ⟨hz, hr⟩ := ref_st hVk (a := a) (by omega)
  rw [List.map_cons, List.map_cons, hr]
  exact va_aldq (f := fun k => ro ad (d.2.2 a k)) hx hb hTy hP (a - 1) 6 ((wd_at hz.1 hz.2).trans (by rw [wc_ref hk.1 (by omega)])) rfl (ib_in hk.2) hd (kk _ d r d' h2 hK H locs ls hl hP hS)
theorem up_u2 (f : Nat → Nat → Int32) (a k : Nat) (x : Int32) : u2 f a k x a = upd (f a) k x := funext fun j => by
  by_cases h : j = k
  · subst h; rw [u2_s, pk_us]
  · rw [u2_k _ _ _ h, pk_un h]
theorem up_u2L (f : Nat → Nat → Int64) (a k : Nat) (x : Int64) : u2 f a k x a = vp_updL (f a) k x := funext fun j => by
  by_cases h : j = k
  · subst h; rw [u2_s, pk_uLs]
  · rw [u2_k _ _ _ h, pk_uLn h]
theorem nar_z {x : Int32} (h : x = 0 ∨ x = 1) : vp_nar .boolean x = x := by rcases h with e | e <;> rw [e] <;> rfl
theorem s_iastore (C : Cx G R cc nL own) (hV : Vx G R ad Z ck) {a : Nat} {i v : Int32} {kf : Unit → MM ρ} (hd : decode cc pc = .ok (.iastore, 1)) (kk : Sm G R ad Z ck K (pc + 1) L st (kf ())) : Sm G R ad Z ck K pc L (.int v :: .int i :: .ref a :: st) (mb (sI Z a i v) kf) := by
  obtain ⟨p, l, e, s, m, args, below, meth, c, Q, A, cy, D⟩ := G
  obtain ⟨hx, hb, hml, hown, hts, hTy, hWd, hA, hlk⟩ := C
  obtain ⟨hVk, hVA, hVc⟩ := hV
  have hVA : ∀ a, 1 ≤ a → a ≤ Z.1 → A (ad a) := hVA
  intro d r d' hf hK H locs ls hl hP hS
  obtain ⟨x, d1, h1, h2⟩ := mb_some hf
  obtain ⟨hk, he⟩ := some_if h1
  cases he
  have hk1 : Z.2.1 a = 23 ∧ ib i (Z.2.2 a) := hk
  obtain ⟨hz, hr⟩ := ref_st hVk (a := a) (by omega)
  rw [List.map_cons, List.map_cons, List.map_cons, hr]
  refine va_iast hx hb hTy hP (vk_D hVk hVA) hS (a - 1) 2 ((wd_at hz.1 hz.2).trans (by rw [wc_int hk1.1 (by omega)])) rfl (ib_in hk1.2) hd (fun H1 locs1 hP1 _ hS1 => ?_)
  refine kk _ r d' h2 hK H1 locs1 ls hl ?_ hS1
  rw [← wd_set (d := d) (d' := (u2 d.1 a i.toNatClampNeg v, d.2)) hz.1 (wc_int hk1.1 (by omega)) (fun b hb2 => wc_congr (u2_row d.1 hb2 _ _) rfl rfl)]
  dsimp only
  rw [up_u2]
  exact hP1
theorem s_bastore (C : Cx G R cc nL own) (hV : Vx G R ad Z ck) {a : Nat} {i v : Int32} {kf : Unit → MM ρ} (hd : decode cc pc = .ok (.bastore, 1)) (kk : Sm G R ad Z ck K (pc + 1) L st (kf ())) : Sm G R ad Z ck K pc L (.int v :: .int i :: .ref a :: st) (mb (sB Z a i v) kf) := by
  obtain ⟨p, l, e, s, m, args, below, meth, c, Q, A, cy, D⟩ := G
  obtain ⟨hx, hb, hml, hown, hts, hTy, hWd, hA, hlk⟩ := C
  obtain ⟨hVk, hVA, hVc⟩ := hV
  have hVA : ∀ a, 1 ≤ a → a ≤ Z.1 → A (ad a) := hVA
  intro d r d' hf hK H locs ls hl hP hS
  obtain ⟨x, d1, h1, h2⟩ := mb_some hf
  obtain ⟨hk, he⟩ := some_if h1
  cases he
  have hk1 : Z.2.1 a = 21 ∧ ib i (Z.2.2 a) := hk
  obtain ⟨hz, hr⟩ := ref_st hVk (a := a) (by omega)
  rw [List.map_cons, List.map_cons, List.map_cons, hr]
  refine va_bast hx hb hTy hP (vk_D hVk hVA) hS (a - 1) 0 ((wd_at hz.1 hz.2).trans (by rw [wc_int hk1.1 (by omega)])) rfl (ib_in hk1.2) hd (fun H1 locs1 hP1 _ hS1 => ?_)
  rw [vp_nar_byte] at hP1
  refine kk _ r d' h2 hK H1 locs1 ls hl ?_ hS1
  rw [← wd_set (d := d) (d' := (u2 d.1 a i.toNatClampNeg v.toInt8.toInt32, d.2)) hz.1 (wc_int hk1.1 (by omega)) (fun b hb2 => wc_congr (u2_row d.1 hb2 _ _) rfl rfl)]
  dsimp only
  rw [up_u2]
  exact hP1
theorem s_castore (C : Cx G R cc nL own) (hV : Vx G R ad Z ck) {a : Nat} {i v : Int32} {kf : Unit → MM ρ} (hd : decode cc pc = .ok (.castore, 1)) (kk : Sm G R ad Z ck K (pc + 1) L st (kf ())) : Sm G R ad Z ck K pc L (.int v :: .int i :: .ref a :: st) (mb (sC Z a i v) kf) := by
  obtain ⟨p, l, e, s, m, args, below, meth, c, Q, A, cy, D⟩ := G
  obtain ⟨hx, hb, hml, hown, hts, hTy, hWd, hA, hlk⟩ := C
  obtain ⟨hVk, hVA, hVc⟩ := hV
  have hVA : ∀ a, 1 ≤ a → a ≤ Z.1 → A (ad a) := hVA
  intro d r d' hf hK H locs ls hl hP hS
  obtain ⟨x, d1, h1, h2⟩ := mb_some hf
  obtain ⟨hk, he⟩ := some_if h1
  cases he
  have hk1 : Z.2.1 a = 22 ∧ ib i (Z.2.2 a) := hk
  obtain ⟨hz, hr⟩ := ref_st hVk (a := a) (by omega)
  rw [List.map_cons, List.map_cons, List.map_cons, hr]
  refine va_cast hx hb hTy hP (vk_D hVk hVA) hS (a - 1) 1 ((wd_at hz.1 hz.2).trans (by rw [wc_int hk1.1 (by omega)])) rfl (ib_in hk1.2) hd (fun H1 locs1 hP1 _ hS1 => ?_)
  rw [vp_nar_char] at hP1
  refine kk _ r d' h2 hK H1 locs1 ls hl ?_ hS1
  rw [← wd_set (d := d) (d' := (u2 d.1 a i.toNatClampNeg v.toUInt32.toUInt16.toUInt32.toInt32, d.2)) hz.1 (wc_int hk1.1 (by omega)) (fun b hb2 => wc_congr (u2_row d.1 hb2 _ _) rfl rfl)]
  dsimp only
  rw [up_u2]
  exact hP1
theorem s_zastore (C : Cx G R cc nL own) (hV : Vx G R ad Z ck) {a : Nat} {i v : Int32} {kf : Unit → MM ρ} (hd : decode cc pc = .ok (.bastore, 1)) (kk : Sm G R ad Z ck K (pc + 1) L st (kf ())) : Sm G R ad Z ck K pc L (.int v :: .int i :: .ref a :: st) (mb (sZ Z a i v) kf) := by
  obtain ⟨p, l, e, s, m, args, below, meth, c, Q, A, cy, D⟩ := G
  obtain ⟨hx, hb, hml, hown, hts, hTy, hWd, hA, hlk⟩ := C
  obtain ⟨hVk, hVA, hVc⟩ := hV
  have hVA : ∀ a, 1 ≤ a → a ≤ Z.1 → A (ad a) := hVA
  intro d r d' hf hK H locs ls hl hP hS
  obtain ⟨x, d1, h1, h2⟩ := mb_some hf
  obtain ⟨hk, he⟩ := some_if h1
  cases he
  have hk1 : Z.2.1 a = 25 ∧ ib i (Z.2.2 a) := hk.1
  obtain ⟨hz, hr⟩ := ref_st hVk (a := a) (by omega)
  rw [List.map_cons, List.map_cons, List.map_cons, hr]
  refine va_zast hx hb hTy hP (vk_D hVk hVA) hS (a - 1) 4 ((wd_at hz.1 hz.2).trans (by rw [wc_int hk1.1 (by omega)])) rfl (ib_in hk1.2) hd (fun H1 locs1 hP1 _ hS1 => ?_)
  rw [nar_z hk.2] at hP1
  refine kk _ r d' h2 hK H1 locs1 ls hl ?_ hS1
  rw [← wd_set (d := d) (d' := (u2 d.1 a i.toNatClampNeg v, d.2)) hz.1 (wc_int hk1.1 (by omega)) (fun b hb2 => wc_congr (u2_row d.1 hb2 _ _) rfl rfl)]
  dsimp only
  rw [up_u2]
  exact hP1
theorem s_lastore (C : Cx G R cc nL own) (hV : Vx G R ad Z ck) {a : Nat} {i : Int32} {v : Int64} {kf : Unit → MM ρ} (hd : decode cc pc = .ok (.lastore, 1)) (kk : Sm G R ad Z ck K (pc + 1) L st (kf ())) : Sm G R ad Z ck K pc L (.long v :: .int i :: .ref a :: st) (mb (sL Z a i v) kf) := by
  obtain ⟨p, l, e, s, m, args, below, meth, c, Q, A, cy, D⟩ := G
  obtain ⟨hx, hb, hml, hown, hts, hTy, hWd, hA, hlk⟩ := C
  obtain ⟨hVk, hVA, hVc⟩ := hV
  have hVA : ∀ a, 1 ≤ a → a ≤ Z.1 → A (ad a) := hVA
  intro d r d' hf hK H locs ls hl hP hS
  obtain ⟨x, d1, h1, h2⟩ := mb_some hf
  obtain ⟨hk, he⟩ := some_if h1
  cases he
  obtain ⟨hz, hr⟩ := ref_st hVk (a := a) (by omega)
  rw [List.map_cons, List.map_cons, List.map_cons, hr]
  refine va_last hx hb hTy hP (vk_D hVk hVA) hS (a - 1) 3 ((wd_at hz.1 hz.2).trans (by rw [wc_long hk.1])) rfl (ib_in hk.2) hd (fun H1 locs1 hP1 _ hS1 => ?_)
  refine kk _ r d' h2 hK H1 locs1 ls hl ?_ hS1
  rw [← wd_set (d := d) (d' := (d.1, u2 d.2.1 a i.toNatClampNeg v, d.2.2)) hz.1 (wc_long hk.1) (fun b hb2 => wc_congr rfl (u2_row d.2.1 hb2 _ _) rfl)]
  dsimp only
  rw [up_u2L]
  exact hP1
theorem s_aastoreA (C : Cx G R cc nL own) (hV : Vx G R ad Z ck) {a v : Nat} {i : Int32} {kf : Unit → MM ρ} (hd : decode cc pc = .ok (.aastore, 1)) (kk : Sm G R ad Z ck K (pc + 1) L st (kf ())) : Sm G R ad Z ck K pc L (.ref v :: .int i :: .ref a :: st) (mb (sR Z 26 1 a i v) kf) := by
  obtain ⟨p, l, e, s, m, args, below, meth, c, Q, A, cy, D⟩ := G
  obtain ⟨hx, hb, hml, hown, hts, hTy, hWd, hA, hlk⟩ := C
  obtain ⟨hVk, hVA, hVc⟩ := hV
  have hVA : ∀ a, 1 ≤ a → a ≤ Z.1 → A (ad a) := hVA
  intro d r d' hf hK H locs ls hl hP hS
  obtain ⟨x, d1, h1, h2⟩ := mb_some hf
  obtain ⟨hk, he⟩ := some_if h1
  cases he
  obtain ⟨hz, hr⟩ := ref_st hVk (a := a) (by omega)
  obtain ⟨hzv, hrv⟩ := ref_st hVk (a := v) (by omega)
  rw [List.map_cons, List.map_cons, List.map_cons, hr, hrv]
  refine va_astq hx hb hTy hP (vk_D hVk hVA) hS (a - 1) 5 (v - 1) 0 ((wd_at hz.1 hz.2).trans (by rw [wc_ref hk.1.1 (by omega)])) (r := (RX0, TX0, cnF 0)) rfl ((wd_at hzv.1 hzv.2).trans (by rw [wc_obj (ci := 0) hk.2 (by omega)])) rfl (ib_in hk.1.2) hd (fun H1 locs1 hP1 _ hS1 => ?_)
  refine kk _ r d' h2 hK H1 locs1 ls hl ?_ hS1
  rw [← wd_set (d := d) (d' := (d.1, d.2.1, u2 d.2.2 a i.toNatClampNeg v)) hz.1 (wc_ref hk.1.1 (by omega)) (fun b hb2 => wc_congr rfl rfl (u2_row d.2.2 hb2 _ _))]
  have e : (fun k => ro ad (u2 d.2.2 a i.toNatClampNeg v a k)) = va_up (fun k => ro ad (d.2.2 a k)) i.toNatClampNeg (some (ad v)) := funext fun j => by
    by_cases h : j = i.toNatClampNeg
    · subst h; rw [u2_s]; simp [va_up, ro, show v ≠ 0 by omega]
    · rw [u2_k _ _ _ h]; simp [va_up, h]
  show va_P D vwCl ((wd cy ad Z d).set (a - 1) (ad a, .inl (cy 26, Z.2.2 a, .inr (.inr (.inr (.inr (fun k => ro ad (u2 d.2.2 a i.toNatClampNeg v a k)))))))) H1
  rw [e]
  exact hP1
theorem s_aastoreT (C : Cx G R cc nL own) (hV : Vx G R ad Z ck) {a v : Nat} {i : Int32} {kf : Unit → MM ρ} (hd : decode cc pc = .ok (.aastore, 1)) (kk : Sm G R ad Z ck K (pc + 1) L st (kf ())) : Sm G R ad Z ck K pc L (.ref v :: .int i :: .ref a :: st) (mb (sR Z 27 9 a i v) kf) := by
  obtain ⟨p, l, e, s, m, args, below, meth, c, Q, A, cy, D⟩ := G
  obtain ⟨hx, hb, hml, hown, hts, hTy, hWd, hA, hlk⟩ := C
  obtain ⟨hVk, hVA, hVc⟩ := hV
  have hVA : ∀ a, 1 ≤ a → a ≤ Z.1 → A (ad a) := hVA
  intro d r d' hf hK H locs ls hl hP hS
  obtain ⟨x, d1, h1, h2⟩ := mb_some hf
  obtain ⟨hk, he⟩ := some_if h1
  cases he
  obtain ⟨hz, hr⟩ := ref_st hVk (a := a) (by omega)
  obtain ⟨hzv, hrv⟩ := ref_st hVk (a := v) (by omega)
  rw [List.map_cons, List.map_cons, List.map_cons, hr, hrv]
  refine va_astq hx hb hTy hP (vk_D hVk hVA) hS (a - 1) 6 (v - 1) 8 ((wd_at hz.1 hz.2).trans (by rw [wc_ref hk.1.1 (by omega)])) (r := (RX8, TX8, cnF 8)) rfl ((wd_at hzv.1 hzv.2).trans (by rw [wc_obj (ci := 8) hk.2 (by omega)])) rfl (ib_in hk.1.2) hd (fun H1 locs1 hP1 _ hS1 => ?_)
  refine kk _ r d' h2 hK H1 locs1 ls hl ?_ hS1
  rw [← wd_set (d := d) (d' := (d.1, d.2.1, u2 d.2.2 a i.toNatClampNeg v)) hz.1 (wc_ref hk.1.1 (by omega)) (fun b hb2 => wc_congr rfl rfl (u2_row d.2.2 hb2 _ _))]
  have e : (fun k => ro ad (u2 d.2.2 a i.toNatClampNeg v a k)) = va_up (fun k => ro ad (d.2.2 a k)) i.toNatClampNeg (some (ad v)) := funext fun j => by
    by_cases h : j = i.toNatClampNeg
    · subst h; rw [u2_s]; simp [va_up, ro, show v ≠ 0 by omega]
    · rw [u2_k _ _ _ h]; simp [va_up, h]
  show va_P D vwCl ((wd cy ad Z d).set (a - 1) (ad a, .inl (cy 27, Z.2.2 a, .inr (.inr (.inr (.inr (fun k => ro ad (u2 d.2.2 a i.toNatClampNeg v a k)))))))) H1
  rw [e]
  exact hP1
theorem s_alenI (C : Cx G R cc nL own) (hV : Vx G R ad Z ck) {a : Nat} {kf : Int32 → MM ρ} (hd : decode cc pc = .ok (.arraylength, 1)) (kk : ∀ x, Sm G R ad Z ck K (pc + 1) L (.int x :: st) (kf x)) : Sm G R ad Z ck K pc L (.ref a :: st) (mb (al Z 23 a) kf) := by
  obtain ⟨p, l, e, s, m, args, below, meth, c, Q, A, cy, D⟩ := G
  obtain ⟨hx, hb, hml, hown, hts, hTy, hWd, hA, hlk⟩ := C
  obtain ⟨hVk, hVA, hVc⟩ := hV
  have hVA : ∀ a, 1 ≤ a → a ≤ Z.1 → A (ad a) := hVA
  intro d r d' hf hK H locs ls hl hP hS
  obtain ⟨x, d1, h1, h2⟩ := mb_some hf
  obtain ⟨hk, he⟩ := some_if h1
  cases he
  obtain ⟨hz, hr⟩ := ref_st hVk (a := a) (by omega)
  rw [List.map_cons, hr]
  exact va_alen (x := (Z.2.2 a, .inl (d.1 a))) hx hb hTy hP (a - 1) 2 ((wd_at hz.1 hz.2).trans (by rw [wc_int hk (by omega)])) rfl rfl hd (kk _ d r d' h2 hK H locs ls hl hP hS)
theorem s_acopy (C : Cx G R cc nL own) (hV : Vx G R ad Z ck) {idx : Nat} (hw : Cond.methodLink own idx arraycopyName ∈ TT) (hw2 : Cond.native arraycopyName ∈ TT) (hw3 : Cond.static arraycopyName ∈ TT) (hw4 : Cond.initialized "java/lang/System" ∈ TT) (hR : 1 ≤ R.frames ∧ (st.map fun v => v.category).sum + (nativeFrameWords "java/lang/System" "arraycopy" 5 + 11) ≤ R.locals) {a b : Nat} {i j n : Int32} {kf : Unit → MM ρ} (hd : decode cc pc = .ok (.invokestatic idx, 3)) (kk : Sm G R ad Z ck K (pc + 3) L st (kf ())) : Sm G R ad Z ck K pc L (.int n :: .int j :: .ref b :: .int i :: .ref a :: st) (mb (ac Z a i b j n) kf) := by
  obtain ⟨p, l, e, s, m, args, below, meth, c, Q, A, cy, D⟩ := G
  obtain ⟨hx, hb, hml, hown, hts, hTy, hWd, hA, hlk⟩ := C
  obtain ⟨hVk, hVA, hVc⟩ := hV
  have hVA : ∀ a, 1 ≤ a → a ≤ Z.1 → A (ad a) := hVA
  intro d r d' hf hK H locs ls hl hP hS
  obtain ⟨x, d1, h1, h2⟩ := mb_some hf
  obtain ⟨⟨⟨ka, kb⟩, ⟨hi0, hj0, hn0⟩, hia, hjb, hab⟩, he⟩ := some_if h1
  cases he
  obtain ⟨hz, hr⟩ := ref_st hVk (a := a) (by omega)
  obtain ⟨hzb, hrb⟩ := ref_st hVk (a := b) (by omega)
  simp only [List.map_cons]
  rw [hr, hrb]
  refine va_copyi (ty := .int) hx hb hl.1.symm hown (hts _ hw) (hts _ hw2) (hts _ hw3) (hts _ hw4) hTy hP (vk_D hVk hVA) hS (a - 1) (b - 1) 2 2 ((wd_at hz.1 hz.2).trans (by rw [wc_int ka (by omega)])) ((wd_at hzb.1 hzb.2).trans (by rw [wc_int kb (by omega)])) rfl rfl rfl (Int32.not_lt.mpr hi0) (Int32.not_lt.mpr hj0) (Int32.not_lt.mpr hn0) hia hjb (fun _ _ => rfl) hR.1 ?_ hd (fun H1 locs1 hP1 _ hS1 => ?_)
  · refine Nat.le_trans (Nat.le_of_eq ?_) hR.2
    congr 1
    rw [List.map_map]
    congr 1
    exact List.map_congr_left (fun v _ => cv_cat ad v)
  refine kk _ r d' h2 hK H1 locs1 ls hl ?_ hS1
  rw [← wd_set (d := d) (d' := (cpF d.1 a b i.toNatClampNeg j.toNatClampNeg n.toNatClampNeg, d.2)) hzb.1 (wc_int kb (by omega)) (fun x hx2 => wc_congr (funext fun y => if_neg fun q => hx2 q.1) rfl rfl)]
  have e : cpF d.1 a b i.toNatClampNeg j.toNatClampNeg n.toNatClampNeg b = va_cpy (d.1 a) (d.1 b) i.toNatClampNeg j.toNatClampNeg n.toNatClampNeg := funext fun y => by simp [cpF, va_cpy]
  show va_P D vwCl ((wd cy ad Z d).set (b - 1) (ad b, .inl (cy 23, Z.2.2 b, .inl (cpF d.1 a b i.toNatClampNeg j.toNatClampNeg n.toNatClampNeg b)))) H1
  rw [e]
  exact hP1
end
end
section
/-! ===== contracts, calls, returns ===== -/
def PW (D : va_G) (cy : Nat → ClassId) (ad : Nat → Nat) (Z : Zt) (d : Dm) (sz : Nat) (U : State) : Prop := U.heap.size = sz ∧ va_P D vwCl (wd cy ad Z d) U.heap ∧ va_K D vwCl (tysF cy) U ∧ Wd U
theorem pw_blind {D : va_G} {cy : Nat → ClassId} {ad : Nat → Nat} {Z : Zt} {d : Dm} {sz : Nat} {av : List Value} : FrameBlind (va_Pc av (PW D cy ad Z d sz)) := fun a U g mk q => by
  obtain ⟨q0, q1, qP, qK, qW⟩ := q
  exact ⟨q0, q1, qP, va_K.moved (u := U) (U := U.calling g mk a) (Vm.Alike.refl U.vm) qK, Wd.same rfl qW⟩
def MI (Z : Zt) (y : MethodName) (bc : ByteArray) (mL : Nat) (ty : FieldType) (rm : Room) (As : List Value) (F : MM Int32) : Prop := ∀ (l : Launch) (D : va_G) (cy : Nat → ClassId) (ad : Nat → Nat) (d : Dm) (r : Int32) (d' : Dm), F d = some (r, d') → Vk ad Z → ∀ sz, Met l y (.code y bc mL (some ty) :: TT) rm (va_Pc (As.map (cv ad)) (PW D cy ad Z d sz)) (va_Qi (fun (r' : Int32) (_ : Unit) => r' = r) (fun _ t => va_P D vwCl (wd cy ad Z d') t.heap) (va_A (wd cy ad Z d) sz)) 0 0 (va_A (wd cy ad Z d) sz)
def ML (Z : Zt) (y : MethodName) (bc : ByteArray) (mL : Nat) (rm : Room) (As : List Value) (F : MM Int64) : Prop := ∀ (l : Launch) (D : va_G) (cy : Nat → ClassId) (ad : Nat → Nat) (d : Dm) (r : Int64) (d' : Dm), F d = some (r, d') → Vk ad Z → ∀ sz, Met l y (.code y bc mL (some .long) :: TT) rm (va_Pc (As.map (cv ad)) (PW D cy ad Z d sz)) (va_Ql (fun (r' : Int64) (_ : Unit) => r' = r) (fun _ t => va_P D vwCl (wd cy ad Z d') t.heap) (va_A (wd cy ad Z d) sz)) 0 0 (va_A (wd cy ad Z d) sz)
def MV (Z : Zt) (y : MethodName) (bc : ByteArray) (mL : Nat) (rm : Room) (As : List Value) (F : MM Unit) : Prop := ∀ (l : Launch) (D : va_G) (cy : Nat → ClassId) (ad : Nat → Nat) (d : Dm) (r : Unit) (d' : Dm), F d = some (r, d') → Vk ad Z → ∀ sz, Met l y (.code y bc mL none :: TT) rm (va_Pc (As.map (cv ad)) (PW D cy ad Z d sz)) (va_Qv (fun (_ : Unit) => True) (fun _ t => va_P D vwCl (wd cy ad Z d') t.heap) (va_A (wd cy ad Z d) sz)) 0 0 (va_A (wd cy ad Z d) sz)
theorem wd_A {A : Nat → Prop} {cy : Nat → ClassId} {ad : Nat → Nat} {Z : Zt} {d : Dm} {H0 H : Heap} {locs : List Loc} (h : ∀ a, 1 ≤ a → a ≤ Z.1 → A (ad a)) (hS : va_S A H0 H locs) (hA : ∀ q, H0.size ≤ q → A q) : ∀ q, va_A (wd cy ad Z d) H.size q → A q := by
  intro q hq
  rcases hq with ⟨k, e, hk⟩ | hq
  · simp only [wd, List.getElem?_map, Option.map_eq_some_iff] at hk
    obtain ⟨i', hi', he⟩ := hk
    obtain ⟨hil, hi2⟩ := List.getElem?_eq_some_iff.mp hi'
    simp only [List.length_range, List.getElem_range] at hil hi2
    cases he
    exact h (i' + 1) (by omega) (by omega)
  · exact hA q (Nat.le_trans hS.1 hq)
def LC (own : String) (idx : Nat) (y : MethodName) (bc : ByteArray) (mL : Nat) (ret : Option FieldType) (n : Nat) : Prop := Cond.methodLink own idx y ∈ TT ∧ Cond.initialized y.cls ∈ TT ∧ Cond.code y bc mL ret ∈ TT ∧ (y.cls ≠ "java/lang/invoke/MethodHandle" ∧ y.cls ≠ "java/lang/invoke/VarHandle" ∧ (parseMethodDescriptor y.desc).map (fun d => d.parameters.length) = some n)
def LN (own : String) (idx : Nat) (y : MethodName) (host : String) (bc : ByteArray) (mL : Nat) (ret : Option FieldType) (n : Nat) : Prop := (own, idx, y, host) ∈ nestW ∧ Cond.initialized y.cls ∈ TT ∧ Cond.code y bc mL ret ∈ TT ∧ (y.cls ≠ "java/lang/invoke/MethodHandle" ∧ y.cls ≠ "java/lang/invoke/VarHandle" ∧ (parseMethodDescriptor y.desc).map (fun d => d.parameters.length) = some n)
def RF (R rm : Room) (mL : Nat) : Prop := rm.cells = 0 ∧ rm.slots = 0 ∧ rm.frames + 1 ≤ R.frames ∧ 8 + (mL + 11) + rm.locals ≤ R.locals
theorem cat_map {ad : Nat → Nat} {st : List Value} : ((st.map (cv ad)).map fun v => v.category) = st.map fun v => v.category := by
  rw [List.map_map]
  exact List.map_congr_left (fun v _ => cv_cat ad v)
theorem fb_add1 (k : Int32) (h : k.toInt < 2 ^ 31 - 1) : (k + 1).toInt = k.toInt + 1 := by
  rw [Int32.toInt_add, show (1 : Int32).toInt = 1 from rfl]
  have := Int32.le_toInt k
  rw [Int.bmod_eq_of_le (by omega) (by omega)]
section
variable {ρ : Type} {G : GT} {R : Room} {ad : Nat → Nat} {Z : Zt} {ck : Nat × Nat} {K : ρ → Dm → Prop} {pc nL : Nat} {cc : ByteArray} {own : String} {L : List (Nat × Value)} {st : List Value} {f : MM ρ}
theorem s_vI (C : Cx G R cc nL own) (hV : Vx G R ad Z ck) {idx ci n mL : Nat} {y : MethodName} {bc : ByteArray} {ty : FieldType} {rm : Room} {q : vw_C} (hC : vwCl[ci]? = some q) (hci : ci < 12) (hL : LC own idx y bc mL (some ty) n) (hs : Cond.instanceMethod y ∈ TT ∧ Cond.selects q.1 y y ∈ TT) {a : Nat} {As stk : List Value} {F : MM Int32} {kf : Int32 → MM ρ} (hM : MI Z y bc mL ty rm (.ref a :: As) F) (hn : As.length = n) (hrm : RF R rm mL) (hst : stk = As.reverse ++ .ref a :: st) (hcat : (st.map fun v => v.category).sum ≤ 8) (hd : decode cc pc = .ok (.invokevirtual idx, 3)) (kk : ∀ r, Sm G R ad Z ck K (pc + 3) L (.int r :: st) (kf r)) : Sm G R ad Z ck K pc L stk (mb (vc Z (ci + 1) a F) kf) := by
  subst hst
  obtain ⟨p, l, e, s, m, args, below, meth, c, Q, A, cy, D⟩ := G
  obtain ⟨hx, hb, hml, hown, hts, hTy, hWd, hA, hlk⟩ := C
  obtain ⟨hVk, hVA, hVc⟩ := hV
  have hVA : ∀ a, 1 ≤ a → a ≤ Z.1 → A (ad a) := hVA
  intro d r d' hf hK H locs ls hl hP hS
  obtain ⟨x, d1, h1, h2⟩ := mb_some hf
  have hk : Z.2.1 a = ci + 1 := by
    unfold vc at h1
    by_cases q : Z.2.1 a = ci + 1
    · exact q
    · rw [if_neg q] at h1; cases h1
  have h1 : F d = some (x, d1) := by
    unfold vc at h1
    rw [if_pos hk] at h1
    exact h1
  obtain ⟨hz, hr⟩ := ref_st hVk (a := a) (by omega)
  have hstk : (As.reverse ++ .ref a :: st).map (cv ad) = (As.map (cv ad)).reverse ++ .ref (ad a) :: st.map (cv ad) := by
    rw [List.map_append, List.map_reverse, List.map_cons, hr]
  rw [hstk]
  have hMet := hM l D cy ad d x d1 h1 hVk H.size
  rw [List.map_cons, hr] at hMet
  have hFc := wd_A (cy := cy) (d := d) hVA hS hA
  refine va_calli (va_runV (As := As.map (cv ad)) (rest := st.map (cv ad)) (n := n) ⟨hx, hb, hml, hown, hts⟩ hMet ⟨callB_of n hts (gi_t0 hL.2.2.1) rfl hrm.1 hrm.2.1 (hts _ hL.2.1) (hts _ hL.1) hL.2.2.2 hrm.2.2, hts _ hs.1, hts _ hs.2⟩ ⟨pw_blind, va_recv hTy hP hC ((wd_at hz.1 hz.2).trans (by rw [wc_obj hk hci])), fun U hU hW => ⟨rfl, by rw [hU], by rw [hU]; exact hP, va_K.moved hW.alike hTy, hWd.warm hW⟩⟩ rfl (by rw [List.length_map]; exact hn) (hl.1.trans hml) rfl (lv_room (by rw [cat_map]; exact hcat)) hd ⟨hVc.1, hVc.2⟩) hS (fun q _ h => hFc q h) hFc (fun r_ u t H1 locs1 ht hvm hw hB hz1 hk1 hS1 => ?_)
  subst hw
  rw [ht] at hB
  exact kk _ d1 r d' h2 hK H1 locs1 ls hl hB hS1
theorem s_sI (C : Cx G R cc nL own) (hV : Vx G R ad Z ck) {idx n mL : Nat} {y : MethodName} {bc : ByteArray} {ty : FieldType} {rm : Room} (hL : LC own idx y bc mL (some ty) n) (hs : Cond.static y ∈ TT) {As stk : List Value} {F : MM Int32} {kf : Int32 → MM ρ} (hM : MI Z y bc mL ty rm As F) (hn : As.length = n) (hrm : RF R rm mL) (hst : stk = As.reverse ++ st) (hcat : (st.map fun v => v.category).sum ≤ 8) (hd : decode cc pc = .ok (.invokestatic idx, 3)) (kk : ∀ r, Sm G R ad Z ck K (pc + 3) L (.int r :: st) (kf r)) : Sm G R ad Z ck K pc L stk (mb F kf) := by
  subst hst
  obtain ⟨p, l, e, s, m, args, below, meth, c, Q, A, cy, D⟩ := G
  obtain ⟨hx, hb, hml, hown, hts, hTy, hWd, hA, hlk⟩ := C
  obtain ⟨hVk, hVA, hVc⟩ := hV
  have hVA : ∀ a, 1 ≤ a → a ≤ Z.1 → A (ad a) := hVA
  intro d r d' hf hK H locs ls hl hP hS
  obtain ⟨x, d1, h1, h2⟩ := mb_some hf
  have hstk : (As.reverse ++ st).map (cv ad) = (As.map (cv ad)).reverse ++ st.map (cv ad) := by
    rw [List.map_append, List.map_reverse]
  rw [hstk]
  have hMet := hM l D cy ad d x d1 h1 hVk H.size
  have hFc := wd_A (cy := cy) (d := d) hVA hS hA
  refine va_calli (va_runS (As := As.map (cv ad)) (rest := st.map (cv ad)) (n := n) ⟨hx, hb, hml, hown, hts⟩ hMet ⟨callB_of n hts (gi_t0 hL.2.2.1) rfl hrm.1 hrm.2.1 (hts _ hL.2.1) (hts _ hL.1) hL.2.2.2 hrm.2.2, hts _ hs⟩ ⟨pw_blind, fun U hU hW => ⟨rfl, by rw [hU], by rw [hU]; exact hP, va_K.moved hW.alike hTy, hWd.warm hW⟩⟩ rfl (by rw [List.length_map]; exact hn) (hl.1.trans hml) rfl (lv_room (by rw [cat_map]; exact hcat)) hd ⟨hVc.1, hVc.2⟩) hS (fun q _ h => hFc q h) hFc (fun r_ u t H1 locs1 ht hvm hw hB hz1 hk1 hS1 => ?_)
  subst hw
  rw [ht] at hB
  exact kk _ d1 r d' h2 hK H1 locs1 ls hl hB hS1
theorem s_sIN (C : Cx G R cc nL own) (hV : Vx G R ad Z ck) {idx n mL : Nat} {y : MethodName} {bc : ByteArray} {ty : FieldType} {rm : Room} {host : String} (hL : LN own idx y host bc mL (some ty) n) (hs : Cond.static y ∈ TT) {As stk : List Value} {F : MM Int32} {kf : Int32 → MM ρ} (hM : MI Z y bc mL ty rm As F) (hn : As.length = n) (hrm : RF R rm mL) (hst : stk = As.reverse ++ st) (hcat : (st.map fun v => v.category).sum ≤ 8) (hd : decode cc pc = .ok (.invokestatic idx, 3)) (kk : ∀ r, Sm G R ad Z ck K (pc + 3) L (.int r :: st) (kf r)) : Sm G R ad Z ck K pc L stk (mb F kf) := by
  subst hst
  obtain ⟨p, l, e, s, m, args, below, meth, c, Q, A, cy, D⟩ := G
  obtain ⟨hx, hb, hml, hown, hts, hTy, hWd, hA, hlk⟩ := C
  obtain ⟨hVk, hVA, hVc⟩ := hV
  have hVA : ∀ a, 1 ≤ a → a ≤ Z.1 → A (ad a) := hVA
  intro d r d' hf hK H locs ls hl hP hS
  obtain ⟨x, d1, h1, h2⟩ := mb_some hf
  have hstk : (As.reverse ++ st).map (cv ad) = (As.map (cv ad)).reverse ++ st.map (cv ad) := by
    rw [List.map_append, List.map_reverse]
  rw [hstk]
  have hMet := hM l D cy ad d x d1 h1 hVk H.size
  have hFc := wd_A (cy := cy) (d := d) hVA hS hA
  refine va_calli (va_runSN (As := As.map (cv ad)) (rest := st.map (cv ad)) (n := n) ⟨hx, hb, hml, hown, hts⟩ hMet ⟨va_cnB n hts (gi_t0 hL.2.2.1) rfl hrm.1 hrm.2.1 (hWd.1 _ hL.1) (hts _ hL.2.1) hL.2.2.2 hrm.2.2, hts _ hs, trivial⟩ ⟨pw_blind, fun U hU hW => ⟨rfl, by rw [hU], by rw [hU]; exact hP, va_K.moved hW.alike hTy, hWd.warm hW⟩⟩ rfl (by rw [List.length_map]; exact hn) (hl.1.trans hml) rfl (lv_room (by rw [cat_map]; exact hcat)) hd ⟨hVc.1, hVc.2⟩) hS (fun q _ h => hFc q h) hFc (fun r_ u t H1 locs1 ht hvm hw hB hz1 hk1 hS1 => ?_)
  subst hw
  rw [ht] at hB
  exact kk _ d1 r d' h2 hK H1 locs1 ls hl hB hS1
theorem s_vL (C : Cx G R cc nL own) (hV : Vx G R ad Z ck) {idx ci n mL : Nat} {y : MethodName} {bc : ByteArray} {rm : Room} {q : vw_C} (hC : vwCl[ci]? = some q) (hci : ci < 12) (hL : LC own idx y bc mL (some .long) n) (hs : Cond.instanceMethod y ∈ TT ∧ Cond.selects q.1 y y ∈ TT) {a : Nat} {As stk : List Value} {F : MM Int64} {kf : Int64 → MM ρ} (hM : ML Z y bc mL rm (.ref a :: As) F) (hn : As.length = n) (hrm : RF R rm mL) (hst : stk = As.reverse ++ .ref a :: st) (hcat : (st.map fun v => v.category).sum ≤ 8) (hd : decode cc pc = .ok (.invokevirtual idx, 3)) (kk : ∀ r, Sm G R ad Z ck K (pc + 3) L (.long r :: st) (kf r)) : Sm G R ad Z ck K pc L stk (mb (vc Z (ci + 1) a F) kf) := by
  subst hst
  obtain ⟨p, l, e, s, m, args, below, meth, c, Q, A, cy, D⟩ := G
  obtain ⟨hx, hb, hml, hown, hts, hTy, hWd, hA, hlk⟩ := C
  obtain ⟨hVk, hVA, hVc⟩ := hV
  have hVA : ∀ a, 1 ≤ a → a ≤ Z.1 → A (ad a) := hVA
  intro d r d' hf hK H locs ls hl hP hS
  obtain ⟨x, d1, h1, h2⟩ := mb_some hf
  have hk : Z.2.1 a = ci + 1 := by
    unfold vc at h1
    by_cases q : Z.2.1 a = ci + 1
    · exact q
    · rw [if_neg q] at h1; cases h1
  have h1 : F d = some (x, d1) := by
    unfold vc at h1
    rw [if_pos hk] at h1
    exact h1
  obtain ⟨hz, hr⟩ := ref_st hVk (a := a) (by omega)
  have hstk : (As.reverse ++ .ref a :: st).map (cv ad) = (As.map (cv ad)).reverse ++ .ref (ad a) :: st.map (cv ad) := by
    rw [List.map_append, List.map_reverse, List.map_cons, hr]
  rw [hstk]
  have hMet := hM l D cy ad d x d1 h1 hVk H.size
  rw [List.map_cons, hr] at hMet
  have hFc := wd_A (cy := cy) (d := d) hVA hS hA
  refine va_calll (va_runV (As := As.map (cv ad)) (rest := st.map (cv ad)) (n := n) ⟨hx, hb, hml, hown, hts⟩ hMet ⟨callB_of n hts (gi_t0 hL.2.2.1) rfl hrm.1 hrm.2.1 (hts _ hL.2.1) (hts _ hL.1) hL.2.2.2 hrm.2.2, hts _ hs.1, hts _ hs.2⟩ ⟨pw_blind, va_recv hTy hP hC ((wd_at hz.1 hz.2).trans (by rw [wc_obj hk hci])), fun U hU hW => ⟨rfl, by rw [hU], by rw [hU]; exact hP, va_K.moved hW.alike hTy, hWd.warm hW⟩⟩ rfl (by rw [List.length_map]; exact hn) (hl.1.trans hml) rfl (lv_room (by rw [cat_map]; exact hcat)) hd ⟨hVc.1, hVc.2⟩) hS (fun q _ h => hFc q h) hFc (fun r_ u t H1 locs1 ht hvm hw hB hz1 hk1 hS1 => ?_)
  subst hw
  rw [ht] at hB
  exact kk _ d1 r d' h2 hK H1 locs1 ls hl hB hS1
theorem s_sL (C : Cx G R cc nL own) (hV : Vx G R ad Z ck) {idx n mL : Nat} {y : MethodName} {bc : ByteArray} {rm : Room} (hL : LC own idx y bc mL (some .long) n) (hs : Cond.static y ∈ TT) {As stk : List Value} {F : MM Int64} {kf : Int64 → MM ρ} (hM : ML Z y bc mL rm As F) (hn : As.length = n) (hrm : RF R rm mL) (hst : stk = As.reverse ++ st) (hcat : (st.map fun v => v.category).sum ≤ 8) (hd : decode cc pc = .ok (.invokestatic idx, 3)) (kk : ∀ r, Sm G R ad Z ck K (pc + 3) L (.long r :: st) (kf r)) : Sm G R ad Z ck K pc L stk (mb F kf) := by
  subst hst
  obtain ⟨p, l, e, s, m, args, below, meth, c, Q, A, cy, D⟩ := G
  obtain ⟨hx, hb, hml, hown, hts, hTy, hWd, hA, hlk⟩ := C
  obtain ⟨hVk, hVA, hVc⟩ := hV
  have hVA : ∀ a, 1 ≤ a → a ≤ Z.1 → A (ad a) := hVA
  intro d r d' hf hK H locs ls hl hP hS
  obtain ⟨x, d1, h1, h2⟩ := mb_some hf
  have hstk : (As.reverse ++ st).map (cv ad) = (As.map (cv ad)).reverse ++ st.map (cv ad) := by
    rw [List.map_append, List.map_reverse]
  rw [hstk]
  have hMet := hM l D cy ad d x d1 h1 hVk H.size
  have hFc := wd_A (cy := cy) (d := d) hVA hS hA
  refine va_calll (va_runS (As := As.map (cv ad)) (rest := st.map (cv ad)) (n := n) ⟨hx, hb, hml, hown, hts⟩ hMet ⟨callB_of n hts (gi_t0 hL.2.2.1) rfl hrm.1 hrm.2.1 (hts _ hL.2.1) (hts _ hL.1) hL.2.2.2 hrm.2.2, hts _ hs⟩ ⟨pw_blind, fun U hU hW => ⟨rfl, by rw [hU], by rw [hU]; exact hP, va_K.moved hW.alike hTy, hWd.warm hW⟩⟩ rfl (by rw [List.length_map]; exact hn) (hl.1.trans hml) rfl (lv_room (by rw [cat_map]; exact hcat)) hd ⟨hVc.1, hVc.2⟩) hS (fun q _ h => hFc q h) hFc (fun r_ u t H1 locs1 ht hvm hw hB hz1 hk1 hS1 => ?_)
  subst hw
  rw [ht] at hB
  exact kk _ d1 r d' h2 hK H1 locs1 ls hl hB hS1
theorem s_sLN (C : Cx G R cc nL own) (hV : Vx G R ad Z ck) {idx n mL : Nat} {y : MethodName} {bc : ByteArray} {rm : Room} {host : String} (hL : LN own idx y host bc mL (some .long) n) (hs : Cond.static y ∈ TT) {As stk : List Value} {F : MM Int64} {kf : Int64 → MM ρ} (hM : ML Z y bc mL rm As F) (hn : As.length = n) (hrm : RF R rm mL) (hst : stk = As.reverse ++ st) (hcat : (st.map fun v => v.category).sum ≤ 8) (hd : decode cc pc = .ok (.invokestatic idx, 3)) (kk : ∀ r, Sm G R ad Z ck K (pc + 3) L (.long r :: st) (kf r)) : Sm G R ad Z ck K pc L stk (mb F kf) := by
  subst hst
  obtain ⟨p, l, e, s, m, args, below, meth, c, Q, A, cy, D⟩ := G
  obtain ⟨hx, hb, hml, hown, hts, hTy, hWd, hA, hlk⟩ := C
  obtain ⟨hVk, hVA, hVc⟩ := hV
  have hVA : ∀ a, 1 ≤ a → a ≤ Z.1 → A (ad a) := hVA
  intro d r d' hf hK H locs ls hl hP hS
  obtain ⟨x, d1, h1, h2⟩ := mb_some hf
  have hstk : (As.reverse ++ st).map (cv ad) = (As.map (cv ad)).reverse ++ st.map (cv ad) := by
    rw [List.map_append, List.map_reverse]
  rw [hstk]
  have hMet := hM l D cy ad d x d1 h1 hVk H.size
  have hFc := wd_A (cy := cy) (d := d) hVA hS hA
  refine va_calll (va_runSN (As := As.map (cv ad)) (rest := st.map (cv ad)) (n := n) ⟨hx, hb, hml, hown, hts⟩ hMet ⟨va_cnB n hts (gi_t0 hL.2.2.1) rfl hrm.1 hrm.2.1 (hWd.1 _ hL.1) (hts _ hL.2.1) hL.2.2.2 hrm.2.2, hts _ hs, trivial⟩ ⟨pw_blind, fun U hU hW => ⟨rfl, by rw [hU], by rw [hU]; exact hP, va_K.moved hW.alike hTy, hWd.warm hW⟩⟩ rfl (by rw [List.length_map]; exact hn) (hl.1.trans hml) rfl (lv_room (by rw [cat_map]; exact hcat)) hd ⟨hVc.1, hVc.2⟩) hS (fun q _ h => hFc q h) hFc (fun r_ u t H1 locs1 ht hvm hw hB hz1 hk1 hS1 => ?_)
  subst hw
  rw [ht] at hB
  exact kk _ d1 r d' h2 hK H1 locs1 ls hl hB hS1
theorem s_vV (C : Cx G R cc nL own) (hV : Vx G R ad Z ck) {idx ci n mL : Nat} {y : MethodName} {bc : ByteArray} {rm : Room} {q : vw_C} (hC : vwCl[ci]? = some q) (hci : ci < 12) (hL : LC own idx y bc mL none n) (hs : Cond.instanceMethod y ∈ TT ∧ Cond.selects q.1 y y ∈ TT) {a : Nat} {As stk : List Value} {F : MM Unit} {kf : Unit → MM ρ} (hM : MV Z y bc mL rm (.ref a :: As) F) (hn : As.length = n) (hrm : RF R rm mL) (hst : stk = As.reverse ++ .ref a :: st) (hcat : (st.map fun v => v.category).sum ≤ 8) (hd : decode cc pc = .ok (.invokevirtual idx, 3)) (kk : Sm G R ad Z ck K (pc + 3) L st (kf ())) : Sm G R ad Z ck K pc L stk (mb (vc Z (ci + 1) a F) kf) := by
  subst hst
  obtain ⟨p, l, e, s, m, args, below, meth, c, Q, A, cy, D⟩ := G
  obtain ⟨hx, hb, hml, hown, hts, hTy, hWd, hA, hlk⟩ := C
  obtain ⟨hVk, hVA, hVc⟩ := hV
  have hVA : ∀ a, 1 ≤ a → a ≤ Z.1 → A (ad a) := hVA
  intro d r d' hf hK H locs ls hl hP hS
  obtain ⟨x, d1, h1, h2⟩ := mb_some hf
  have hk : Z.2.1 a = ci + 1 := by
    unfold vc at h1
    by_cases q : Z.2.1 a = ci + 1
    · exact q
    · rw [if_neg q] at h1; cases h1
  have h1 : F d = some (x, d1) := by
    unfold vc at h1
    rw [if_pos hk] at h1
    exact h1
  obtain ⟨hz, hr⟩ := ref_st hVk (a := a) (by omega)
  have hstk : (As.reverse ++ .ref a :: st).map (cv ad) = (As.map (cv ad)).reverse ++ .ref (ad a) :: st.map (cv ad) := by
    rw [List.map_append, List.map_reverse, List.map_cons, hr]
  rw [hstk]
  have hMet := hM l D cy ad d x d1 h1 hVk H.size
  rw [List.map_cons, hr] at hMet
  have hFc := wd_A (cy := cy) (d := d) hVA hS hA
  refine va_callv (va_runV (As := As.map (cv ad)) (rest := st.map (cv ad)) (n := n) ⟨hx, hb, hml, hown, hts⟩ hMet ⟨callB_of n hts (gi_t0 hL.2.2.1) rfl hrm.1 hrm.2.1 (hts _ hL.2.1) (hts _ hL.1) hL.2.2.2 hrm.2.2, hts _ hs.1, hts _ hs.2⟩ ⟨pw_blind, va_recv hTy hP hC ((wd_at hz.1 hz.2).trans (by rw [wc_obj hk hci])), fun U hU hW => ⟨rfl, by rw [hU], by rw [hU]; exact hP, va_K.moved hW.alike hTy, hWd.warm hW⟩⟩ rfl (by rw [List.length_map]; exact hn) (hl.1.trans hml) rfl (lv_room (by rw [cat_map]; exact hcat)) hd ⟨hVc.1, hVc.2⟩) hS (fun q _ h => hFc q h) hFc (fun u t H1 locs1 ht hvm hw hB hz1 hk1 hS1 => ?_)
  rw [ht] at hB
  exact kk d1 r d' h2 hK H1 locs1 ls hl hB hS1
theorem s_sV (C : Cx G R cc nL own) (hV : Vx G R ad Z ck) {idx n mL : Nat} {y : MethodName} {bc : ByteArray} {rm : Room} (hL : LC own idx y bc mL none n) (hs : Cond.static y ∈ TT) {As stk : List Value} {F : MM Unit} {kf : Unit → MM ρ} (hM : MV Z y bc mL rm As F) (hn : As.length = n) (hrm : RF R rm mL) (hst : stk = As.reverse ++ st) (hcat : (st.map fun v => v.category).sum ≤ 8) (hd : decode cc pc = .ok (.invokestatic idx, 3)) (kk : Sm G R ad Z ck K (pc + 3) L st (kf ())) : Sm G R ad Z ck K pc L stk (mb F kf) := by
  subst hst
  obtain ⟨p, l, e, s, m, args, below, meth, c, Q, A, cy, D⟩ := G
  obtain ⟨hx, hb, hml, hown, hts, hTy, hWd, hA, hlk⟩ := C
  obtain ⟨hVk, hVA, hVc⟩ := hV
  have hVA : ∀ a, 1 ≤ a → a ≤ Z.1 → A (ad a) := hVA
  intro d r d' hf hK H locs ls hl hP hS
  obtain ⟨x, d1, h1, h2⟩ := mb_some hf
  have hstk : (As.reverse ++ st).map (cv ad) = (As.map (cv ad)).reverse ++ st.map (cv ad) := by
    rw [List.map_append, List.map_reverse]
  rw [hstk]
  have hMet := hM l D cy ad d x d1 h1 hVk H.size
  have hFc := wd_A (cy := cy) (d := d) hVA hS hA
  refine va_callv (va_runS (As := As.map (cv ad)) (rest := st.map (cv ad)) (n := n) ⟨hx, hb, hml, hown, hts⟩ hMet ⟨callB_of n hts (gi_t0 hL.2.2.1) rfl hrm.1 hrm.2.1 (hts _ hL.2.1) (hts _ hL.1) hL.2.2.2 hrm.2.2, hts _ hs⟩ ⟨pw_blind, fun U hU hW => ⟨rfl, by rw [hU], by rw [hU]; exact hP, va_K.moved hW.alike hTy, hWd.warm hW⟩⟩ rfl (by rw [List.length_map]; exact hn) (hl.1.trans hml) rfl (lv_room (by rw [cat_map]; exact hcat)) hd ⟨hVc.1, hVc.2⟩) hS (fun q _ h => hFc q h) hFc (fun u t H1 locs1 ht hvm hw hB hz1 hk1 hS1 => ?_)
  rw [ht] at hB
  exact kk d1 r d' h2 hK H1 locs1 ls hl hB hS1
theorem s_sVN (C : Cx G R cc nL own) (hV : Vx G R ad Z ck) {idx n mL : Nat} {y : MethodName} {bc : ByteArray} {rm : Room} {host : String} (hL : LN own idx y host bc mL none n) (hs : Cond.static y ∈ TT) {As stk : List Value} {F : MM Unit} {kf : Unit → MM ρ} (hM : MV Z y bc mL rm As F) (hn : As.length = n) (hrm : RF R rm mL) (hst : stk = As.reverse ++ st) (hcat : (st.map fun v => v.category).sum ≤ 8) (hd : decode cc pc = .ok (.invokestatic idx, 3)) (kk : Sm G R ad Z ck K (pc + 3) L st (kf ())) : Sm G R ad Z ck K pc L stk (mb F kf) := by
  subst hst
  obtain ⟨p, l, e, s, m, args, below, meth, c, Q, A, cy, D⟩ := G
  obtain ⟨hx, hb, hml, hown, hts, hTy, hWd, hA, hlk⟩ := C
  obtain ⟨hVk, hVA, hVc⟩ := hV
  have hVA : ∀ a, 1 ≤ a → a ≤ Z.1 → A (ad a) := hVA
  intro d r d' hf hK H locs ls hl hP hS
  obtain ⟨x, d1, h1, h2⟩ := mb_some hf
  have hstk : (As.reverse ++ st).map (cv ad) = (As.map (cv ad)).reverse ++ st.map (cv ad) := by
    rw [List.map_append, List.map_reverse]
  rw [hstk]
  have hMet := hM l D cy ad d x d1 h1 hVk H.size
  have hFc := wd_A (cy := cy) (d := d) hVA hS hA
  refine va_callv (va_runSN (As := As.map (cv ad)) (rest := st.map (cv ad)) (n := n) ⟨hx, hb, hml, hown, hts⟩ hMet ⟨va_cnB n hts (gi_t0 hL.2.2.1) rfl hrm.1 hrm.2.1 (hWd.1 _ hL.1) (hts _ hL.2.1) hL.2.2.2 hrm.2.2, hts _ hs, trivial⟩ ⟨pw_blind, fun U hU hW => ⟨rfl, by rw [hU], by rw [hU]; exact hP, va_K.moved hW.alike hTy, hWd.warm hW⟩⟩ rfl (by rw [List.length_map]; exact hn) (hl.1.trans hml) rfl (lv_room (by rw [cat_map]; exact hcat)) hd ⟨hVc.1, hVc.2⟩) hS (fun q _ h => hFc q h) hFc (fun u t H1 locs1 ht hvm hw hB hz1 hk1 hS1 => ?_)
  rw [ht] at hB
  exact kk d1 r d' h2 hK H1 locs1 ls hl hB hS1
def RtI (G : GT) (R : Room) (ad : Nat → Nat) (Z : Zt) (ck : Nat × Nat) (cc : ByteArray) (ty : FieldType) (K : Int32 → Dm → Prop) : Prop := match G with
  | (p, l, e, s, m, args, below, meth, c, Q, A, cy, D) => ∀ (pc : Nat) (v : Int32) (d : Dm) (H : Heap) (locs : List Loc) (ls : Array Slot), decode cc pc = .ok (.ireturn, 1) → narrow ty (.int v) = .int v → K v d → va_P D vwCl (wd cy ad Z d) H → va_S A s.heap H locs → W p l e R s m args below meth c H locs ck.1 ck.2 Q (F0 m pc ls [.int v])
def RtL (G : GT) (R : Room) (ad : Nat → Nat) (Z : Zt) (ck : Nat × Nat) (cc : ByteArray) (K : Int64 → Dm → Prop) : Prop := match G with
  | (p, l, e, s, m, args, below, meth, c, Q, A, cy, D) => ∀ (pc : Nat) (v : Int64) (d : Dm) (H : Heap) (locs : List Loc) (ls : Array Slot), decode cc pc = .ok (.lreturn, 1) → K v d → va_P D vwCl (wd cy ad Z d) H → va_S A s.heap H locs → W p l e R s m args below meth c H locs ck.1 ck.2 Q (F0 m pc ls [.long v])
def RtV (G : GT) (R : Room) (ad : Nat → Nat) (Z : Zt) (ck : Nat × Nat) (cc : ByteArray) (K : Unit → Dm → Prop) : Prop := match G with
  | (p, l, e, s, m, args, below, meth, c, Q, A, cy, D) => ∀ (pc : Nat) (d : Dm) (H : Heap) (locs : List Loc) (ls : Array Slot), decode cc pc = .ok (.return_, 1) → K () d → va_P D vwCl (wd cy ad Z d) H → va_S A s.heap H locs → W p l e R s m args below meth c H locs ck.1 ck.2 Q (F0 m pc ls [])
theorem s_ireti {K : Int32 → Dm → Prop} (hR : RtI G R ad Z ck cc .int K) {v : Int32} (hd : decode cc pc = .ok (.ireturn, 1)) : Sm G R ad Z ck K pc L [.int v] (mp v) := by
  obtain ⟨p, l, e, s, m, args, below, meth, c, Q, A, cy, D⟩ := G
  intro d r d' hf hK H locs ls hl hP hS
  unfold mp at hf
  cases hf
  exact hR pc _ _ H locs ls hd rfl hK hP hS
theorem s_iretz {K : Int32 → Dm → Prop} (hR : RtI G R ad Z ck cc .boolean K) {v : Int32} (hd : decode cc pc = .ok (.ireturn, 1)) : Sm G R ad Z ck K pc L [.int v] (mz v) := by
  obtain ⟨p, l, e, s, m, args, below, meth, c, Q, A, cy, D⟩ := G
  intro d r d' hf hK H locs ls hl hP hS
  unfold mz at hf
  obtain ⟨h, he⟩ := some_if hf
  cases he
  exact hR pc _ _ H locs ls hd (by rcases h with e | e <;> rw [e] <;> rfl) hK hP hS
theorem s_lret {K : Int64 → Dm → Prop} (hR : RtL G R ad Z ck cc K) {v : Int64} (hd : decode cc pc = .ok (.lreturn, 1)) : Sm G R ad Z ck K pc L [.long v] (mp v) := by
  obtain ⟨p, l, e, s, m, args, below, meth, c, Q, A, cy, D⟩ := G
  intro d r d' hf hK H locs ls hl hP hS
  unfold mp at hf
  cases hf
  exact hR pc _ _ H locs ls hd hK hP hS
theorem s_vret {K : Unit → Dm → Prop} (hR : RtV G R ad Z ck cc K) (hd : decode cc pc = .ok (.return_, 1)) : Sm G R ad Z ck K pc L [] (mp ()) := by
  obtain ⟨p, l, e, s, m, args, below, meth, c, Q, A, cy, D⟩ := G
  intro d r d' hf hK H locs ls hl hP hS
  unfold mp at hf
  cases hf
  exact hR pc _ H locs ls hd hK hP hS
theorem sw_at {x : Int32} {gs : List (MM ρ)} {g : MM ρ} : ∀ (k : Int32) (i : Nat), x.toInt = k.toInt + i → k.toInt + gs.length < 2 ^ 31 → i < gs.length → ∃ h, gs[i]? = some h ∧ sw x k gs g = h := by
  induction gs with
  | nil => intro k i _ _ h; simp at h
  | cons h t ih =>
    intro k i hx hb hi
    cases i with
    | zero => exact ⟨h, rfl, if_pos (Int32.toInt_inj.mp (by rw [hx]; omega))⟩
    | succ i =>
      simp only [List.length_cons] at hi hb
      have hk1 : (k + 1).toInt = k.toInt + 1 := fb_add1 k (by have := Int32.le_toInt k; omega)
      obtain ⟨h', e1, e2⟩ := ih (k + 1) i (by rw [hk1, hx]; omega) (by rw [hk1]; omega) (by omega)
      refine ⟨h', by simpa using e1, ?_⟩
      unfold sw
      rw [if_neg (fun q => by rw [q] at hx; omega)]
      exact e2
theorem sw_out {x : Int32} {gs : List (MM ρ)} {g : MM ρ} : ∀ {k : Int32}, (x.toInt < k.toInt ∨ k.toInt + gs.length ≤ x.toInt) → k.toInt + gs.length < 2 ^ 31 → sw x k gs g = g := by
  induction gs with
  | nil => intro k _ _; rfl
  | cons h t ih =>
    intro k hx hb
    simp only [List.length_cons] at hx hb
    have hk1 : (k + 1).toInt = k.toInt + 1 := fb_add1 k (by have := Int32.le_toInt k; omega)
    unfold sw
    rw [if_neg (fun q => by rw [q] at hx; omega)]
    exact ih (by rw [hk1]; omega) (by rw [hk1]; omega)
theorem s_tsw (C : Cx G R cc nL own) {dflt lo hi : Int} {offs : Array Int} {len : Nat} {x k : Int32} {gs : List (MM ρ)} (hk : k.toInt = lo) (hb : lo + gs.length < 2 ^ 31) (hh : hi = lo + gs.length - 1) (hd : decode cc pc = .ok (.tableswitch dflt lo hi offs, len)) (tgt : Nat) (ht : (pc : Int) + dflt = (tgt : Int)) (kd : Sm G R ad Z ck K tgt L st f) (kg : ∀ (i : Nat) (g : MM ρ), gs[i]? = some g → ∃ (off : Int) (t : Nat), offs[i]? = some off ∧ (pc : Int) + off = (t : Int) ∧ Sm G R ad Z ck K t L st g) : Sm G R ad Z ck K pc L (.int x :: st) (sw x k gs f) := by
  by_cases hin : lo ≤ x.toInt ∧ x.toInt ≤ hi
  · have hi2 : (x.toInt - lo).toNat < gs.length := by omega
    obtain ⟨g, e1, e2⟩ := sw_at (x := x) (gs := gs) (g := f) k (x.toInt - lo).toNat (by omega) (by omega) hi2
    obtain ⟨off, t, h1, h2, h3⟩ := kg _ g e1
    rw [e2]
    obtain ⟨p, l, e, s, m, args, below, meth, c, Q, A, cy, D⟩ := G
    obtain ⟨hx, hb, hml, hown, hts, hTy, hWd, hA, hlk⟩ := C
    intro d r d' hf hK H locs ls hl hP hS
    exact lv_tableIn hx hb hd (by omega) (by omega) h1 h2 (h3 d r d' hf hK H locs ls hl hP hS)
  · rw [sw_out (by omega) (by omega)]
    obtain ⟨p, l, e, s, m, args, below, meth, c, Q, A, cy, D⟩ := G
    obtain ⟨hx, hb, hml, hown, hts, hTy, hWd, hA, hlk⟩ := C
    intro d r d' hf hK H locs ls hl hP hS
    exact lv_tableOut hx hb hd (by omega) ht (kd d r d' hf hK H locs ls hl hP hS)
end
theorem args_map (ad : Nat → Nat) : ∀ (As : List Value) (i : Nat), lv_args i (As.map (cv ad)) = (lv_args i As).map (cw ad)
  | [], _ => rfl
  | v :: vs, i => by
    simp only [List.map_cons, lv_args, cv_cat]
    rw [args_map ad vs]
    rfl
theorem sl_len (ad : Nat → Nat) : ∀ (As : List Value), (lg_sl (As.map (cv ad))).length = (As.map fun v => v.category).sum
  | [] => rfl
  | v :: vs => by
    have ih := sl_len ad vs
    unfold lg_sl at ih ⊢
    rw [List.map_cons, List.flatMap_cons, List.length_append, ih, List.map_cons, List.sum_cons, cv_cat]
    rcases lv_cat v with h | h <;> simp [h]
theorem mi_of {Z : Zt} {y : MethodName} {bc : ByteArray} {mL : Nat} {ty : FieldType} {rm : Room} {As : List Value} {F : MM Int32} {L0 : List (Nat × Value)} (hpl : plainName y.cls = true) (hlen : (As.map fun v => v.category).sum ≤ mL) (hL0 : lv_args 0 As = L0) (hb : ∀ (G : GT) (ad : Nat → Nat) (K : Int32 → Dm → Prop), Cx G rm bc mL y.cls → Vx G rm ad Z (0, 0) → RtI G rm ad Z (0, 0) bc ty K → Sm G rm ad Z (0, 0) K 0 L0 [] F) : MI Z y bc mL ty rm As F := by
  intro l D cy ad d r d' hF hVk sz
  refine Met.ofW (cc := bc) (maxL := mL) hpl rfl ?_
  intro p e s m args below meth c s₁ B hml hv
  obtain ⟨rfl, hsz, hP, hK, hWd⟩ := hv
  have hts : ∀ w ∈ TT, w.before ((As.map (cv ad)).toArray) s = true := fun w hw => atoms_spec B.pre w (List.mem_cons_of_mem _ hw)
  subst hsz
  have hl := lv_entry (As.map (cv ad)) (n := mL) (by rw [sl_len]; exact hlen)
  rw [lg_entry_eq]
  generalize (lg_sl (As.map (cv ad)) ++ List.replicate (mL - (lg_sl (As.map (cv ad))).length) Slot.unset).toArray = ls at hl ⊢
  rw [args_map, hL0, ← hml] at hl
  refine hb (p, l, e, s, m, (As.map (cv ad)).toArray, below, meth, c, MQ below (va_Qi (fun (r' : Int32) (_ : Unit) => r' = r) (fun _ t => va_P D vwCl (wd cy ad Z d') t.heap) (va_A (wd cy ad Z d) s.heap.size)) (As.map (cv ad)).toArray s 0 0 (va_A (wd cy ad Z d) s.heap.size), va_A (wd cy ad Z d) s.heap.size, cy, D) ad (fun x dd => x = r ∧ dd = d') ⟨B.exec, B.bytes, hml, findClass_of_methodNamed B.named, hts, hK, hWd, fun q h => Or.inr h, B.notSynchronized⟩ ⟨hVk, ?_, Nat.zero_le _, Nat.zero_le _⟩ ?_ d r d' hF ⟨rfl, rfl⟩ s.heap [] ls hl hP va_S.rf
  · intro a h1 h2
    exact Or.inl ⟨a - 1, _, wd_at h1 h2⟩
  · show ∀ _, _
    intro pc v dd H locs ls hdg hnar hK hP hS
    obtain ⟨rfl, rfl⟩ := hK
    exact W.zret B.exec B.bytes B.returns hnar (fun t ht hW => ⟨⟨v, (), rfl, rfl, by show va_P D vwCl _ t.heap; rw [ht]; exact hP⟩, hS.F ht⟩) hS.2.2 hdg B.notSynchronized
theorem ml_of {Z : Zt} {y : MethodName} {bc : ByteArray} {mL : Nat} {rm : Room} {As : List Value} {F : MM Int64} {L0 : List (Nat × Value)} (hpl : plainName y.cls = true) (hlen : (As.map fun v => v.category).sum ≤ mL) (hL0 : lv_args 0 As = L0) (hb : ∀ (G : GT) (ad : Nat → Nat) (K : Int64 → Dm → Prop), Cx G rm bc mL y.cls → Vx G rm ad Z (0, 0) → RtL G rm ad Z (0, 0) bc K → Sm G rm ad Z (0, 0) K 0 L0 [] F) : ML Z y bc mL rm As F := by
  intro l D cy ad d r d' hF hVk sz
  refine Met.ofW (cc := bc) (maxL := mL) hpl rfl ?_
  intro p e s m args below meth c s₁ B hml hv
  obtain ⟨rfl, hsz, hP, hK, hWd⟩ := hv
  have hts : ∀ w ∈ TT, w.before ((As.map (cv ad)).toArray) s = true := fun w hw => atoms_spec B.pre w (List.mem_cons_of_mem _ hw)
  subst hsz
  have hl := lv_entry (As.map (cv ad)) (n := mL) (by rw [sl_len]; exact hlen)
  rw [lg_entry_eq]
  generalize (lg_sl (As.map (cv ad)) ++ List.replicate (mL - (lg_sl (As.map (cv ad))).length) Slot.unset).toArray = ls at hl ⊢
  rw [args_map, hL0, ← hml] at hl
  refine hb (p, l, e, s, m, (As.map (cv ad)).toArray, below, meth, c, MQ below (va_Ql (fun (r' : Int64) (_ : Unit) => r' = r) (fun _ t => va_P D vwCl (wd cy ad Z d') t.heap) (va_A (wd cy ad Z d) s.heap.size)) (As.map (cv ad)).toArray s 0 0 (va_A (wd cy ad Z d) s.heap.size), va_A (wd cy ad Z d) s.heap.size, cy, D) ad (fun x dd => x = r ∧ dd = d') ⟨B.exec, B.bytes, hml, findClass_of_methodNamed B.named, hts, hK, hWd, fun q h => Or.inr h, B.notSynchronized⟩ ⟨hVk, ?_, Nat.zero_le _, Nat.zero_le _⟩ ?_ d r d' hF ⟨rfl, rfl⟩ s.heap [] ls hl hP va_S.rf
  · intro a h1 h2
    exact Or.inl ⟨a - 1, _, wd_at h1 h2⟩
  · show ∀ _, _
    intro pc v dd H locs ls hdg hK hP hS
    obtain ⟨rfl, rfl⟩ := hK
    exact W.lret B.exec B.bytes B.returns (fun t ht hW => ⟨⟨v, (), rfl, rfl, by show va_P D vwCl _ t.heap; rw [ht]; exact hP⟩, hS.F ht⟩) hS.2.2 hdg B.notSynchronized
theorem mv_of {Z : Zt} {y : MethodName} {bc : ByteArray} {mL : Nat} {rm : Room} {As : List Value} {F : MM Unit} {L0 : List (Nat × Value)} (hpl : plainName y.cls = true) (hlen : (As.map fun v => v.category).sum ≤ mL) (hL0 : lv_args 0 As = L0) (hb : ∀ (G : GT) (ad : Nat → Nat) (K : Unit → Dm → Prop), Cx G rm bc mL y.cls → Vx G rm ad Z (0, 0) → RtV G rm ad Z (0, 0) bc K → Sm G rm ad Z (0, 0) K 0 L0 [] F) : MV Z y bc mL rm As F := by
  intro l D cy ad d r d' hF hVk sz
  refine Met.ofW (cc := bc) (maxL := mL) hpl rfl ?_
  intro p e s m args below meth c s₁ B hml hv
  obtain ⟨rfl, hsz, hP, hK, hWd⟩ := hv
  have hts : ∀ w ∈ TT, w.before ((As.map (cv ad)).toArray) s = true := fun w hw => atoms_spec B.pre w (List.mem_cons_of_mem _ hw)
  subst hsz
  have hl := lv_entry (As.map (cv ad)) (n := mL) (by rw [sl_len]; exact hlen)
  rw [lg_entry_eq]
  generalize (lg_sl (As.map (cv ad)) ++ List.replicate (mL - (lg_sl (As.map (cv ad))).length) Slot.unset).toArray = ls at hl ⊢
  rw [args_map, hL0, ← hml] at hl
  refine hb (p, l, e, s, m, (As.map (cv ad)).toArray, below, meth, c, MQ below (va_Qv (fun (_ : Unit) => True) (fun _ t => va_P D vwCl (wd cy ad Z d') t.heap) (va_A (wd cy ad Z d) s.heap.size)) (As.map (cv ad)).toArray s 0 0 (va_A (wd cy ad Z d) s.heap.size), va_A (wd cy ad Z d) s.heap.size, cy, D) ad (fun x dd => x = r ∧ dd = d') ⟨B.exec, B.bytes, hml, findClass_of_methodNamed B.named, hts, hK, hWd, fun q h => Or.inr h, B.notSynchronized⟩ ⟨hVk, ?_, Nat.zero_le _, Nat.zero_le _⟩ ?_ d r d' hF ⟨rfl, rfl⟩ s.heap [] ls hl hP va_S.rf
  · intro a h1 h2
    exact Or.inl ⟨a - 1, _, wd_at h1 h2⟩
  · show ∀ _, _
    intro pc dd H locs ls hdg hK hP hS
    obtain ⟨-, rfl⟩ := hK
    exact W.vret B.exec B.bytes B.returns (fun t ht hW => ⟨⟨(), rfl, trivial, by show va_P D vwCl _ t.heap; rw [ht]; exact hP⟩, hS.F ht⟩) hS.2.2 hdg B.notSynchronized
end
section
theorem zz_ok : True := trivial
end
