section
-- ===== PART A: goes FIRST, ahead of the names: the tables' words, and 'selects' of the private methods out of them =====
/-- a private method of a class that the tables say can be made, by its rows of tables_1 -/
def lw_okq (q : MethodName × Nat) : Prop := (q.1.cls ≠ "java/lang/invoke/MethodHandle" ∧ q.1.cls ≠ "java/lang/invoke/VarHandle") ∧ Cond.instantiable q.1.cls q.2 ∈ tables_1 ∧ Cond.privateMethod q.1 ∈ tables_1 ∧ Cond.instanceMethod q.1 ∈ tables_1
theorem lw_p0 : lw_okq (⟨"SkyTurns$Reader", "hasMore", "()Z"⟩, 9) := ⟨⟨by decide +kernel, by decide +kernel⟩, List.mem_of_getElem? (i := 148) (by decide +kernel), List.mem_of_getElem? (i := 452) (by decide +kernel), List.mem_of_getElem? (i := 453) (by decide +kernel)⟩
theorem lw_p1 : lw_okq (⟨"SkyTurns$Reader", "skipBlanks", "()V"⟩, 9) := ⟨⟨by decide +kernel, by decide +kernel⟩, List.mem_of_getElem? (i := 148) (by decide +kernel), List.mem_of_getElem? (i := 456) (by decide +kernel), List.mem_of_getElem? (i := 457) (by decide +kernel)⟩
theorem lw_p2 : lw_okq (⟨"SkyTurns$Reader", "readClause", "()V"⟩, 9) := ⟨⟨by decide +kernel, by decide +kernel⟩, List.mem_of_getElem? (i := 148) (by decide +kernel), List.mem_of_getElem? (i := 460) (by decide +kernel), List.mem_of_getElem? (i := 461) (by decide +kernel)⟩
theorem lw_p3 : lw_okq (⟨"SkyTurns$Reader", "readWeights", "()V"⟩, 9) := ⟨⟨by decide +kernel, by decide +kernel⟩, List.mem_of_getElem? (i := 148) (by decide +kernel), List.mem_of_getElem? (i := 464) (by decide +kernel), List.mem_of_getElem? (i := 465) (by decide +kernel)⟩
theorem lw_p4 : lw_okq (⟨"SkyTurns$Reader", "fail", "(II)V"⟩, 9) := ⟨⟨by decide +kernel, by decide +kernel⟩, List.mem_of_getElem? (i := 148) (by decide +kernel), List.mem_of_getElem? (i := 468) (by decide +kernel), List.mem_of_getElem? (i := 469) (by decide +kernel)⟩
theorem lw_p5 : lw_okq (⟨"SkyTurns$Reader", "readNumber", "(II)I"⟩, 9) := ⟨⟨by decide +kernel, by decide +kernel⟩, List.mem_of_getElem? (i := 148) (by decide +kernel), List.mem_of_getElem? (i := 472) (by decide +kernel), List.mem_of_getElem? (i := 473) (by decide +kernel)⟩
theorem lw_p6 : lw_okq (⟨"SkyTurns$Reader", "isNext", "(I)Z"⟩, 9) := ⟨⟨by decide +kernel, by decide +kernel⟩, List.mem_of_getElem? (i := 148) (by decide +kernel), List.mem_of_getElem? (i := 483) (by decide +kernel), List.mem_of_getElem? (i := 484) (by decide +kernel)⟩
theorem lw_p7 : lw_okq (⟨"SkyTurns$Reader", "readEnd", "()V"⟩, 9) := ⟨⟨by decide +kernel, by decide +kernel⟩, List.mem_of_getElem? (i := 148) (by decide +kernel), List.mem_of_getElem? (i := 487) (by decide +kernel), List.mem_of_getElem? (i := 488) (by decide +kernel)⟩
theorem lw_p8 : lw_okq (⟨"SkyTurns$Reader", "readPerson", "()V"⟩, 9) := ⟨⟨by decide +kernel, by decide +kernel⟩, List.mem_of_getElem? (i := 148) (by decide +kernel), List.mem_of_getElem? (i := 491) (by decide +kernel), List.mem_of_getElem? (i := 492) (by decide +kernel)⟩
theorem lw_p9 : lw_okq (⟨"SkyTurns$Reader", "readFather", "()I"⟩, 9) := ⟨⟨by decide +kernel, by decide +kernel⟩, List.mem_of_getElem? (i := 148) (by decide +kernel), List.mem_of_getElem? (i := 495) (by decide +kernel), List.mem_of_getElem? (i := 496) (by decide +kernel)⟩
theorem lw_p10 : lw_okq (⟨"SkyTurns$Reader", "readGoodness", "()V"⟩, 9) := ⟨⟨by decide +kernel, by decide +kernel⟩, List.mem_of_getElem? (i := 148) (by decide +kernel), List.mem_of_getElem? (i := 507) (by decide +kernel), List.mem_of_getElem? (i := 508) (by decide +kernel)⟩
theorem lw_p11 : lw_okq (⟨"SkyTurns$Reader", "readFruit", "()V"⟩, 9) := ⟨⟨by decide +kernel, by decide +kernel⟩, List.mem_of_getElem? (i := 148) (by decide +kernel), List.mem_of_getElem? (i := 512) (by decide +kernel), List.mem_of_getElem? (i := 513) (by decide +kernel)⟩
theorem lw_p12 : lw_okq (⟨"SkyTurns", "letHourPass", "()V"⟩, 16) := ⟨⟨by decide +kernel, by decide +kernel⟩, List.mem_of_getElem? (i := 17) (by decide +kernel), List.mem_of_getElem? (i := 583) (by decide +kernel), List.mem_of_getElem? (i := 584) (by decide +kernel)⟩
theorem lw_p13 : lw_okq (⟨"SkyTurns$Sky", "bear", "(I)V"⟩, 11) := ⟨⟨by decide +kernel, by decide +kernel⟩, List.mem_of_getElem? (i := 93) (by decide +kernel), List.mem_of_getElem? (i := 618) (by decide +kernel), List.mem_of_getElem? (i := 619) (by decide +kernel)⟩
theorem lw_p14 : lw_okq (⟨"SkyTurns$Sky", "rest", "(I)V"⟩, 11) := ⟨⟨by decide +kernel, by decide +kernel⟩, List.mem_of_getElem? (i := 93) (by decide +kernel), List.mem_of_getElem? (i := 622) (by decide +kernel), List.mem_of_getElem? (i := 623) (by decide +kernel)⟩
theorem lw_p15 : lw_okq (⟨"SkyTurns", "passByDraw", "()V"⟩, 16) := ⟨⟨by decide +kernel, by decide +kernel⟩, List.mem_of_getElem? (i := 17) (by decide +kernel), List.mem_of_getElem? (i := 678) (by decide +kernel), List.mem_of_getElem? (i := 679) (by decide +kernel)⟩
def lw_privs_1 : List (MethodName × Nat) := [(⟨"SkyTurns$Reader", "hasMore", "()Z"⟩, 9), (⟨"SkyTurns$Reader", "skipBlanks", "()V"⟩, 9), (⟨"SkyTurns$Reader", "readClause", "()V"⟩, 9), (⟨"SkyTurns$Reader", "readWeights", "()V"⟩, 9), (⟨"SkyTurns$Reader", "fail", "(II)V"⟩, 9), (⟨"SkyTurns$Reader", "readNumber", "(II)I"⟩, 9), (⟨"SkyTurns$Reader", "isNext", "(I)Z"⟩, 9), (⟨"SkyTurns$Reader", "readEnd", "()V"⟩, 9), (⟨"SkyTurns$Reader", "readPerson", "()V"⟩, 9), (⟨"SkyTurns$Reader", "readFather", "()I"⟩, 9), (⟨"SkyTurns$Reader", "readGoodness", "()V"⟩, 9), (⟨"SkyTurns$Reader", "readFruit", "()V"⟩, 9), (⟨"SkyTurns", "letHourPass", "()V"⟩, 16), (⟨"SkyTurns$Sky", "bear", "(I)V"⟩, 11), (⟨"SkyTurns$Sky", "rest", "(I)V"⟩, 11), (⟨"SkyTurns", "passByDraw", "()V"⟩, 16)]
theorem lw_r1 : ∀ q ∈ lw_privs_1, lw_okq q := List.forall_mem_cons.mpr ⟨lw_p0, List.forall_mem_cons.mpr ⟨lw_p1, List.forall_mem_cons.mpr ⟨lw_p2, List.forall_mem_cons.mpr ⟨lw_p3, List.forall_mem_cons.mpr ⟨lw_p4, List.forall_mem_cons.mpr ⟨lw_p5, List.forall_mem_cons.mpr ⟨lw_p6, List.forall_mem_cons.mpr ⟨lw_p7, List.forall_mem_cons.mpr ⟨lw_p8, List.forall_mem_cons.mpr ⟨lw_p9, List.forall_mem_cons.mpr ⟨lw_p10, List.forall_mem_cons.mpr ⟨lw_p11, List.forall_mem_cons.mpr ⟨lw_p12, List.forall_mem_cons.mpr ⟨lw_p13, List.forall_mem_cons.mpr ⟨lw_p14, List.forall_mem_cons.mpr ⟨lw_p15, fun _ h => absurd h List.not_mem_nil⟩⟩⟩⟩⟩⟩⟩⟩⟩⟩⟩⟩⟩⟩⟩⟩
theorem lw_p16 : lw_okq (⟨"SkyTurns", "draw", "(I)I"⟩, 16) := ⟨⟨by decide +kernel, by decide +kernel⟩, List.mem_of_getElem? (i := 17) (by decide +kernel), List.mem_of_getElem? (i := 682) (by decide +kernel), List.mem_of_getElem? (i := 683) (by decide +kernel)⟩
theorem lw_p17 : lw_okq (⟨"SkyTurns$ShiftRows", "isFound", "()Z"⟩, 9) := ⟨⟨by decide +kernel, by decide +kernel⟩, List.mem_of_getElem? (i := 207) (by decide +kernel), List.mem_of_getElem? (i := 753) (by decide +kernel), List.mem_of_getElem? (i := 754) (by decide +kernel)⟩
theorem lw_p18 : lw_okq (⟨"SkyTurns$Chain", "countSteps", "(I)V"⟩, 6) := ⟨⟨by decide +kernel, by decide +kernel⟩, List.mem_of_getElem? (i := 287) (by decide +kernel), List.mem_of_getElem? (i := 783) (by decide +kernel), List.mem_of_getElem? (i := 784) (by decide +kernel)⟩
theorem lw_p19 : lw_okq (⟨"SkyTurns$Chain", "leadsOn", "(II)Z"⟩, 6) := ⟨⟨by decide +kernel, by decide +kernel⟩, List.mem_of_getElem? (i := 287) (by decide +kernel), List.mem_of_getElem? (i := 787) (by decide +kernel), List.mem_of_getElem? (i := 788) (by decide +kernel)⟩
theorem lw_p20 : lw_okq (⟨"SkyTurns$Chain", "isStep", "(II)Z"⟩, 6) := ⟨⟨by decide +kernel, by decide +kernel⟩, List.mem_of_getElem? (i := 287) (by decide +kernel), List.mem_of_getElem? (i := 791) (by decide +kernel), List.mem_of_getElem? (i := 792) (by decide +kernel)⟩
theorem lw_p21 : lw_okq (⟨"SkyTurns$Chain", "nextOf", "(I)I"⟩, 6) := ⟨⟨by decide +kernel, by decide +kernel⟩, List.mem_of_getElem? (i := 287) (by decide +kernel), List.mem_of_getElem? (i := 796) (by decide +kernel), List.mem_of_getElem? (i := 797) (by decide +kernel)⟩
theorem lw_p22 : lw_okq (⟨"SkyTurns$Debts", "isOfLine", "(II)Z"⟩, 3) := ⟨⟨by decide +kernel, by decide +kernel⟩, List.mem_of_getElem? (i := 333) (by decide +kernel), List.mem_of_getElem? (i := 834) (by decide +kernel), List.mem_of_getElem? (i := 835) (by decide +kernel)⟩
theorem lw_p23 : lw_okq (⟨"SkyTurns$Game", "setOdds", "(II)V"⟩, 8) := ⟨⟨by decide +kernel, by decide +kernel⟩, List.mem_of_getElem? (i := 349) (by decide +kernel), List.mem_of_getElem? (i := 850) (by decide +kernel), List.mem_of_getElem? (i := 851) (by decide +kernel)⟩
theorem lw_p24 : lw_okq (⟨"SkyTurns$Game", "valueOf", "(II)I"⟩, 8) := ⟨⟨by decide +kernel, by decide +kernel⟩, List.mem_of_getElem? (i := 349) (by decide +kernel), List.mem_of_getElem? (i := 854) (by decide +kernel), List.mem_of_getElem? (i := 855) (by decide +kernel)⟩
theorem lw_p25 : lw_okq (⟨"SkyTurns$Game", "tryEvenOdds", "(II)V"⟩, 8) := ⟨⟨by decide +kernel, by decide +kernel⟩, List.mem_of_getElem? (i := 349) (by decide +kernel), List.mem_of_getElem? (i := 859) (by decide +kernel), List.mem_of_getElem? (i := 860) (by decide +kernel)⟩
theorem lw_p26 : lw_okq (⟨"SkyTurns$Game", "tryOdds", "(II)V"⟩, 8) := ⟨⟨by decide +kernel, by decide +kernel⟩, List.mem_of_getElem? (i := 349) (by decide +kernel), List.mem_of_getElem? (i := 864) (by decide +kernel), List.mem_of_getElem? (i := 865) (by decide +kernel)⟩
theorem lw_p27 : lw_okq (⟨"SkyTurns", "harmBehind", "(II)I"⟩, 16) := ⟨⟨by decide +kernel, by decide +kernel⟩, List.mem_of_getElem? (i := 17) (by decide +kernel), List.mem_of_getElem? (i := 876) (by decide +kernel), List.mem_of_getElem? (i := 877) (by decide +kernel)⟩
theorem lw_p28 : lw_okq (⟨"SkyTurnsModel", "begin", "()V"⟩, 35) := ⟨⟨by decide +kernel, by decide +kernel⟩, List.mem_of_getElem? (i := 945) (by decide +kernel), List.mem_of_getElem? (i := 951) (by decide +kernel), List.mem_of_getElem? (i := 952) (by decide +kernel)⟩
theorem lw_p29 : lw_okq (⟨"SkyTurnsModel", "isRead", "()Z"⟩, 35) := ⟨⟨by decide +kernel, by decide +kernel⟩, List.mem_of_getElem? (i := 945) (by decide +kernel), List.mem_of_getElem? (i := 1074) (by decide +kernel), List.mem_of_getElem? (i := 1075) (by decide +kernel)⟩
theorem lw_p30 : lw_okq (⟨"SkyTurnsModel", "nextToken", "()V"⟩, 35) := ⟨⟨by decide +kernel, by decide +kernel⟩, List.mem_of_getElem? (i := 945) (by decide +kernel), List.mem_of_getElem? (i := 1078) (by decide +kernel), List.mem_of_getElem? (i := 1079) (by decide +kernel)⟩
theorem lw_p31 : lw_okq (⟨"SkyTurnsModel", "isWeightLine", "()Z"⟩, 35) := ⟨⟨by decide +kernel, by decide +kernel⟩, List.mem_of_getElem? (i := 945) (by decide +kernel), List.mem_of_getElem? (i := 1082) (by decide +kernel), List.mem_of_getElem? (i := 1083) (by decide +kernel)⟩
def lw_privs_2 : List (MethodName × Nat) := [(⟨"SkyTurns", "draw", "(I)I"⟩, 16), (⟨"SkyTurns$ShiftRows", "isFound", "()Z"⟩, 9), (⟨"SkyTurns$Chain", "countSteps", "(I)V"⟩, 6), (⟨"SkyTurns$Chain", "leadsOn", "(II)Z"⟩, 6), (⟨"SkyTurns$Chain", "isStep", "(II)Z"⟩, 6), (⟨"SkyTurns$Chain", "nextOf", "(I)I"⟩, 6), (⟨"SkyTurns$Debts", "isOfLine", "(II)Z"⟩, 3), (⟨"SkyTurns$Game", "setOdds", "(II)V"⟩, 8), (⟨"SkyTurns$Game", "valueOf", "(II)I"⟩, 8), (⟨"SkyTurns$Game", "tryEvenOdds", "(II)V"⟩, 8), (⟨"SkyTurns$Game", "tryOdds", "(II)V"⟩, 8), (⟨"SkyTurns", "harmBehind", "(II)I"⟩, 16), (⟨"SkyTurnsModel", "begin", "()V"⟩, 35), (⟨"SkyTurnsModel", "isRead", "()Z"⟩, 35), (⟨"SkyTurnsModel", "nextToken", "()V"⟩, 35), (⟨"SkyTurnsModel", "isWeightLine", "()Z"⟩, 35)]
theorem lw_r2 : ∀ q ∈ lw_privs_2, lw_okq q := List.forall_mem_cons.mpr ⟨lw_p16, List.forall_mem_cons.mpr ⟨lw_p17, List.forall_mem_cons.mpr ⟨lw_p18, List.forall_mem_cons.mpr ⟨lw_p19, List.forall_mem_cons.mpr ⟨lw_p20, List.forall_mem_cons.mpr ⟨lw_p21, List.forall_mem_cons.mpr ⟨lw_p22, List.forall_mem_cons.mpr ⟨lw_p23, List.forall_mem_cons.mpr ⟨lw_p24, List.forall_mem_cons.mpr ⟨lw_p25, List.forall_mem_cons.mpr ⟨lw_p26, List.forall_mem_cons.mpr ⟨lw_p27, List.forall_mem_cons.mpr ⟨lw_p28, List.forall_mem_cons.mpr ⟨lw_p29, List.forall_mem_cons.mpr ⟨lw_p30, List.forall_mem_cons.mpr ⟨lw_p31, fun _ h => absurd h List.not_mem_nil⟩⟩⟩⟩⟩⟩⟩⟩⟩⟩⟩⟩⟩⟩⟩⟩
theorem lw_p32 : lw_okq (⟨"SkyTurnsModel", "fails", "(I)Z"⟩, 35) := ⟨⟨by decide +kernel, by decide +kernel⟩, List.mem_of_getElem? (i := 945) (by decide +kernel), List.mem_of_getElem? (i := 1086) (by decide +kernel), List.mem_of_getElem? (i := 1087) (by decide +kernel)⟩
theorem lw_p33 : lw_okq (⟨"SkyTurnsModel", "isNumber", "(II)Z"⟩, 35) := ⟨⟨by decide +kernel, by decide +kernel⟩, List.mem_of_getElem? (i := 945) (by decide +kernel), List.mem_of_getElem? (i := 1090) (by decide +kernel), List.mem_of_getElem? (i := 1091) (by decide +kernel)⟩
theorem lw_p34 : lw_okq (⟨"SkyTurnsModel", "isPersonLine", "()Z"⟩, 35) := ⟨⟨by decide +kernel, by decide +kernel⟩, List.mem_of_getElem? (i := 945) (by decide +kernel), List.mem_of_getElem? (i := 1094) (by decide +kernel), List.mem_of_getElem? (i := 1095) (by decide +kernel)⟩
theorem lw_p35 : lw_okq (⟨"SkyTurnsModel", "isEnd", "()Z"⟩, 35) := ⟨⟨by decide +kernel, by decide +kernel⟩, List.mem_of_getElem? (i := 945) (by decide +kernel), List.mem_of_getElem? (i := 1098) (by decide +kernel), List.mem_of_getElem? (i := 1099) (by decide +kernel)⟩
theorem lw_p36 : lw_okq (⟨"SkyTurnsModel", "isWordLine", "()Z"⟩, 35) := ⟨⟨by decide +kernel, by decide +kernel⟩, List.mem_of_getElem? (i := 945) (by decide +kernel), List.mem_of_getElem? (i := 1102) (by decide +kernel), List.mem_of_getElem? (i := 1103) (by decide +kernel)⟩
theorem lw_p37 : lw_okq (⟨"SkyTurnsModel", "isFruitLine", "()Z"⟩, 35) := ⟨⟨by decide +kernel, by decide +kernel⟩, List.mem_of_getElem? (i := 945) (by decide +kernel), List.mem_of_getElem? (i := 1106) (by decide +kernel), List.mem_of_getElem? (i := 1107) (by decide +kernel)⟩
theorem lw_p38 : lw_okq (⟨"SkyTurnsModel", "weightOf", "([I)I"⟩, 35) := ⟨⟨by decide +kernel, by decide +kernel⟩, List.mem_of_getElem? (i := 945) (by decide +kernel), List.mem_of_getElem? (i := 1118) (by decide +kernel), List.mem_of_getElem? (i := 1119) (by decide +kernel)⟩
theorem lw_p39 : lw_okq (⟨"SkyTurnsModel", "forceOfAll", "([I)I"⟩, 35) := ⟨⟨by decide +kernel, by decide +kernel⟩, List.mem_of_getElem? (i := 945) (by decide +kernel), List.mem_of_getElem? (i := 1122) (by decide +kernel), List.mem_of_getElem? (i := 1123) (by decide +kernel)⟩
theorem lw_p40 : lw_okq (⟨"SkyTurnsModel", "forceOf", "([II)I"⟩, 35) := ⟨⟨by decide +kernel, by decide +kernel⟩, List.mem_of_getElem? (i := 945) (by decide +kernel), List.mem_of_getElem? (i := 1126) (by decide +kernel), List.mem_of_getElem? (i := 1127) (by decide +kernel)⟩
theorem lw_p41 : lw_okq (⟨"SkyTurnsModel", "kindOf", "(I)I"⟩, 35) := ⟨⟨by decide +kernel, by decide +kernel⟩, List.mem_of_getElem? (i := 945) (by decide +kernel), List.mem_of_getElem? (i := 1130) (by decide +kernel), List.mem_of_getElem? (i := 1131) (by decide +kernel)⟩
theorem lw_p42 : lw_okq (⟨"SkyTurnsModel", "isOne", "(I)Z"⟩, 35) := ⟨⟨by decide +kernel, by decide +kernel⟩, List.mem_of_getElem? (i := 945) (by decide +kernel), List.mem_of_getElem? (i := 1138) (by decide +kernel), List.mem_of_getElem? (i := 1139) (by decide +kernel)⟩
theorem lw_p43 : lw_okq (⟨"SkyTurnsModel", "isHere", "()Z"⟩, 35) := ⟨⟨by decide +kernel, by decide +kernel⟩, List.mem_of_getElem? (i := 945) (by decide +kernel), List.mem_of_getElem? (i := 1151) (by decide +kernel), List.mem_of_getElem? (i := 1152) (by decide +kernel)⟩
theorem lw_p44 : lw_okq (⟨"SkyTurnsModel", "note", "()V"⟩, 35) := ⟨⟨by decide +kernel, by decide +kernel⟩, List.mem_of_getElem? (i := 945) (by decide +kernel), List.mem_of_getElem? (i := 1156) (by decide +kernel), List.mem_of_getElem? (i := 1157) (by decide +kernel)⟩
theorem lw_p45 : lw_okq (⟨"SkyTurnsModel", "pass", "([II)V"⟩, 35) := ⟨⟨by decide +kernel, by decide +kernel⟩, List.mem_of_getElem? (i := 945) (by decide +kernel), List.mem_of_getElem? (i := 1163) (by decide +kernel), List.mem_of_getElem? (i := 1164) (by decide +kernel)⟩
theorem lw_p46 : lw_okq (⟨"SkyTurnsModel", "offers", "([III)Z"⟩, 35) := ⟨⟨by decide +kernel, by decide +kernel⟩, List.mem_of_getElem? (i := 945) (by decide +kernel), List.mem_of_getElem? (i := 1175) (by decide +kernel), List.mem_of_getElem? (i := 1176) (by decide +kernel)⟩
theorem lw_p47 : lw_okq (⟨"SkyTurnsModel", "falls", "([III)Z"⟩, 35) := ⟨⟨by decide +kernel, by decide +kernel⟩, List.mem_of_getElem? (i := 945) (by decide +kernel), List.mem_of_getElem? (i := 1179) (by decide +kernel), List.mem_of_getElem? (i := 1180) (by decide +kernel)⟩
def lw_privs_3 : List (MethodName × Nat) := [(⟨"SkyTurnsModel", "fails", "(I)Z"⟩, 35), (⟨"SkyTurnsModel", "isNumber", "(II)Z"⟩, 35), (⟨"SkyTurnsModel", "isPersonLine", "()Z"⟩, 35), (⟨"SkyTurnsModel", "isEnd", "()Z"⟩, 35), (⟨"SkyTurnsModel", "isWordLine", "()Z"⟩, 35), (⟨"SkyTurnsModel", "isFruitLine", "()Z"⟩, 35), (⟨"SkyTurnsModel", "weightOf", "([I)I"⟩, 35), (⟨"SkyTurnsModel", "forceOfAll", "([I)I"⟩, 35), (⟨"SkyTurnsModel", "forceOf", "([II)I"⟩, 35), (⟨"SkyTurnsModel", "kindOf", "(I)I"⟩, 35), (⟨"SkyTurnsModel", "isOne", "(I)Z"⟩, 35), (⟨"SkyTurnsModel", "isHere", "()Z"⟩, 35), (⟨"SkyTurnsModel", "note", "()V"⟩, 35), (⟨"SkyTurnsModel", "pass", "([II)V"⟩, 35), (⟨"SkyTurnsModel", "offers", "([III)Z"⟩, 35), (⟨"SkyTurnsModel", "falls", "([III)Z"⟩, 35)]
theorem lw_r3 : ∀ q ∈ lw_privs_3, lw_okq q := List.forall_mem_cons.mpr ⟨lw_p32, List.forall_mem_cons.mpr ⟨lw_p33, List.forall_mem_cons.mpr ⟨lw_p34, List.forall_mem_cons.mpr ⟨lw_p35, List.forall_mem_cons.mpr ⟨lw_p36, List.forall_mem_cons.mpr ⟨lw_p37, List.forall_mem_cons.mpr ⟨lw_p38, List.forall_mem_cons.mpr ⟨lw_p39, List.forall_mem_cons.mpr ⟨lw_p40, List.forall_mem_cons.mpr ⟨lw_p41, List.forall_mem_cons.mpr ⟨lw_p42, List.forall_mem_cons.mpr ⟨lw_p43, List.forall_mem_cons.mpr ⟨lw_p44, List.forall_mem_cons.mpr ⟨lw_p45, List.forall_mem_cons.mpr ⟨lw_p46, List.forall_mem_cons.mpr ⟨lw_p47, fun _ h => absurd h List.not_mem_nil⟩⟩⟩⟩⟩⟩⟩⟩⟩⟩⟩⟩⟩⟩⟩⟩
theorem lw_p48 : lw_okq (⟨"SkyTurnsModel", "isSonOfWhoHolds", "(I)Z"⟩, 35) := ⟨⟨by decide +kernel, by decide +kernel⟩, List.mem_of_getElem? (i := 945) (by decide +kernel), List.mem_of_getElem? (i := 1190) (by decide +kernel), List.mem_of_getElem? (i := 1191) (by decide +kernel)⟩
theorem lw_p49 : lw_okq (⟨"SkyTurnsModel", "fatherOf", "(I)I"⟩, 35) := ⟨⟨by decide +kernel, by decide +kernel⟩, List.mem_of_getElem? (i := 945) (by decide +kernel), List.mem_of_getElem? (i := 1194) (by decide +kernel), List.mem_of_getElem? (i := 1195) (by decide +kernel)⟩
theorem lw_p50 : lw_okq (⟨"SkyTurnsModel", "takesIt", "(I)V"⟩, 35) := ⟨⟨by decide +kernel, by decide +kernel⟩, List.mem_of_getElem? (i := 945) (by decide +kernel), List.mem_of_getElem? (i := 1198) (by decide +kernel), List.mem_of_getElem? (i := 1199) (by decide +kernel)⟩
theorem lw_p51 : lw_okq (⟨"SkyTurnsModel", "areLevel", "(II)Z"⟩, 35) := ⟨⟨by decide +kernel, by decide +kernel⟩, List.mem_of_getElem? (i := 945) (by decide +kernel), List.mem_of_getElem? (i := 1206) (by decide +kernel), List.mem_of_getElem? (i := 1207) (by decide +kernel)⟩
theorem lw_p52 : lw_okq (⟨"SkyTurnsModel", "draw", "(I)I"⟩, 35) := ⟨⟨by decide +kernel, by decide +kernel⟩, List.mem_of_getElem? (i := 945) (by decide +kernel), List.mem_of_getElem? (i := 1218) (by decide +kernel), List.mem_of_getElem? (i := 1219) (by decide +kernel)⟩
theorem lw_p53 : lw_okq (⟨"SkyTurnsModel", "lay", "(II)V"⟩, 35) := ⟨⟨by decide +kernel, by decide +kernel⟩, List.mem_of_getElem? (i := 945) (by decide +kernel), List.mem_of_getElem? (i := 1237) (by decide +kernel), List.mem_of_getElem? (i := 1238) (by decide +kernel)⟩
theorem lw_p54 : lw_okq (⟨"SkyTurnsModel", "mostOf", "(I)I"⟩, 35) := ⟨⟨by decide +kernel, by decide +kernel⟩, List.mem_of_getElem? (i := 945) (by decide +kernel), List.mem_of_getElem? (i := 1241) (by decide +kernel), List.mem_of_getElem? (i := 1242) (by decide +kernel)⟩
theorem lw_p55 : lw_okq (⟨"SkyTurnsModel", "goesFor", "(II)I"⟩, 35) := ⟨⟨by decide +kernel, by decide +kernel⟩, List.mem_of_getElem? (i := 945) (by decide +kernel), List.mem_of_getElem? (i := 1245) (by decide +kernel), List.mem_of_getElem? (i := 1246) (by decide +kernel)⟩
theorem lw_p56 : lw_okq (⟨"SkyTurnsModel", "layFar", "(I)V"⟩, 35) := ⟨⟨by decide +kernel, by decide +kernel⟩, List.mem_of_getElem? (i := 945) (by decide +kernel), List.mem_of_getElem? (i := 1257) (by decide +kernel), List.mem_of_getElem? (i := 1258) (by decide +kernel)⟩
theorem lw_p57 : lw_okq (⟨"SkyTurnsModel", "isNext", "(II)Z"⟩, 35) := ⟨⟨by decide +kernel, by decide +kernel⟩, List.mem_of_getElem? (i := 945) (by decide +kernel), List.mem_of_getElem? (i := 1261) (by decide +kernel), List.mem_of_getElem? (i := 1262) (by decide +kernel)⟩
theorem lw_p58 : lw_okq (⟨"SkyTurnsModel", "fallsNow", "(I)Z"⟩, 35) := ⟨⟨by decide +kernel, by decide +kernel⟩, List.mem_of_getElem? (i := 945) (by decide +kernel), List.mem_of_getElem? (i := 1265) (by decide +kernel), List.mem_of_getElem? (i := 1266) (by decide +kernel)⟩
theorem lw_p59 : lw_okq (⟨"SkyTurnsModel", "owesOf", "(I)I"⟩, 35) := ⟨⟨by decide +kernel, by decide +kernel⟩, List.mem_of_getElem? (i := 945) (by decide +kernel), List.mem_of_getElem? (i := 1277) (by decide +kernel), List.mem_of_getElem? (i := 1278) (by decide +kernel)⟩
theorem lw_p60 : lw_okq (⟨"SkyTurnsModel", "isAsSeen", "()Z"⟩, 35) := ⟨⟨by decide +kernel, by decide +kernel⟩, List.mem_of_getElem? (i := 945) (by decide +kernel), List.mem_of_getElem? (i := 1305) (by decide +kernel), List.mem_of_getElem? (i := 1306) (by decide +kernel)⟩
def lw_privs_4 : List (MethodName × Nat) := [(⟨"SkyTurnsModel", "isSonOfWhoHolds", "(I)Z"⟩, 35), (⟨"SkyTurnsModel", "fatherOf", "(I)I"⟩, 35), (⟨"SkyTurnsModel", "takesIt", "(I)V"⟩, 35), (⟨"SkyTurnsModel", "areLevel", "(II)Z"⟩, 35), (⟨"SkyTurnsModel", "draw", "(I)I"⟩, 35), (⟨"SkyTurnsModel", "lay", "(II)V"⟩, 35), (⟨"SkyTurnsModel", "mostOf", "(I)I"⟩, 35), (⟨"SkyTurnsModel", "goesFor", "(II)I"⟩, 35), (⟨"SkyTurnsModel", "layFar", "(I)V"⟩, 35), (⟨"SkyTurnsModel", "isNext", "(II)Z"⟩, 35), (⟨"SkyTurnsModel", "fallsNow", "(I)Z"⟩, 35), (⟨"SkyTurnsModel", "owesOf", "(I)I"⟩, 35), (⟨"SkyTurnsModel", "isAsSeen", "()Z"⟩, 35)]
theorem lw_r4 : ∀ q ∈ lw_privs_4, lw_okq q := List.forall_mem_cons.mpr ⟨lw_p48, List.forall_mem_cons.mpr ⟨lw_p49, List.forall_mem_cons.mpr ⟨lw_p50, List.forall_mem_cons.mpr ⟨lw_p51, List.forall_mem_cons.mpr ⟨lw_p52, List.forall_mem_cons.mpr ⟨lw_p53, List.forall_mem_cons.mpr ⟨lw_p54, List.forall_mem_cons.mpr ⟨lw_p55, List.forall_mem_cons.mpr ⟨lw_p56, List.forall_mem_cons.mpr ⟨lw_p57, List.forall_mem_cons.mpr ⟨lw_p58, List.forall_mem_cons.mpr ⟨lw_p59, List.forall_mem_cons.mpr ⟨lw_p60, fun _ h => absurd h List.not_mem_nil⟩⟩⟩⟩⟩⟩⟩⟩⟩⟩⟩⟩⟩
def lw_privs : List (MethodName × Nat) := lw_privs_1 ++ (lw_privs_2 ++ (lw_privs_3 ++ (lw_privs_4)))
def lw_tbl : List Cond := k2_sels lw_privs ++ tables_1
theorem lw_privs_ok : ∀ q ∈ lw_privs, lw_okq q := by
  show ∀ q ∈ lw_privs_1 ++ (lw_privs_2 ++ (lw_privs_3 ++ (lw_privs_4))), lw_okq q
  exact List.forall_mem_append.mpr ⟨lw_r1, List.forall_mem_append.mpr ⟨lw_r2, List.forall_mem_append.mpr ⟨lw_r3, lw_r4⟩⟩⟩
-- ===== end of PART A; then your names; then what follows =====
end
section
def RX0 : String := "SkyTurns$Book"
def TX0 : u_T := fun k => match k with
  | 0 => ("SkyTurns$Book", "persons", "[I", true)
  | 1 => ("SkyTurns$Book", "wordsTold", "[I", true)
  | 2 => ("SkyTurns$Book", "taken", "[Z", true)
  | _ => ("SkyTurns$Book", "lines", "I", false)
def tyX0 : Nat → FieldType := fun k => match k with
  | 0 => .array .int
  | 1 => .array .int
  | 2 => .array .boolean
  | _ => .int
abbrev wsX00 : List Cond := u_ws RX0 TX0 4
theorem nmX0 : ∀ a, a < 4 → ∀ b, b < 4 → a ≠ b → (TX0 a).2.1 ≠ (TX0 b).2.1 := by decide +kernel
theorem tyX0_ok : ∀ k, k < 4 → parseFieldDescriptor (TX0 k).2.2.1 = some (tyX0 k) := by decide +kernel
abbrev cX0_init : ByteArray := prog_2_method_1_code
def yX0_init : MethodName := ⟨RX0, "<init>", "()V"⟩
abbrev cX0_clear : ByteArray := prog_2_method_2_code
def yX0_clear : MethodName := ⟨RX0, "clear", "()V"⟩
abbrev cX0_add : ByteArray := prog_2_method_3_code
def yX0_add : MethodName := ⟨RX0, "add", "(IIZ)I"⟩
abbrev cX0_firstWrong : ByteArray := prog_2_method_4_code
def yX0_firstWrong : MethodName := ⟨RX0, "firstWrong", "(LSkyTurns$Sky;)I"⟩
def RX1 : String := "SkyTurns$Chain"
def TX1 : u_T := fun k => match k with
  | 0 => ("SkyTurns$Chain", "told", "LSkyTurns$Edge;", true)
  | 1 => ("SkyTurns$Chain", "falls", "[Z", true)
  | 2 => ("SkyTurns$Chain", "starts", "[Z", true)
  | 3 => ("SkyTurns$Chain", "stepsLeft", "[I", true)
  | 4 => ("SkyTurns$Chain", "way", "[I", true)
  | _ => ("SkyTurns$Chain", "length", "I", false)
def tyX1 : Nat → FieldType := fun k => match k with
  | 0 => .object "SkyTurns$Edge"
  | 1 => .array .boolean
  | 2 => .array .boolean
  | 3 => .array .int
  | 4 => .array .int
  | _ => .int
abbrev wsX10 : List Cond := u_ws RX1 TX1 6
theorem nmX1 : ∀ a, a < 6 → ∀ b, b < 6 → a ≠ b → (TX1 a).2.1 ≠ (TX1 b).2.1 := by decide +kernel
theorem tyX1_ok : ∀ k, k < 6 → parseFieldDescriptor (TX1 k).2.2.1 = some (tyX1 k) := by decide +kernel
abbrev cX1_init : ByteArray := prog_3_method_1_code
def yX1_init : MethodName := ⟨RX1, "<init>", "(LSkyTurns$Edge;)V"⟩
abbrev cX1_find : ByteArray := prog_3_method_2_code
def yX1_find : MethodName := ⟨RX1, "find", "(LSkyTurns$Sky;I)V"⟩
abbrev cX1_holderAt : ByteArray := prog_3_method_3_code
def yX1_holderAt : MethodName := ⟨RX1, "holderAt", "(I)I"⟩
abbrev cX1_countSteps : ByteArray := prog_3_method_4_code
def yX1_countSteps : MethodName := ⟨RX1, "countSteps", "(I)V"⟩
abbrev cX1_leadsOn : ByteArray := prog_3_method_5_code
def yX1_leadsOn : MethodName := ⟨RX1, "leadsOn", "(II)Z"⟩
abbrev cX1_nextOf : ByteArray := prog_3_method_6_code
def yX1_nextOf : MethodName := ⟨RX1, "nextOf", "(I)I"⟩
abbrev cX1_isStep : ByteArray := prog_3_method_7_code
def yX1_isStep : MethodName := ⟨RX1, "isStep", "(II)Z"⟩
def RX2 : String := "SkyTurns$Debts"
def TX2 : u_T := fun k => match k with
  | 0 => ("SkyTurns$Debts", "told", "LSkyTurns$Edge;", true)
  | 1 => ("SkyTurns$Debts", "sums", "[I", true)
  | _ => ("SkyTurns$Debts", "groups", "[I", true)
def tyX2 : Nat → FieldType := fun k => match k with
  | 0 => .object "SkyTurns$Edge"
  | 1 => .array .int
  | _ => .array .int
abbrev wsX20 : List Cond := u_ws RX2 TX2 3
theorem nmX2 : ∀ a, a < 3 → ∀ b, b < 3 → a ≠ b → (TX2 a).2.1 ≠ (TX2 b).2.1 := by decide +kernel
theorem tyX2_ok : ∀ k, k < 3 → parseFieldDescriptor (TX2 k).2.2.1 = some (tyX2 k) := by decide +kernel
abbrev cX2_init : ByteArray := prog_4_method_1_code
def yX2_init : MethodName := ⟨RX2, "<init>", "(LSkyTurns$Edge;)V"⟩
abbrev cX2_ofOne : ByteArray := prog_4_method_2_code
def yX2_ofOne : MethodName := ⟨RX2, "ofOne", "(LSkyTurns$Sky;I)I"⟩
abbrev cX2_ofLine : ByteArray := prog_4_method_3_code
def yX2_ofLine : MethodName := ⟨RX2, "ofLine", "(LSkyTurns$Sky;I)I"⟩
abbrev cX2_isOfLine : ByteArray := prog_4_method_4_code
def yX2_isOfLine : MethodName := ⟨RX2, "isOfLine", "(II)Z"⟩
abbrev cX2_fewestPayments : ByteArray := prog_4_method_5_code
def yX2_fewestPayments : MethodName := ⟨RX2, "fewestPayments", "(LSkyTurns$Sky;)I"⟩
def RX3 : String := "SkyTurns$Edge"
def TX3 : u_T := fun k => match k with
  | 0 => ("SkyTurns$Edge", "weights", "[I", true)
  | 1 => ("SkyTurns$Edge", "kind", "[I", true)
  | 2 => ("SkyTurns$Edge", "strength", "[I", true)
  | 3 => ("SkyTurns$Edge", "height", "[I", true)
  | 4 => ("SkyTurns$Edge", "wits", "[I", true)
  | 5 => ("SkyTurns$Edge", "father", "[I", true)
  | 6 => ("SkyTurns$Edge", "goodness", "[I", true)
  | 7 => ("SkyTurns$Edge", "weightCount", "I", false)
  | 8 => ("SkyTurns$Edge", "people", "I", false)
  | _ => ("SkyTurns$Edge", "firstFruit", "I", false)
def tyX3 : Nat → FieldType := fun k => match k with
  | 0 => .array .int
  | 1 => .array .int
  | 2 => .array .int
  | 3 => .array .int
  | 4 => .array .int
  | 5 => .array .int
  | 6 => .array .int
  | 7 => .int
  | 8 => .int
  | _ => .int
abbrev wsX30 : List Cond := u_ws RX3 TX3 10
theorem nmX3 : ∀ a, a < 10 → ∀ b, b < 10 → a ≠ b → (TX3 a).2.1 ≠ (TX3 b).2.1 := by decide +kernel
theorem tyX3_ok : ∀ k, k < 10 → parseFieldDescriptor (TX3 k).2.2.1 = some (tyX3 k) := by decide +kernel
abbrev cX3_init : ByteArray := prog_5_method_1_code
def yX3_init : MethodName := ⟨RX3, "<init>", "()V"⟩
abbrev cX3_clear : ByteArray := prog_5_method_2_code
def yX3_clear : MethodName := ⟨RX3, "clear", "()V"⟩
abbrev cX3_copyFrom : ByteArray := prog_5_method_3_code
def yX3_copyFrom : MethodName := ⟨RX3, "copyFrom", "(LSkyTurns$Edge;)V"⟩
abbrev cX3_setGoodness : ByteArray := prog_5_method_4_code
def yX3_setGoodness : MethodName := ⟨RX3, "setGoodness", "(III)V"⟩
abbrev cX3_addWeight : ByteArray := prog_5_method_5_code
def yX3_addWeight : MethodName := ⟨RX3, "addWeight", "(I)V"⟩
abbrev cX3_addPerson : ByteArray := prog_5_method_6_code
def yX3_addPerson : MethodName := ⟨RX3, "addPerson", "(IIIII)V"⟩
abbrev cX3_isPerson : ByteArray := prog_5_method_7_code
def yX3_isPerson : MethodName := ⟨RX3, "isPerson", "(I)Z"⟩
abbrev cX3_isWhole : ByteArray := prog_5_method_8_code
def yX3_isWhole : MethodName := ⟨RX3, "isWhole", "()Z"⟩
abbrev cX3_weightAt : ByteArray := prog_5_method_9_code
def yX3_weightAt : MethodName := ⟨RX3, "weightAt", "(I)I"⟩
abbrev cX3_areLevel : ByteArray := prog_5_method_10_code
def yX3_areLevel : MethodName := ⟨RX3, "areLevel", "(II)Z"⟩
abbrev cX3_isSon : ByteArray := prog_5_method_11_code
def yX3_isSon : MethodName := ⟨RX3, "isSon", "(II)Z"⟩
def RX4 : String := "SkyTurns$Game"
def TX4 : u_T := fun k => match k with
  | 0 => ("SkyTurns$Game", "said0Thought0", "I", false)
  | 1 => ("SkyTurns$Game", "said0Thought1", "I", false)
  | 2 => ("SkyTurns$Game", "said1Thought0", "I", false)
  | 3 => ("SkyTurns$Game", "said1Thought1", "I", false)
  | 4 => ("SkyTurns$Game", "valueAbove", "I", false)
  | 5 => ("SkyTurns$Game", "valueBelow", "I", false)
  | 6 => ("SkyTurns$Game", "oddsAbove", "I", false)
  | _ => ("SkyTurns$Game", "oddsBelow", "I", false)
def tyX4 : Nat → FieldType := fun k => match k with
  | 0 => .int
  | 1 => .int
  | 2 => .int
  | 3 => .int
  | 4 => .int
  | 5 => .int
  | 6 => .int
  | _ => .int
abbrev wsX40 : List Cond := u_ws RX4 TX4 8
theorem nmX4 : ∀ a, a < 8 → ∀ b, b < 8 → a ≠ b → (TX4 a).2.1 ≠ (TX4 b).2.1 := by decide +kernel
theorem tyX4_ok : ∀ k, k < 8 → parseFieldDescriptor (TX4 k).2.2.1 = some (tyX4 k) := by decide +kernel
abbrev cX4_init : ByteArray := prog_6_method_1_code
def yX4_init : MethodName := ⟨RX4, "<init>", "()V"⟩
abbrev cX4_solve : ByteArray := prog_6_method_2_code
def yX4_solve : MethodName := ⟨RX4, "solve", "(IIII)V"⟩
abbrev cX4_tryEvenOdds : ByteArray := prog_6_method_3_code
def yX4_tryEvenOdds : MethodName := ⟨RX4, "tryEvenOdds", "(II)V"⟩
abbrev cX4_tryOdds : ByteArray := prog_6_method_4_code
def yX4_tryOdds : MethodName := ⟨RX4, "tryOdds", "(II)V"⟩
abbrev cX4_setOdds : ByteArray := prog_6_method_5_code
def yX4_setOdds : MethodName := ⟨RX4, "setOdds", "(II)V"⟩
abbrev cX4_valueOf : ByteArray := prog_6_method_6_code
def yX4_valueOf : MethodName := ⟨RX4, "valueOf", "(II)I"⟩
abbrev cX4_greatestCommonPart : ByteArray := prog_6_method_7_code
def yX4_greatestCommonPart : MethodName := ⟨RX4, "greatestCommonPart", "(II)I"⟩
def RX5 : String := "SkyTurns$Past"
def TX5 : u_T := fun k => match k with
  | 0 => ("SkyTurns$Past", "skies", "[LSkyTurns$Sky;", true)
  | 1 => ("SkyTurns$Past", "count", "I", false)
  | _ => ("SkyTurns$Past", "next", "I", false)
def tyX5 : Nat → FieldType := fun k => match k with
  | 0 => .array (.object "SkyTurns$Sky")
  | 1 => .int
  | _ => .int
abbrev wsX50 : List Cond := u_ws RX5 TX5 3
theorem nmX5 : ∀ a, a < 3 → ∀ b, b < 3 → a ≠ b → (TX5 a).2.1 ≠ (TX5 b).2.1 := by decide +kernel
theorem tyX5_ok : ∀ k, k < 3 → parseFieldDescriptor (TX5 k).2.2.1 = some (tyX5 k) := by decide +kernel
abbrev cX5_init : ByteArray := prog_7_method_1_code
def yX5_init : MethodName := ⟨RX5, "<init>", "(LSkyTurns$Edge;)V"⟩
abbrev cX5_forget : ByteArray := prog_7_method_2_code
def yX5_forget : MethodName := ⟨RX5, "forget", "()V"⟩
abbrev cX5_add : ByteArray := prog_7_method_3_code
def yX5_add : MethodName := ⟨RX5, "add", "(LSkyTurns$Sky;)V"⟩
abbrev cX5_takeBack : ByteArray := prog_7_method_4_code
def yX5_takeBack : MethodName := ⟨RX5, "takeBack", "(LSkyTurns$Sky;I)V"⟩
def RX6 : String := "SkyTurns$Reader"
def TX6 : u_T := fun k => match k with
  | 0 => ("SkyTurns$Reader", "letters", "[I", true)
  | 1 => ("SkyTurns$Reader", "draft", "LSkyTurns$Edge;", true)
  | 2 => ("SkyTurns$Reader", "length", "I", false)
  | 3 => ("SkyTurns$Reader", "faultKind", "I", false)
  | 4 => ("SkyTurns$Reader", "faultAt", "I", false)
  | 5 => ("SkyTurns$Reader", "at", "I", false)
  | 6 => ("SkyTurns$Reader", "numberAt", "I", false)
  | 7 => ("SkyTurns$Reader", "goodnessTold", "Z", false)
  | _ => ("SkyTurns$Reader", "fruitTold", "Z", false)
def tyX6 : Nat → FieldType := fun k => match k with
  | 0 => .array .int
  | 1 => .object "SkyTurns$Edge"
  | 2 => .int
  | 3 => .int
  | 4 => .int
  | 5 => .int
  | 6 => .int
  | 7 => .boolean
  | _ => .boolean
abbrev wsX60 : List Cond := u_ws RX6 TX6 9
theorem nmX6 : ∀ a, a < 9 → ∀ b, b < 9 → a ≠ b → (TX6 a).2.1 ≠ (TX6 b).2.1 := by decide +kernel
theorem tyX6_ok : ∀ k, k < 9 → parseFieldDescriptor (TX6 k).2.2.1 = some (tyX6 k) := by decide +kernel
abbrev cX6_init : ByteArray := prog_8_method_1_code
def yX6_init : MethodName := ⟨RX6, "<init>", "()V"⟩
abbrev cX6_add : ByteArray := prog_8_method_2_code
def yX6_add : MethodName := ⟨RX6, "add", "(I)I"⟩
abbrev cX6_readText : ByteArray := prog_8_method_3_code
def yX6_readText : MethodName := ⟨RX6, "readText", "()V"⟩
abbrev cX6_hasMore : ByteArray := prog_8_method_4_code
def yX6_hasMore : MethodName := ⟨RX6, "hasMore", "()Z"⟩
abbrev cX6_readClause : ByteArray := prog_8_method_5_code
def yX6_readClause : MethodName := ⟨RX6, "readClause", "()V"⟩
abbrev cX6_readWeights : ByteArray := prog_8_method_6_code
def yX6_readWeights : MethodName := ⟨RX6, "readWeights", "()V"⟩
abbrev cX6_readPerson : ByteArray := prog_8_method_7_code
def yX6_readPerson : MethodName := ⟨RX6, "readPerson", "()V"⟩
abbrev cX6_readFather : ByteArray := prog_8_method_8_code
def yX6_readFather : MethodName := ⟨RX6, "readFather", "()I"⟩
abbrev cX6_readGoodness : ByteArray := prog_8_method_9_code
def yX6_readGoodness : MethodName := ⟨RX6, "readGoodness", "()V"⟩
abbrev cX6_readFruit : ByteArray := prog_8_method_10_code
def yX6_readFruit : MethodName := ⟨RX6, "readFruit", "()V"⟩
abbrev cX6_readNumber : ByteArray := prog_8_method_11_code
def yX6_readNumber : MethodName := ⟨RX6, "readNumber", "(II)I"⟩
abbrev cX6_readEnd : ByteArray := prog_8_method_12_code
def yX6_readEnd : MethodName := ⟨RX6, "readEnd", "()V"⟩
abbrev cX6_isNext : ByteArray := prog_8_method_13_code
def yX6_isNext : MethodName := ⟨RX6, "isNext", "(I)Z"⟩
abbrev cX6_skipBlanks : ByteArray := prog_8_method_14_code
def yX6_skipBlanks : MethodName := ⟨RX6, "skipBlanks", "()V"⟩
abbrev cX6_isFigure : ByteArray := prog_8_method_15_code
def yX6_isFigure : MethodName := ⟨RX6, "isFigure", "(I)Z"⟩
abbrev cX6_fail : ByteArray := prog_8_method_16_code
def yX6_fail : MethodName := ⟨RX6, "fail", "(II)V"⟩
def RX7 : String := "SkyTurns$Rows"
def TX7 : u_T := fun k => match k with
  | _ => ("", "", "", false)
def tyX7 : Nat → FieldType := fun k => match k with
  | _ => .int
abbrev wsX70 : List Cond := u_ws RX7 TX7 0
theorem nmX7 : ∀ a, a < 0 → ∀ b, b < 0 → a ≠ b → (TX7 a).2.1 ≠ (TX7 b).2.1 := by decide +kernel
theorem tyX7_ok : ∀ k, k < 0 → parseFieldDescriptor (TX7 k).2.2.1 = some (tyX7 k) := by decide +kernel
abbrev cX7_init : ByteArray := prog_9_method_1_code
def yX7_init : MethodName := ⟨RX7, "<init>", "(LSkyTurns$Edge;[LSkyTurns$Sky;)V"⟩
abbrev cX7_tryRows : ByteArray := prog_9_method_4_code
def yX7_tryRows : MethodName := ⟨RX7, "tryRows", "(LSkyTurns$Sky;I)V"⟩
abbrev cX7_goOn : ByteArray := prog_9_method_5_code
def yX7_goOn : MethodName := ⟨RX7, "goOn", "(I)V"⟩
abbrev cX7_standBehind : ByteArray := prog_9_method_6_code
def yX7_standBehind : MethodName := ⟨RX7, "standBehind", "(III)V"⟩
def RX8 : String := "SkyTurns$SeenRows"
def TX8 : u_T := fun k => match k with
  | 0 => ("SkyTurns$Rows", "told", "LSkyTurns$Edge;", true)
  | 1 => ("SkyTurns$Rows", "levels", "[LSkyTurns$Sky;", true)
  | 2 => ("SkyTurns$Rows", "row", "[I", true)
  | 3 => ("SkyTurns$Rows", "hoursOf", "[I", true)
  | 4 => ("SkyTurns$Rows", "hours", "I", false)
  | 5 => ("SkyTurns$SeenRows", "seen", "[I", true)
  | 6 => ("SkyTurns$SeenRows", "firstRow", "[I", true)
  | 7 => ("SkyTurns$SeenRows", "seenCount", "I", false)
  | 8 => ("SkyTurns$SeenRows", "count", "I", false)
  | _ => ("SkyTurns$SeenRows", "common", "I", false)
def tyX8 : Nat → FieldType := fun k => match k with
  | 0 => .object "SkyTurns$Edge"
  | 1 => .array (.object "SkyTurns$Sky")
  | 2 => .array .int
  | 3 => .array .int
  | 4 => .int
  | 5 => .array .int
  | 6 => .array .int
  | 7 => .int
  | 8 => .int
  | _ => .int
abbrev wsX80 : List Cond := u_ws RX8 TX8 10
theorem nmX8 : ∀ a, a < 10 → ∀ b, b < 10 → a ≠ b → (TX8 a).2.1 ≠ (TX8 b).2.1 := by decide +kernel
theorem tyX8_ok : ∀ k, k < 10 → parseFieldDescriptor (TX8 k).2.2.1 = some (tyX8 k) := by decide +kernel
abbrev cX8_init : ByteArray := prog_10_method_1_code
def yX8_init : MethodName := ⟨RX8, "<init>", "(LSkyTurns$Edge;[LSkyTurns$Sky;)V"⟩
abbrev cX8_clear : ByteArray := prog_10_method_2_code
def yX8_clear : MethodName := ⟨RX8, "clear", "()V"⟩
abbrev cX8_add : ByteArray := prog_10_method_3_code
def yX8_add : MethodName := ⟨RX8, "add", "(I)I"⟩
abbrev cX8_find : ByteArray := prog_10_method_4_code
def yX8_find : MethodName := ⟨RX8, "find", "(LSkyTurns$Sky;)V"⟩
abbrev cX8_fits : ByteArray := prog_10_method_5_code
def yX8_fits : MethodName := ⟨RX8, "fits", "(III)Z"⟩
abbrev cX8_endRow : ByteArray := prog_10_method_6_code
def yX8_endRow : MethodName := ⟨RX8, "endRow", "()V"⟩
abbrev cX8_holderAt : ByteArray := prog_10_method_7_code
def yX8_holderAt : MethodName := ⟨RX8, "holderAt", "(I)I"⟩
def RX9 : String := "SkyTurns$ShiftRows"
def TX9 : u_T := fun k => match k with
  | 0 => ("SkyTurns$Rows", "told", "LSkyTurns$Edge;", true)
  | 1 => ("SkyTurns$Rows", "levels", "[LSkyTurns$Sky;", true)
  | 2 => ("SkyTurns$Rows", "row", "[I", true)
  | 3 => ("SkyTurns$Rows", "hoursOf", "[I", true)
  | 4 => ("SkyTurns$Rows", "hours", "I", false)
  | 5 => ("SkyTurns$ShiftRows", "bestRow", "[I", true)
  | 6 => ("SkyTurns$ShiftRows", "best", "I", false)
  | 7 => ("SkyTurns$ShiftRows", "deepest", "I", false)
  | _ => ("SkyTurns$ShiftRows", "limit", "I", false)
def tyX9 : Nat → FieldType := fun k => match k with
  | 0 => .object "SkyTurns$Edge"
  | 1 => .array (.object "SkyTurns$Sky")
  | 2 => .array .int
  | 3 => .array .int
  | 4 => .int
  | 5 => .array .int
  | 6 => .int
  | 7 => .int
  | _ => .int
abbrev wsX90 : List Cond := u_ws RX9 TX9 9
theorem nmX9 : ∀ a, a < 9 → ∀ b, b < 9 → a ≠ b → (TX9 a).2.1 ≠ (TX9 b).2.1 := by decide +kernel
theorem tyX9_ok : ∀ k, k < 9 → parseFieldDescriptor (TX9 k).2.2.1 = some (tyX9 k) := by decide +kernel
abbrev cX9_init : ByteArray := prog_11_method_1_code
def yX9_init : MethodName := ⟨RX9, "<init>", "(LSkyTurns$Edge;[LSkyTurns$Sky;)V"⟩
abbrev cX9_find : ByteArray := prog_11_method_2_code
def yX9_find : MethodName := ⟨RX9, "find", "(LSkyTurns$Sky;II)V"⟩
abbrev cX9_fits : ByteArray := prog_11_method_3_code
def yX9_fits : MethodName := ⟨RX9, "fits", "(III)Z"⟩
abbrev cX9_endRow : ByteArray := prog_11_method_4_code
def yX9_endRow : MethodName := ⟨RX9, "endRow", "()V"⟩
abbrev cX9_isFound : ByteArray := prog_11_method_5_code
def yX9_isFound : MethodName := ⟨RX9, "isFound", "()Z"⟩
abbrev cX9_fewest : ByteArray := prog_11_method_6_code
def yX9_fewest : MethodName := ⟨RX9, "fewest", "()I"⟩
abbrev cX9_holderAt : ByteArray := prog_11_method_7_code
def yX9_holderAt : MethodName := ⟨RX9, "holderAt", "(I)I"⟩
abbrev cX9_firstSunk : ByteArray := prog_11_method_8_code
def yX9_firstSunk : MethodName := ⟨RX9, "firstSunk", "()I"⟩
def RX10 : String := "SkyTurns$Sky"
def TX10 : u_T := fun k => match k with
  | 0 => ("SkyTurns$Sky", "told", "LSkyTurns$Edge;", true)
  | 1 => ("SkyTurns$Sky", "tired", "[I", true)
  | 2 => ("SkyTurns$Sky", "held", "[I", true)
  | 3 => ("SkyTurns$Sky", "unbroken", "[I", true)
  | 4 => ("SkyTurns$Sky", "fallen", "[I", true)
  | 5 => ("SkyTurns$Sky", "clock", "I", false)
  | 6 => ("SkyTurns$Sky", "low", "I", false)
  | 7 => ("SkyTurns$Sky", "harm", "I", false)
  | 8 => ("SkyTurns$Sky", "fruitLeft", "I", false)
  | 9 => ("SkyTurns$Sky", "holder", "I", false)
  | _ => ("SkyTurns$Sky", "beside", "I", false)
def tyX10 : Nat → FieldType := fun k => match k with
  | 0 => .object "SkyTurns$Edge"
  | 1 => .array .int
  | 2 => .array .int
  | 3 => .array .int
  | 4 => .array .int
  | 5 => .int
  | 6 => .int
  | 7 => .int
  | 8 => .int
  | 9 => .int
  | _ => .int
abbrev wsX100 : List Cond := u_ws RX10 TX10 11
theorem nmX10 : ∀ a, a < 11 → ∀ b, b < 11 → a ≠ b → (TX10 a).2.1 ≠ (TX10 b).2.1 := by decide +kernel
theorem tyX10_ok : ∀ k, k < 11 → parseFieldDescriptor (TX10 k).2.2.1 = some (tyX10 k) := by decide +kernel
abbrev cX10_init : ByteArray := prog_12_method_1_code
def yX10_init : MethodName := ⟨RX10, "<init>", "(LSkyTurns$Edge;)V"⟩
abbrev cX10_begin : ByteArray := prog_12_method_2_code
def yX10_begin : MethodName := ⟨RX10, "begin", "()V"⟩
abbrev cX10_copyFrom : ByteArray := prog_12_method_3_code
def yX10_copyFrom : MethodName := ⟨RX10, "copyFrom", "(LSkyTurns$Sky;)V"⟩
abbrev cX10_isHolding : ByteArray := prog_12_method_4_code
def yX10_isHolding : MethodName := ⟨RX10, "isHolding", "(I)Z"⟩
abbrev cX10_isFatherHolding : ByteArray := prog_12_method_5_code
def yX10_isFatherHolding : MethodName := ⟨RX10, "isFatherHolding", "(I)Z"⟩
abbrev cX10_handTo : ByteArray := prog_12_method_6_code
def yX10_handTo : MethodName := ⟨RX10, "handTo", "(I)V"⟩
abbrev cX10_isTrickedBy : ByteArray := prog_12_method_7_code
def yX10_isTrickedBy : MethodName := ⟨RX10, "isTrickedBy", "(II)Z"⟩
abbrev cX10_isTrickedBySome : ByteArray := prog_12_method_8_code
def yX10_isTrickedBySome : MethodName := ⟨RX10, "isTrickedBySome", "(I)Z"⟩
abbrev cX10_trick : ByteArray := prog_12_method_9_code
def yX10_trick : MethodName := ⟨RX10, "trick", "(II)Z"⟩
abbrev cX10_forceOf : ByteArray := prog_12_method_10_code
def yX10_forceOf : MethodName := ⟨RX10, "forceOf", "(I)I"⟩
abbrev cX10_forceHeld : ByteArray := prog_12_method_11_code
def yX10_forceHeld : MethodName := ⟨RX10, "forceHeld", "()I"⟩
abbrev cX10_lowBehind : ByteArray := prog_12_method_12_code
def yX10_lowBehind : MethodName := ⟨RX10, "lowBehind", "(III)I"⟩
abbrev cX10_passHour : ByteArray := prog_12_method_13_code
def yX10_passHour : MethodName := ⟨RX10, "passHour", "(I)V"⟩
abbrev cX10_endHour : ByteArray := prog_12_method_14_code
def yX10_endHour : MethodName := ⟨RX10, "endHour", "(I)V"⟩
abbrev cX10_bear : ByteArray := prog_12_method_15_code
def yX10_bear : MethodName := ⟨RX10, "bear", "(I)V"⟩
abbrev cX10_rest : ByteArray := prog_12_method_16_code
def yX10_rest : MethodName := ⟨RX10, "rest", "(I)V"⟩
def RX11 : String := "SkyTurns"
def TX11 : u_T := fun k => match k with
  | 0 => ("SkyTurns", "told", "LSkyTurns$Edge;", true)
  | 1 => ("SkyTurns", "reader", "LSkyTurns$Reader;", true)
  | 2 => ("SkyTurns", "now", "LSkyTurns$Sky;", true)
  | 3 => ("SkyTurns", "trial", "LSkyTurns$Sky;", true)
  | 4 => ("SkyTurns", "past", "LSkyTurns$Past;", true)
  | 5 => ("SkyTurns", "images", "[LSkyTurns$Sky;", true)
  | 6 => ("SkyTurns", "imageKept", "[Z", true)
  | 7 => ("SkyTurns", "imageSeed", "[I", true)
  | 8 => ("SkyTurns", "shiftRows", "LSkyTurns$ShiftRows;", true)
  | 9 => ("SkyTurns", "seenRows", "LSkyTurns$SeenRows;", true)
  | 10 => ("SkyTurns", "chainTried", "LSkyTurns$Chain;", true)
  | 11 => ("SkyTurns", "book", "LSkyTurns$Book;", true)
  | 12 => ("SkyTurns", "debts", "LSkyTurns$Debts;", true)
  | 13 => ("SkyTurns", "game", "LSkyTurns$Game;", true)
  | 14 => ("SkyTurns", "latestFault", "I", false)
  | _ => ("SkyTurns", "seedNow", "I", false)
def tyX11 : Nat → FieldType := fun k => match k with
  | 0 => .object "SkyTurns$Edge"
  | 1 => .object "SkyTurns$Reader"
  | 2 => .object "SkyTurns$Sky"
  | 3 => .object "SkyTurns$Sky"
  | 4 => .object "SkyTurns$Past"
  | 5 => .array (.object "SkyTurns$Sky")
  | 6 => .array .boolean
  | 7 => .array .int
  | 8 => .object "SkyTurns$ShiftRows"
  | 9 => .object "SkyTurns$SeenRows"
  | 10 => .object "SkyTurns$Chain"
  | 11 => .object "SkyTurns$Book"
  | 12 => .object "SkyTurns$Debts"
  | 13 => .object "SkyTurns$Game"
  | 14 => .int
  | _ => .int
abbrev wsX110 : List Cond := u_ws RX11 TX11 16
theorem nmX11 : ∀ a, a < 16 → ∀ b, b < 16 → a ≠ b → (TX11 a).2.1 ≠ (TX11 b).2.1 := by decide +kernel
theorem tyX11_ok : ∀ k, k < 16 → parseFieldDescriptor (TX11 k).2.2.1 = some (tyX11 k) := by decide +kernel
abbrev cX11_init : ByteArray := prog_1_method_1_code
def yX11_init : MethodName := ⟨RX11, "<init>", "()V"⟩
abbrev cX11_feed : ByteArray := prog_1_method_2_code
def yX11_feed : MethodName := ⟨RX11, "feed", "(I)I"⟩
abbrev cX11_edge : ByteArray := prog_1_method_3_code
def yX11_edge : MethodName := ⟨RX11, "edge", "()I"⟩
abbrev cX11_fault : ByteArray := prog_1_method_4_code
def yX11_fault : MethodName := ⟨RX11, "fault", "()I"⟩
abbrev cX11_told : ByteArray := prog_1_method_5_code
def yX11_told : MethodName := ⟨RX11, "told", "(I)I"⟩
abbrev cX11_person : ByteArray := prog_1_method_6_code
def yX11_person : MethodName := ⟨RX11, "person", "(II)I"⟩
abbrev cX11_word : ByteArray := prog_1_method_7_code
def yX11_word : MethodName := ⟨RX11, "word", "(I)I"⟩
abbrev cX11_hour : ByteArray := prog_1_method_8_code
def yX11_hour : MethodName := ⟨RX11, "hour", "(I)I"⟩
abbrev cX11_offer : ByteArray := prog_1_method_9_code
def yX11_offer : MethodName := ⟨RX11, "offer", "(II)I"⟩
abbrev cX11_take : ByteArray := prog_1_method_10_code
def yX11_take : MethodName := ⟨RX11, "take", "(I)I"⟩
abbrev cX11_join : ByteArray := prog_1_method_11_code
def yX11_join : MethodName := ⟨RX11, "join", "(I)I"⟩
abbrev cX11_fruit : ByteArray := prog_1_method_12_code
def yX11_fruit : MethodName := ⟨RX11, "fruit", "(I)I"⟩
abbrev cX11_drift : ByteArray := prog_1_method_13_code
def yX11_drift : MethodName := ⟨RX11, "drift", "(I)I"⟩
abbrev cX11_undo : ByteArray := prog_1_method_14_code
def yX11_undo : MethodName := ⟨RX11, "undo", "(I)I"⟩
abbrev cX11_shifts : ByteArray := prog_1_method_15_code
def yX11_shifts : MethodName := ⟨RX11, "shifts", "(III)I"⟩
abbrev cX11_sinks : ByteArray := prog_1_method_16_code
def yX11_sinks : MethodName := ⟨RX11, "sinks", "(II)I"⟩
abbrev cX11_chain : ByteArray := prog_1_method_17_code
def yX11_chain : MethodName := ⟨RX11, "chain", "(II)I"⟩
abbrev cX11_pair : ByteArray := prog_1_method_18_code
def yX11_pair : MethodName := ⟨RX11, "pair", "(I)I"⟩
abbrev cX11_owes : ByteArray := prog_1_method_19_code
def yX11_owes : MethodName := ⟨RX11, "owes", "(I)I"⟩
abbrev cX11_payments : ByteArray := prog_1_method_20_code
def yX11_payments : MethodName := ⟨RX11, "payments", "()I"⟩
abbrev cX11_sons : ByteArray := prog_1_method_21_code
def yX11_sons : MethodName := ⟨RX11, "sons", "(I)I"⟩
abbrev cX11_words : ByteArray := prog_1_method_22_code
def yX11_words : MethodName := ⟨RX11, "words", "(IIIII)I"⟩
abbrev cX11_pillar : ByteArray := prog_1_method_23_code
def yX11_pillar : MethodName := ⟨RX11, "pillar", "(II)I"⟩
abbrev cX11_see : ByteArray := prog_1_method_24_code
def yX11_see : MethodName := ⟨RX11, "see", "(I)I"⟩
abbrev cX11_who : ByteArray := prog_1_method_25_code
def yX11_who : MethodName := ⟨RX11, "who", "(I)I"⟩
abbrev cX11_sure : ByteArray := prog_1_method_26_code
def yX11_sure : MethodName := ⟨RX11, "sure", "()I"⟩
abbrev cX11_write : ByteArray := prog_1_method_27_code
def yX11_write : MethodName := ⟨RX11, "write", "(IIZ)I"⟩
abbrev cX11_judge : ByteArray := prog_1_method_28_code
def yX11_judge : MethodName := ⟨RX11, "judge", "()I"⟩
abbrev cX11_tear : ByteArray := prog_1_method_29_code
def yX11_tear : MethodName := ⟨RX11, "tear", "()I"⟩
abbrev cX11_seed : ByteArray := prog_1_method_30_code
def yX11_seed : MethodName := ⟨RX11, "seed", "(I)I"⟩
abbrev cX11_keep : ByteArray := prog_1_method_31_code
def yX11_keep : MethodName := ⟨RX11, "keep", "(I)I"⟩
abbrev cX11_goBack : ByteArray := prog_1_method_32_code
def yX11_goBack : MethodName := ⟨RX11, "goBack", "(I)I"⟩
abbrev cX11_isWord : ByteArray := prog_1_method_33_code
def yX11_isWord : MethodName := ⟨RX11, "isWord", "(I)Z"⟩
abbrev cX11_isImage : ByteArray := prog_1_method_34_code
def yX11_isImage : MethodName := ⟨RX11, "isImage", "(I)Z"⟩
abbrev cX11_isNoGain : ByteArray := prog_1_method_35_code
def yX11_isNoGain : MethodName := ⟨RX11, "isNoGain", "(I)Z"⟩
abbrev cX11_isNoTrial : ByteArray := prog_1_method_36_code
def yX11_isNoTrial : MethodName := ⟨RX11, "isNoTrial", "(II)Z"⟩
abbrev cX11_letHourPass : ByteArray := prog_1_method_37_code
def yX11_letHourPass : MethodName := ⟨RX11, "letHourPass", "()V"⟩
abbrev cX11_passByDraw : ByteArray := prog_1_method_38_code
def yX11_passByDraw : MethodName := ⟨RX11, "passByDraw", "()V"⟩
abbrev cX11_draw : ByteArray := prog_1_method_39_code
def yX11_draw : MethodName := ⟨RX11, "draw", "(I)I"⟩
abbrev cX11_harmBehind : ByteArray := prog_1_method_40_code
def yX11_harmBehind : MethodName := ⟨RX11, "harmBehind", "(II)I"⟩
def RX12 : String := "SkyTurnsModel"
def TX12 : u_T := fun k => match k with
  | 0 => ("SkyTurnsModel", "letters", "I", false)
  | 1 => ("SkyTurnsModel", "text", "[I", true)
  | 2 => ("SkyTurnsModel", "position", "I", false)
  | 3 => ("SkyTurnsModel", "tokenAt", "I", false)
  | 4 => ("SkyTurnsModel", "token", "I", false)
  | 5 => ("SkyTurnsModel", "number", "I", false)
  | 6 => ("SkyTurnsModel", "faultAt", "I", false)
  | 7 => ("SkyTurnsModel", "faultIs", "I", false)
  | 8 => ("SkyTurnsModel", "readWeights", "I", false)
  | 9 => ("SkyTurnsModel", "readWeight", "[I", true)
  | 10 => ("SkyTurnsModel", "readMany", "I", false)
  | 11 => ("SkyTurnsModel", "read", "[I", true)
  | 12 => ("SkyTurnsModel", "readWord", "[I", true)
  | 13 => ("SkyTurnsModel", "readFruit", "I", false)
  | 14 => ("SkyTurnsModel", "hasWeights", "Z", false)
  | 15 => ("SkyTurnsModel", "hasWords", "Z", false)
  | 16 => ("SkyTurnsModel", "hasFruit", "Z", false)
  | 17 => ("SkyTurnsModel", "weights", "I", false)
  | 18 => ("SkyTurnsModel", "weight", "[I", true)
  | 19 => ("SkyTurnsModel", "many", "I", false)
  | 20 => ("SkyTurnsModel", "person", "[I", true)
  | 21 => ("SkyTurnsModel", "word", "[I", true)
  | 22 => ("SkyTurnsModel", "now", "[I", true)
  | 23 => ("SkyTurnsModel", "tried", "[I", true)
  | 24 => ("SkyTurnsModel", "image", "[I", true)
  | 25 => ("SkyTurnsModel", "isKept", "[Z", true)
  | 26 => ("SkyTurnsModel", "backs", "I", false)
  | 27 => ("SkyTurnsModel", "backOf", "[I", true)
  | 28 => ("SkyTurnsModel", "sights", "I", false)
  | 29 => ("SkyTurnsModel", "sight", "[I", true)
  | 30 => ("SkyTurnsModel", "lines", "I", false)
  | 31 => ("SkyTurnsModel", "line", "[I", true)
  | 32 => ("SkyTurnsModel", "row", "[I", true)
  | 33 => ("SkyTurnsModel", "found", "[I", true)
  | _ => ("SkyTurnsModel", "sums", "[I", true)
def tyX12 : Nat → FieldType := fun k => match k with
  | 0 => .int
  | 1 => .array .int
  | 2 => .int
  | 3 => .int
  | 4 => .int
  | 5 => .int
  | 6 => .int
  | 7 => .int
  | 8 => .int
  | 9 => .array .int
  | 10 => .int
  | 11 => .array .int
  | 12 => .array .int
  | 13 => .int
  | 14 => .boolean
  | 15 => .boolean
  | 16 => .boolean
  | 17 => .int
  | 18 => .array .int
  | 19 => .int
  | 20 => .array .int
  | 21 => .array .int
  | 22 => .array .int
  | 23 => .array .int
  | 24 => .array .int
  | 25 => .array .boolean
  | 26 => .int
  | 27 => .array .int
  | 28 => .int
  | 29 => .array .int
  | 30 => .int
  | 31 => .array .int
  | 32 => .array .int
  | 33 => .array .int
  | _ => .array .int
abbrev wsX120 : List Cond := u_ws RX12 TX12 35
theorem nmX12 : ∀ a, a < 35 → ∀ b, b < 35 → a ≠ b → (TX12 a).2.1 ≠ (TX12 b).2.1 := by decide +kernel
theorem tyX12_ok : ∀ k, k < 35 → parseFieldDescriptor (TX12 k).2.2.1 = some (tyX12 k) := by decide +kernel
abbrev cX12_init : ByteArray := prog_14_method_1_code
def yX12_init : MethodName := ⟨RX12, "<init>", "()V"⟩
abbrev cX12_in : ByteArray := prog_14_method_2_code
def yX12_in : MethodName := ⟨RX12, "in", "(III)Z"⟩
abbrev cX12_has : ByteArray := prog_14_method_3_code
def yX12_has : MethodName := ⟨RX12, "has", "(II)Z"⟩
abbrev cX12_isOne : ByteArray := prog_14_method_4_code
def yX12_isOne : MethodName := ⟨RX12, "isOne", "(I)Z"⟩
abbrev cX12_begin : ByteArray := prog_14_method_5_code
def yX12_begin : MethodName := ⟨RX12, "begin", "()V"⟩
abbrev cX12_feed : ByteArray := prog_14_method_6_code
def yX12_feed : MethodName := ⟨RX12, "feed", "(I)I"⟩
abbrev cX12_nextToken : ByteArray := prog_14_method_7_code
def yX12_nextToken : MethodName := ⟨RX12, "nextToken", "()V"⟩
abbrev cX12_fails : ByteArray := prog_14_method_8_code
def yX12_fails : MethodName := ⟨RX12, "fails", "(I)Z"⟩
abbrev cX12_isNumber : ByteArray := prog_14_method_9_code
def yX12_isNumber : MethodName := ⟨RX12, "isNumber", "(II)Z"⟩
abbrev cX12_isEnd : ByteArray := prog_14_method_10_code
def yX12_isEnd : MethodName := ⟨RX12, "isEnd", "()Z"⟩
abbrev cX12_isWeightLine : ByteArray := prog_14_method_11_code
def yX12_isWeightLine : MethodName := ⟨RX12, "isWeightLine", "()Z"⟩
abbrev cX12_isPersonLine : ByteArray := prog_14_method_12_code
def yX12_isPersonLine : MethodName := ⟨RX12, "isPersonLine", "()Z"⟩
abbrev cX12_isWordLine : ByteArray := prog_14_method_13_code
def yX12_isWordLine : MethodName := ⟨RX12, "isWordLine", "()Z"⟩
abbrev cX12_isFruitLine : ByteArray := prog_14_method_14_code
def yX12_isFruitLine : MethodName := ⟨RX12, "isFruitLine", "()Z"⟩
abbrev cX12_isRead : ByteArray := prog_14_method_15_code
def yX12_isRead : MethodName := ⟨RX12, "isRead", "()Z"⟩
abbrev cX12_edge : ByteArray := prog_14_method_16_code
def yX12_edge : MethodName := ⟨RX12, "edge", "()I"⟩
abbrev cX12_fault : ByteArray := prog_14_method_17_code
def yX12_fault : MethodName := ⟨RX12, "fault", "()I"⟩
abbrev cX12_kindOf : ByteArray := prog_14_method_18_code
def yX12_kindOf : MethodName := ⟨RX12, "kindOf", "(I)I"⟩
abbrev cX12_fatherOf : ByteArray := prog_14_method_19_code
def yX12_fatherOf : MethodName := ⟨RX12, "fatherOf", "(I)I"⟩
abbrev cX12_forceOf : ByteArray := prog_14_method_20_code
def yX12_forceOf : MethodName := ⟨RX12, "forceOf", "([II)I"⟩
abbrev cX12_forceOfAll : ByteArray := prog_14_method_21_code
def yX12_forceOfAll : MethodName := ⟨RX12, "forceOfAll", "([I)I"⟩
abbrev cX12_weightOf : ByteArray := prog_14_method_22_code
def yX12_weightOf : MethodName := ⟨RX12, "weightOf", "([I)I"⟩
abbrev cX12_pass : ByteArray := prog_14_method_23_code
def yX12_pass : MethodName := ⟨RX12, "pass", "([II)V"⟩
abbrev cX12_copy : ByteArray := prog_14_method_24_code
def yX12_copy : MethodName := ⟨RX12, "copy", "([II[II)V"⟩
abbrev cX12_note : ByteArray := prog_14_method_25_code
def yX12_note : MethodName := ⟨RX12, "note", "()V"⟩
abbrev cX12_isHere : ByteArray := prog_14_method_26_code
def yX12_isHere : MethodName := ⟨RX12, "isHere", "()Z"⟩
abbrev cX12_told : ByteArray := prog_14_method_27_code
def yX12_told : MethodName := ⟨RX12, "told", "(I)I"⟩
abbrev cX12_person : ByteArray := prog_14_method_28_code
def yX12_person : MethodName := ⟨RX12, "person", "(II)I"⟩
abbrev cX12_word : ByteArray := prog_14_method_29_code
def yX12_word : MethodName := ⟨RX12, "word", "(I)I"⟩
abbrev cX12_hour : ByteArray := prog_14_method_30_code
def yX12_hour : MethodName := ⟨RX12, "hour", "(I)I"⟩
abbrev cX12_holds : ByteArray := prog_14_method_31_code
def yX12_holds : MethodName := ⟨RX12, "holds", "([II)Z"⟩
abbrev cX12_falls : ByteArray := prog_14_method_32_code
def yX12_falls : MethodName := ⟨RX12, "falls", "([III)Z"⟩
abbrev cX12_offers : ByteArray := prog_14_method_33_code
def yX12_offers : MethodName := ⟨RX12, "offers", "([III)Z"⟩
abbrev cX12_offer : ByteArray := prog_14_method_34_code
def yX12_offer : MethodName := ⟨RX12, "offer", "(II)I"⟩
abbrev cX12_isSonOfWhoHolds : ByteArray := prog_14_method_35_code
def yX12_isSonOfWhoHolds : MethodName := ⟨RX12, "isSonOfWhoHolds", "(I)Z"⟩
abbrev cX12_takesIt : ByteArray := prog_14_method_36_code
def yX12_takesIt : MethodName := ⟨RX12, "takesIt", "(I)V"⟩
abbrev cX12_take : ByteArray := prog_14_method_37_code
def yX12_take : MethodName := ⟨RX12, "take", "(I)I"⟩
abbrev cX12_areLevel : ByteArray := prog_14_method_38_code
def yX12_areLevel : MethodName := ⟨RX12, "areLevel", "(II)Z"⟩
abbrev cX12_join : ByteArray := prog_14_method_39_code
def yX12_join : MethodName := ⟨RX12, "join", "(I)I"⟩
abbrev cX12_fruit : ByteArray := prog_14_method_40_code
def yX12_fruit : MethodName := ⟨RX12, "fruit", "(I)I"⟩
abbrev cX12_draw : ByteArray := prog_14_method_41_code
def yX12_draw : MethodName := ⟨RX12, "draw", "(I)I"⟩
abbrev cX12_drift : ByteArray := prog_14_method_42_code
def yX12_drift : MethodName := ⟨RX12, "drift", "(I)I"⟩
abbrev cX12_undo : ByteArray := prog_14_method_43_code
def yX12_undo : MethodName := ⟨RX12, "undo", "(I)I"⟩
abbrev cX12_power : ByteArray := prog_14_method_44_code
def yX12_power : MethodName := ⟨RX12, "power", "(II)I"⟩
abbrev cX12_lay : ByteArray := prog_14_method_45_code
def yX12_lay : MethodName := ⟨RX12, "lay", "(II)V"⟩
abbrev cX12_goesFor : ByteArray := prog_14_method_46_code
def yX12_goesFor : MethodName := ⟨RX12, "goesFor", "(II)I"⟩
abbrev cX12_mostOf : ByteArray := prog_14_method_47_code
def yX12_mostOf : MethodName := ⟨RX12, "mostOf", "(I)I"⟩
abbrev cX12_shifts : ByteArray := prog_14_method_48_code
def yX12_shifts : MethodName := ⟨RX12, "shifts", "(III)I"⟩
abbrev cX12_sinks : ByteArray := prog_14_method_49_code
def yX12_sinks : MethodName := ⟨RX12, "sinks", "(II)I"⟩
abbrev cX12_fallsNow : ByteArray := prog_14_method_50_code
def yX12_fallsNow : MethodName := ⟨RX12, "fallsNow", "(I)Z"⟩
abbrev cX12_isNext : ByteArray := prog_14_method_51_code
def yX12_isNext : MethodName := ⟨RX12, "isNext", "(II)Z"⟩
abbrev cX12_layFar : ByteArray := prog_14_method_52_code
def yX12_layFar : MethodName := ⟨RX12, "layFar", "(I)V"⟩
abbrev cX12_chain : ByteArray := prog_14_method_53_code
def yX12_chain : MethodName := ⟨RX12, "chain", "(II)I"⟩
abbrev cX12_pair : ByteArray := prog_14_method_54_code
def yX12_pair : MethodName := ⟨RX12, "pair", "(I)I"⟩
abbrev cX12_owesOf : ByteArray := prog_14_method_55_code
def yX12_owesOf : MethodName := ⟨RX12, "owesOf", "(I)I"⟩
abbrev cX12_owes : ByteArray := prog_14_method_56_code
def yX12_owes : MethodName := ⟨RX12, "owes", "(I)I"⟩
abbrev cX12_payments : ByteArray := prog_14_method_57_code
def yX12_payments : MethodName := ⟨RX12, "payments", "()I"⟩
abbrev cX12_sons : ByteArray := prog_14_method_58_code
def yX12_sons : MethodName := ⟨RX12, "sons", "(I)I"⟩
abbrev cX12_words : ByteArray := prog_14_method_59_code
def yX12_words : MethodName := ⟨RX12, "words", "(IIIII)I"⟩
abbrev cX12_pillar : ByteArray := prog_14_method_60_code
def yX12_pillar : MethodName := ⟨RX12, "pillar", "(II)I"⟩
abbrev cX12_see : ByteArray := prog_14_method_61_code
def yX12_see : MethodName := ⟨RX12, "see", "(I)I"⟩
abbrev cX12_isAsSeen : ByteArray := prog_14_method_62_code
def yX12_isAsSeen : MethodName := ⟨RX12, "isAsSeen", "()Z"⟩
abbrev cX12_who : ByteArray := prog_14_method_63_code
def yX12_who : MethodName := ⟨RX12, "who", "(I)I"⟩
abbrev cX12_sure : ByteArray := prog_14_method_64_code
def yX12_sure : MethodName := ⟨RX12, "sure", "()I"⟩
abbrev cX12_write : ByteArray := prog_14_method_65_code
def yX12_write : MethodName := ⟨RX12, "write", "(IIZ)I"⟩
abbrev cX12_judge : ByteArray := prog_14_method_66_code
def yX12_judge : MethodName := ⟨RX12, "judge", "()I"⟩
abbrev cX12_tear : ByteArray := prog_14_method_67_code
def yX12_tear : MethodName := ⟨RX12, "tear", "()I"⟩
abbrev cX12_seed : ByteArray := prog_14_method_68_code
def yX12_seed : MethodName := ⟨RX12, "seed", "(I)I"⟩
abbrev cX12_keep : ByteArray := prog_14_method_69_code
def yX12_keep : MethodName := ⟨RX12, "keep", "(I)I"⟩
abbrev cX12_goBack : ByteArray := prog_14_method_70_code
def yX12_goBack : MethodName := ⟨RX12, "goBack", "(I)I"⟩
def RL : String := "SkyTurnsLaw"
abbrev cL_law : ByteArray := code
def yL_law : MethodName := ⟨RL, "law", "([I)Z"⟩
abbrev vwCl : List vw_C := [(RX0, TX0, 4), (RX1, TX1, 6), (RX2, TX2, 3), (RX3, TX3, 10), (RX4, TX4, 8), (RX5, TX5, 3), (RX6, TX6, 9), (RX8, TX8, 10), (RX9, TX9, 9), (RX10, TX10, 11), (RX11, TX11, 16), (RX12, TX12, 35)]
end
section
theorem dL_law_0 : decode cL_law 0 = .ok (.new 7, 3) := by decide +kernel
theorem dL_law_3 : decode cL_law 3 = .ok (.dup, 1) := by decide +kernel
theorem dL_law_4 : decode cL_law 4 = .ok (.invokespecial 9, 3) := by decide +kernel
theorem dL_law_7 : decode cL_law 7 = .ok (.astore_n 1, 1) := by decide +kernel
theorem dL_law_8 : decode cL_law 8 = .ok (.new 10, 3) := by decide +kernel
theorem dL_law_11 : decode cL_law 11 = .ok (.dup, 1) := by decide +kernel
theorem dL_law_12 : decode cL_law 12 = .ok (.invokespecial 12, 3) := by decide +kernel
theorem dL_law_15 : decode cL_law 15 = .ok (.astore_n 2, 1) := by decide +kernel
theorem dL_law_16 : decode cL_law 16 = .ok (.iconst 0, 1) := by decide +kernel
theorem dL_law_17 : decode cL_law 17 = .ok (.istore_n 3, 1) := by decide +kernel
theorem dL_law_18 : decode cL_law 18 = .ok (.iload_n 3, 1) := by decide +kernel
theorem dL_law_19 : decode cL_law 19 = .ok (.aload_n 0, 1) := by decide +kernel
theorem dL_law_20 : decode cL_law 20 = .ok (.arraylength, 1) := by decide +kernel
theorem dL_law_21 : decode cL_law 21 = .ok (.bipush 6, 2) := by decide +kernel
theorem dL_law_23 : decode cL_law 23 = .ok (.isub, 1) := by decide +kernel
theorem dL_law_24 : decode cL_law 24 = .ok (.if_icmp .gt 953, 3) := by decide +kernel
theorem dL_law_27 : decode cL_law 27 = .ok (.aload_n 0, 1) := by decide +kernel
theorem dL_law_28 : decode cL_law 28 = .ok (.iload_n 3, 1) := by decide +kernel
theorem dL_law_29 : decode cL_law 29 = .ok (.iaload, 1) := by decide +kernel
theorem dL_law_30 : decode cL_law 30 = .ok (.bipush 31, 2) := by decide +kernel
theorem dL_law_32 : decode cL_law 32 = .ok (.iand, 1) := by decide +kernel
theorem dL_law_33 : decode cL_law 33 = .ok (.tableswitch 938 0 30 #[139, 162, 175, 188, 211, 244, 267, 290, 323, 346, 369, 392, 415, 438, 481, 514, 547, 570, 593, 606, 629, 692, 725, 748, 771, 784, 843, 856, 869, 892, 915], 139) := by decide +kernel
theorem dL_law_172 : decode cL_law 172 = .ok (.aload_n 1, 1) := by decide +kernel
theorem dL_law_173 : decode cL_law 173 = .ok (.aload_n 0, 1) := by decide +kernel
theorem dL_law_174 : decode cL_law 174 = .ok (.iload_n 3, 1) := by decide +kernel
theorem dL_law_175 : decode cL_law 175 = .ok (.iconst 1, 1) := by decide +kernel
theorem dL_law_176 : decode cL_law 176 = .ok (.iadd, 1) := by decide +kernel
theorem dL_law_177 : decode cL_law 177 = .ok (.iaload, 1) := by decide +kernel
theorem dL_law_178 : decode cL_law 178 = .ok (.invokevirtual 13, 3) := by decide +kernel
theorem dL_law_181 : decode cL_law 181 = .ok (.aload_n 2, 1) := by decide +kernel
theorem dL_law_182 : decode cL_law 182 = .ok (.aload_n 0, 1) := by decide +kernel
theorem dL_law_183 : decode cL_law 183 = .ok (.iload_n 3, 1) := by decide +kernel
theorem dL_law_184 : decode cL_law 184 = .ok (.iconst 1, 1) := by decide +kernel
theorem dL_law_185 : decode cL_law 185 = .ok (.iadd, 1) := by decide +kernel
theorem dL_law_186 : decode cL_law 186 = .ok (.iaload, 1) := by decide +kernel
theorem dL_law_187 : decode cL_law 187 = .ok (.invokevirtual 17, 3) := by decide +kernel
theorem dL_law_190 : decode cL_law 190 = .ok (.if_icmp .eq 781, 3) := by decide +kernel
theorem dL_law_193 : decode cL_law 193 = .ok (.iconst 0, 1) := by decide +kernel
theorem dL_law_194 : decode cL_law 194 = .ok (.ireturn, 1) := by decide +kernel
theorem dL_law_195 : decode cL_law 195 = .ok (.aload_n 1, 1) := by decide +kernel
theorem dL_law_196 : decode cL_law 196 = .ok (.invokevirtual 18, 3) := by decide +kernel
theorem dL_law_199 : decode cL_law 199 = .ok (.aload_n 2, 1) := by decide +kernel
theorem dL_law_200 : decode cL_law 200 = .ok (.invokevirtual 22, 3) := by decide +kernel
theorem dL_law_203 : decode cL_law 203 = .ok (.if_icmp .eq 768, 3) := by decide +kernel
theorem dL_law_206 : decode cL_law 206 = .ok (.iconst 0, 1) := by decide +kernel
theorem dL_law_207 : decode cL_law 207 = .ok (.ireturn, 1) := by decide +kernel
theorem dL_law_208 : decode cL_law 208 = .ok (.aload_n 1, 1) := by decide +kernel
theorem dL_law_209 : decode cL_law 209 = .ok (.invokevirtual 23, 3) := by decide +kernel
theorem dL_law_212 : decode cL_law 212 = .ok (.aload_n 2, 1) := by decide +kernel
theorem dL_law_213 : decode cL_law 213 = .ok (.invokevirtual 26, 3) := by decide +kernel
theorem dL_law_216 : decode cL_law 216 = .ok (.if_icmp .eq 755, 3) := by decide +kernel
theorem dL_law_219 : decode cL_law 219 = .ok (.iconst 0, 1) := by decide +kernel
theorem dL_law_220 : decode cL_law 220 = .ok (.ireturn, 1) := by decide +kernel
theorem dL_law_221 : decode cL_law 221 = .ok (.aload_n 1, 1) := by decide +kernel
theorem dL_law_222 : decode cL_law 222 = .ok (.aload_n 0, 1) := by decide +kernel
theorem dL_law_223 : decode cL_law 223 = .ok (.iload_n 3, 1) := by decide +kernel
theorem dL_law_224 : decode cL_law 224 = .ok (.iconst 1, 1) := by decide +kernel
theorem dL_law_225 : decode cL_law 225 = .ok (.iadd, 1) := by decide +kernel
theorem dL_law_226 : decode cL_law 226 = .ok (.iaload, 1) := by decide +kernel
theorem dL_law_227 : decode cL_law 227 = .ok (.invokevirtual 27, 3) := by decide +kernel
theorem dL_law_230 : decode cL_law 230 = .ok (.aload_n 2, 1) := by decide +kernel
theorem dL_law_231 : decode cL_law 231 = .ok (.aload_n 0, 1) := by decide +kernel
theorem dL_law_232 : decode cL_law 232 = .ok (.iload_n 3, 1) := by decide +kernel
theorem dL_law_233 : decode cL_law 233 = .ok (.iconst 1, 1) := by decide +kernel
theorem dL_law_234 : decode cL_law 234 = .ok (.iadd, 1) := by decide +kernel
theorem dL_law_235 : decode cL_law 235 = .ok (.iaload, 1) := by decide +kernel
theorem dL_law_236 : decode cL_law 236 = .ok (.invokevirtual 30, 3) := by decide +kernel
theorem dL_law_239 : decode cL_law 239 = .ok (.if_icmp .eq 732, 3) := by decide +kernel
theorem dL_law_242 : decode cL_law 242 = .ok (.iconst 0, 1) := by decide +kernel
theorem dL_law_243 : decode cL_law 243 = .ok (.ireturn, 1) := by decide +kernel
theorem dL_law_244 : decode cL_law 244 = .ok (.aload_n 1, 1) := by decide +kernel
theorem dL_law_245 : decode cL_law 245 = .ok (.aload_n 0, 1) := by decide +kernel
theorem dL_law_246 : decode cL_law 246 = .ok (.iload_n 3, 1) := by decide +kernel
theorem dL_law_247 : decode cL_law 247 = .ok (.iconst 1, 1) := by decide +kernel
theorem dL_law_248 : decode cL_law 248 = .ok (.iadd, 1) := by decide +kernel
theorem dL_law_249 : decode cL_law 249 = .ok (.iaload, 1) := by decide +kernel
theorem dL_law_250 : decode cL_law 250 = .ok (.aload_n 0, 1) := by decide +kernel
theorem dL_law_251 : decode cL_law 251 = .ok (.iload_n 3, 1) := by decide +kernel
theorem dL_law_252 : decode cL_law 252 = .ok (.iconst 2, 1) := by decide +kernel
theorem dL_law_253 : decode cL_law 253 = .ok (.iadd, 1) := by decide +kernel
theorem dL_law_254 : decode cL_law 254 = .ok (.iaload, 1) := by decide +kernel
theorem dL_law_255 : decode cL_law 255 = .ok (.invokevirtual 31, 3) := by decide +kernel
theorem dL_law_258 : decode cL_law 258 = .ok (.aload_n 2, 1) := by decide +kernel
theorem dL_law_259 : decode cL_law 259 = .ok (.aload_n 0, 1) := by decide +kernel
theorem dL_law_260 : decode cL_law 260 = .ok (.iload_n 3, 1) := by decide +kernel
theorem dL_law_261 : decode cL_law 261 = .ok (.iconst 1, 1) := by decide +kernel
theorem dL_law_262 : decode cL_law 262 = .ok (.iadd, 1) := by decide +kernel
theorem dL_law_263 : decode cL_law 263 = .ok (.iaload, 1) := by decide +kernel
theorem dL_law_264 : decode cL_law 264 = .ok (.aload_n 0, 1) := by decide +kernel
theorem dL_law_265 : decode cL_law 265 = .ok (.iload_n 3, 1) := by decide +kernel
theorem dL_law_266 : decode cL_law 266 = .ok (.iconst 2, 1) := by decide +kernel
theorem dL_law_267 : decode cL_law 267 = .ok (.iadd, 1) := by decide +kernel
theorem dL_law_268 : decode cL_law 268 = .ok (.iaload, 1) := by decide +kernel
theorem dL_law_269 : decode cL_law 269 = .ok (.invokevirtual 35, 3) := by decide +kernel
theorem dL_law_272 : decode cL_law 272 = .ok (.if_icmp .eq 699, 3) := by decide +kernel
theorem dL_law_275 : decode cL_law 275 = .ok (.iconst 0, 1) := by decide +kernel
theorem dL_law_276 : decode cL_law 276 = .ok (.ireturn, 1) := by decide +kernel
theorem dL_law_277 : decode cL_law 277 = .ok (.aload_n 1, 1) := by decide +kernel
theorem dL_law_278 : decode cL_law 278 = .ok (.aload_n 0, 1) := by decide +kernel
theorem dL_law_279 : decode cL_law 279 = .ok (.iload_n 3, 1) := by decide +kernel
theorem dL_law_280 : decode cL_law 280 = .ok (.iconst 1, 1) := by decide +kernel
theorem dL_law_281 : decode cL_law 281 = .ok (.iadd, 1) := by decide +kernel
theorem dL_law_282 : decode cL_law 282 = .ok (.iaload, 1) := by decide +kernel
theorem dL_law_283 : decode cL_law 283 = .ok (.invokevirtual 36, 3) := by decide +kernel
theorem dL_law_286 : decode cL_law 286 = .ok (.aload_n 2, 1) := by decide +kernel
theorem dL_law_287 : decode cL_law 287 = .ok (.aload_n 0, 1) := by decide +kernel
theorem dL_law_288 : decode cL_law 288 = .ok (.iload_n 3, 1) := by decide +kernel
theorem dL_law_289 : decode cL_law 289 = .ok (.iconst 1, 1) := by decide +kernel
theorem dL_law_290 : decode cL_law 290 = .ok (.iadd, 1) := by decide +kernel
theorem dL_law_291 : decode cL_law 291 = .ok (.iaload, 1) := by decide +kernel
theorem dL_law_292 : decode cL_law 292 = .ok (.invokevirtual 39, 3) := by decide +kernel
theorem dL_law_295 : decode cL_law 295 = .ok (.if_icmp .eq 676, 3) := by decide +kernel
theorem dL_law_298 : decode cL_law 298 = .ok (.iconst 0, 1) := by decide +kernel
theorem dL_law_299 : decode cL_law 299 = .ok (.ireturn, 1) := by decide +kernel
theorem dL_law_300 : decode cL_law 300 = .ok (.aload_n 1, 1) := by decide +kernel
theorem dL_law_301 : decode cL_law 301 = .ok (.aload_n 0, 1) := by decide +kernel
theorem dL_law_302 : decode cL_law 302 = .ok (.iload_n 3, 1) := by decide +kernel
theorem dL_law_303 : decode cL_law 303 = .ok (.iconst 1, 1) := by decide +kernel
theorem dL_law_304 : decode cL_law 304 = .ok (.iadd, 1) := by decide +kernel
theorem dL_law_305 : decode cL_law 305 = .ok (.iaload, 1) := by decide +kernel
theorem dL_law_306 : decode cL_law 306 = .ok (.invokevirtual 40, 3) := by decide +kernel
theorem dL_law_309 : decode cL_law 309 = .ok (.aload_n 2, 1) := by decide +kernel
theorem dL_law_310 : decode cL_law 310 = .ok (.aload_n 0, 1) := by decide +kernel
theorem dL_law_311 : decode cL_law 311 = .ok (.iload_n 3, 1) := by decide +kernel
theorem dL_law_312 : decode cL_law 312 = .ok (.iconst 1, 1) := by decide +kernel
theorem dL_law_313 : decode cL_law 313 = .ok (.iadd, 1) := by decide +kernel
theorem dL_law_314 : decode cL_law 314 = .ok (.iaload, 1) := by decide +kernel
theorem dL_law_315 : decode cL_law 315 = .ok (.invokevirtual 43, 3) := by decide +kernel
theorem dL_law_318 : decode cL_law 318 = .ok (.if_icmp .eq 653, 3) := by decide +kernel
theorem dL_law_321 : decode cL_law 321 = .ok (.iconst 0, 1) := by decide +kernel
theorem dL_law_322 : decode cL_law 322 = .ok (.ireturn, 1) := by decide +kernel
theorem dL_law_323 : decode cL_law 323 = .ok (.aload_n 1, 1) := by decide +kernel
theorem dL_law_324 : decode cL_law 324 = .ok (.aload_n 0, 1) := by decide +kernel
theorem dL_law_325 : decode cL_law 325 = .ok (.iload_n 3, 1) := by decide +kernel
theorem dL_law_326 : decode cL_law 326 = .ok (.iconst 1, 1) := by decide +kernel
theorem dL_law_327 : decode cL_law 327 = .ok (.iadd, 1) := by decide +kernel
theorem dL_law_328 : decode cL_law 328 = .ok (.iaload, 1) := by decide +kernel
theorem dL_law_329 : decode cL_law 329 = .ok (.aload_n 0, 1) := by decide +kernel
theorem dL_law_330 : decode cL_law 330 = .ok (.iload_n 3, 1) := by decide +kernel
theorem dL_law_331 : decode cL_law 331 = .ok (.iconst 2, 1) := by decide +kernel
theorem dL_law_332 : decode cL_law 332 = .ok (.iadd, 1) := by decide +kernel
theorem dL_law_333 : decode cL_law 333 = .ok (.iaload, 1) := by decide +kernel
theorem dL_law_334 : decode cL_law 334 = .ok (.invokevirtual 44, 3) := by decide +kernel
theorem dL_law_337 : decode cL_law 337 = .ok (.aload_n 2, 1) := by decide +kernel
theorem dL_law_338 : decode cL_law 338 = .ok (.aload_n 0, 1) := by decide +kernel
theorem dL_law_339 : decode cL_law 339 = .ok (.iload_n 3, 1) := by decide +kernel
theorem dL_law_340 : decode cL_law 340 = .ok (.iconst 1, 1) := by decide +kernel
theorem dL_law_341 : decode cL_law 341 = .ok (.iadd, 1) := by decide +kernel
theorem dL_law_342 : decode cL_law 342 = .ok (.iaload, 1) := by decide +kernel
theorem dL_law_343 : decode cL_law 343 = .ok (.aload_n 0, 1) := by decide +kernel
theorem dL_law_344 : decode cL_law 344 = .ok (.iload_n 3, 1) := by decide +kernel
theorem dL_law_345 : decode cL_law 345 = .ok (.iconst 2, 1) := by decide +kernel
theorem dL_law_346 : decode cL_law 346 = .ok (.iadd, 1) := by decide +kernel
theorem dL_law_347 : decode cL_law 347 = .ok (.iaload, 1) := by decide +kernel
theorem dL_law_348 : decode cL_law 348 = .ok (.invokevirtual 47, 3) := by decide +kernel
theorem dL_law_351 : decode cL_law 351 = .ok (.if_icmp .eq 620, 3) := by decide +kernel
theorem dL_law_354 : decode cL_law 354 = .ok (.iconst 0, 1) := by decide +kernel
theorem dL_law_355 : decode cL_law 355 = .ok (.ireturn, 1) := by decide +kernel
theorem dL_law_356 : decode cL_law 356 = .ok (.aload_n 1, 1) := by decide +kernel
theorem dL_law_357 : decode cL_law 357 = .ok (.aload_n 0, 1) := by decide +kernel
theorem dL_law_358 : decode cL_law 358 = .ok (.iload_n 3, 1) := by decide +kernel
theorem dL_law_359 : decode cL_law 359 = .ok (.iconst 1, 1) := by decide +kernel
theorem dL_law_360 : decode cL_law 360 = .ok (.iadd, 1) := by decide +kernel
theorem dL_law_361 : decode cL_law 361 = .ok (.iaload, 1) := by decide +kernel
theorem dL_law_362 : decode cL_law 362 = .ok (.invokevirtual 48, 3) := by decide +kernel
theorem dL_law_365 : decode cL_law 365 = .ok (.aload_n 2, 1) := by decide +kernel
theorem dL_law_366 : decode cL_law 366 = .ok (.aload_n 0, 1) := by decide +kernel
theorem dL_law_367 : decode cL_law 367 = .ok (.iload_n 3, 1) := by decide +kernel
theorem dL_law_368 : decode cL_law 368 = .ok (.iconst 1, 1) := by decide +kernel
theorem dL_law_369 : decode cL_law 369 = .ok (.iadd, 1) := by decide +kernel
theorem dL_law_370 : decode cL_law 370 = .ok (.iaload, 1) := by decide +kernel
theorem dL_law_371 : decode cL_law 371 = .ok (.invokevirtual 51, 3) := by decide +kernel
theorem dL_law_374 : decode cL_law 374 = .ok (.if_icmp .eq 597, 3) := by decide +kernel
theorem dL_law_377 : decode cL_law 377 = .ok (.iconst 0, 1) := by decide +kernel
theorem dL_law_378 : decode cL_law 378 = .ok (.ireturn, 1) := by decide +kernel
theorem dL_law_379 : decode cL_law 379 = .ok (.aload_n 1, 1) := by decide +kernel
theorem dL_law_380 : decode cL_law 380 = .ok (.aload_n 0, 1) := by decide +kernel
theorem dL_law_381 : decode cL_law 381 = .ok (.iload_n 3, 1) := by decide +kernel
theorem dL_law_382 : decode cL_law 382 = .ok (.iconst 1, 1) := by decide +kernel
theorem dL_law_383 : decode cL_law 383 = .ok (.iadd, 1) := by decide +kernel
theorem dL_law_384 : decode cL_law 384 = .ok (.iaload, 1) := by decide +kernel
theorem dL_law_385 : decode cL_law 385 = .ok (.invokevirtual 52, 3) := by decide +kernel
theorem dL_law_388 : decode cL_law 388 = .ok (.aload_n 2, 1) := by decide +kernel
theorem dL_law_389 : decode cL_law 389 = .ok (.aload_n 0, 1) := by decide +kernel
theorem dL_law_390 : decode cL_law 390 = .ok (.iload_n 3, 1) := by decide +kernel
theorem dL_law_391 : decode cL_law 391 = .ok (.iconst 1, 1) := by decide +kernel
theorem dL_law_392 : decode cL_law 392 = .ok (.iadd, 1) := by decide +kernel
theorem dL_law_393 : decode cL_law 393 = .ok (.iaload, 1) := by decide +kernel
theorem dL_law_394 : decode cL_law 394 = .ok (.invokevirtual 55, 3) := by decide +kernel
theorem dL_law_397 : decode cL_law 397 = .ok (.if_icmp .eq 574, 3) := by decide +kernel
theorem dL_law_400 : decode cL_law 400 = .ok (.iconst 0, 1) := by decide +kernel
theorem dL_law_401 : decode cL_law 401 = .ok (.ireturn, 1) := by decide +kernel
theorem dL_law_402 : decode cL_law 402 = .ok (.aload_n 1, 1) := by decide +kernel
theorem dL_law_403 : decode cL_law 403 = .ok (.aload_n 0, 1) := by decide +kernel
theorem dL_law_404 : decode cL_law 404 = .ok (.iload_n 3, 1) := by decide +kernel
theorem dL_law_405 : decode cL_law 405 = .ok (.iconst 1, 1) := by decide +kernel
theorem dL_law_406 : decode cL_law 406 = .ok (.iadd, 1) := by decide +kernel
theorem dL_law_407 : decode cL_law 407 = .ok (.iaload, 1) := by decide +kernel
theorem dL_law_408 : decode cL_law 408 = .ok (.invokevirtual 56, 3) := by decide +kernel
theorem dL_law_411 : decode cL_law 411 = .ok (.aload_n 2, 1) := by decide +kernel
theorem dL_law_412 : decode cL_law 412 = .ok (.aload_n 0, 1) := by decide +kernel
theorem dL_law_413 : decode cL_law 413 = .ok (.iload_n 3, 1) := by decide +kernel
theorem dL_law_414 : decode cL_law 414 = .ok (.iconst 1, 1) := by decide +kernel
theorem dL_law_415 : decode cL_law 415 = .ok (.iadd, 1) := by decide +kernel
theorem dL_law_416 : decode cL_law 416 = .ok (.iaload, 1) := by decide +kernel
theorem dL_law_417 : decode cL_law 417 = .ok (.invokevirtual 59, 3) := by decide +kernel
theorem dL_law_420 : decode cL_law 420 = .ok (.if_icmp .eq 551, 3) := by decide +kernel
theorem dL_law_423 : decode cL_law 423 = .ok (.iconst 0, 1) := by decide +kernel
theorem dL_law_424 : decode cL_law 424 = .ok (.ireturn, 1) := by decide +kernel
theorem dL_law_425 : decode cL_law 425 = .ok (.aload_n 1, 1) := by decide +kernel
theorem dL_law_426 : decode cL_law 426 = .ok (.aload_n 0, 1) := by decide +kernel
theorem dL_law_427 : decode cL_law 427 = .ok (.iload_n 3, 1) := by decide +kernel
theorem dL_law_428 : decode cL_law 428 = .ok (.iconst 1, 1) := by decide +kernel
theorem dL_law_429 : decode cL_law 429 = .ok (.iadd, 1) := by decide +kernel
theorem dL_law_430 : decode cL_law 430 = .ok (.iaload, 1) := by decide +kernel
theorem dL_law_431 : decode cL_law 431 = .ok (.invokevirtual 60, 3) := by decide +kernel
theorem dL_law_434 : decode cL_law 434 = .ok (.aload_n 2, 1) := by decide +kernel
theorem dL_law_435 : decode cL_law 435 = .ok (.aload_n 0, 1) := by decide +kernel
theorem dL_law_436 : decode cL_law 436 = .ok (.iload_n 3, 1) := by decide +kernel
theorem dL_law_437 : decode cL_law 437 = .ok (.iconst 1, 1) := by decide +kernel
theorem dL_law_438 : decode cL_law 438 = .ok (.iadd, 1) := by decide +kernel
theorem dL_law_439 : decode cL_law 439 = .ok (.iaload, 1) := by decide +kernel
theorem dL_law_440 : decode cL_law 440 = .ok (.invokevirtual 63, 3) := by decide +kernel
theorem dL_law_443 : decode cL_law 443 = .ok (.if_icmp .eq 528, 3) := by decide +kernel
theorem dL_law_446 : decode cL_law 446 = .ok (.iconst 0, 1) := by decide +kernel
theorem dL_law_447 : decode cL_law 447 = .ok (.ireturn, 1) := by decide +kernel
theorem dL_law_448 : decode cL_law 448 = .ok (.aload_n 1, 1) := by decide +kernel
theorem dL_law_449 : decode cL_law 449 = .ok (.aload_n 0, 1) := by decide +kernel
theorem dL_law_450 : decode cL_law 450 = .ok (.iload_n 3, 1) := by decide +kernel
theorem dL_law_451 : decode cL_law 451 = .ok (.iconst 1, 1) := by decide +kernel
theorem dL_law_452 : decode cL_law 452 = .ok (.iadd, 1) := by decide +kernel
theorem dL_law_453 : decode cL_law 453 = .ok (.iaload, 1) := by decide +kernel
theorem dL_law_454 : decode cL_law 454 = .ok (.invokevirtual 64, 3) := by decide +kernel
theorem dL_law_457 : decode cL_law 457 = .ok (.aload_n 2, 1) := by decide +kernel
theorem dL_law_458 : decode cL_law 458 = .ok (.aload_n 0, 1) := by decide +kernel
theorem dL_law_459 : decode cL_law 459 = .ok (.iload_n 3, 1) := by decide +kernel
theorem dL_law_460 : decode cL_law 460 = .ok (.iconst 1, 1) := by decide +kernel
theorem dL_law_461 : decode cL_law 461 = .ok (.iadd, 1) := by decide +kernel
theorem dL_law_462 : decode cL_law 462 = .ok (.iaload, 1) := by decide +kernel
theorem dL_law_463 : decode cL_law 463 = .ok (.invokevirtual 67, 3) := by decide +kernel
theorem dL_law_466 : decode cL_law 466 = .ok (.if_icmp .eq 505, 3) := by decide +kernel
theorem dL_law_469 : decode cL_law 469 = .ok (.iconst 0, 1) := by decide +kernel
theorem dL_law_470 : decode cL_law 470 = .ok (.ireturn, 1) := by decide +kernel
theorem dL_law_471 : decode cL_law 471 = .ok (.aload_n 1, 1) := by decide +kernel
theorem dL_law_472 : decode cL_law 472 = .ok (.aload_n 0, 1) := by decide +kernel
theorem dL_law_473 : decode cL_law 473 = .ok (.iload_n 3, 1) := by decide +kernel
theorem dL_law_474 : decode cL_law 474 = .ok (.iconst 1, 1) := by decide +kernel
theorem dL_law_475 : decode cL_law 475 = .ok (.iadd, 1) := by decide +kernel
theorem dL_law_476 : decode cL_law 476 = .ok (.iaload, 1) := by decide +kernel
theorem dL_law_477 : decode cL_law 477 = .ok (.aload_n 0, 1) := by decide +kernel
theorem dL_law_478 : decode cL_law 478 = .ok (.iload_n 3, 1) := by decide +kernel
theorem dL_law_479 : decode cL_law 479 = .ok (.iconst 2, 1) := by decide +kernel
theorem dL_law_480 : decode cL_law 480 = .ok (.iadd, 1) := by decide +kernel
theorem dL_law_481 : decode cL_law 481 = .ok (.iaload, 1) := by decide +kernel
theorem dL_law_482 : decode cL_law 482 = .ok (.aload_n 0, 1) := by decide +kernel
theorem dL_law_483 : decode cL_law 483 = .ok (.iload_n 3, 1) := by decide +kernel
theorem dL_law_484 : decode cL_law 484 = .ok (.iconst 3, 1) := by decide +kernel
theorem dL_law_485 : decode cL_law 485 = .ok (.iadd, 1) := by decide +kernel
theorem dL_law_486 : decode cL_law 486 = .ok (.iaload, 1) := by decide +kernel
theorem dL_law_487 : decode cL_law 487 = .ok (.invokevirtual 68, 3) := by decide +kernel
theorem dL_law_490 : decode cL_law 490 = .ok (.aload_n 2, 1) := by decide +kernel
theorem dL_law_491 : decode cL_law 491 = .ok (.aload_n 0, 1) := by decide +kernel
theorem dL_law_492 : decode cL_law 492 = .ok (.iload_n 3, 1) := by decide +kernel
theorem dL_law_493 : decode cL_law 493 = .ok (.iconst 1, 1) := by decide +kernel
theorem dL_law_494 : decode cL_law 494 = .ok (.iadd, 1) := by decide +kernel
theorem dL_law_495 : decode cL_law 495 = .ok (.iaload, 1) := by decide +kernel
theorem dL_law_496 : decode cL_law 496 = .ok (.aload_n 0, 1) := by decide +kernel
theorem dL_law_497 : decode cL_law 497 = .ok (.iload_n 3, 1) := by decide +kernel
theorem dL_law_498 : decode cL_law 498 = .ok (.iconst 2, 1) := by decide +kernel
theorem dL_law_499 : decode cL_law 499 = .ok (.iadd, 1) := by decide +kernel
theorem dL_law_500 : decode cL_law 500 = .ok (.iaload, 1) := by decide +kernel
theorem dL_law_501 : decode cL_law 501 = .ok (.aload_n 0, 1) := by decide +kernel
theorem dL_law_502 : decode cL_law 502 = .ok (.iload_n 3, 1) := by decide +kernel
theorem dL_law_503 : decode cL_law 503 = .ok (.iconst 3, 1) := by decide +kernel
theorem dL_law_504 : decode cL_law 504 = .ok (.iadd, 1) := by decide +kernel
theorem dL_law_505 : decode cL_law 505 = .ok (.iaload, 1) := by decide +kernel
theorem dL_law_506 : decode cL_law 506 = .ok (.invokevirtual 72, 3) := by decide +kernel
theorem dL_law_509 : decode cL_law 509 = .ok (.if_icmp .eq 462, 3) := by decide +kernel
theorem dL_law_512 : decode cL_law 512 = .ok (.iconst 0, 1) := by decide +kernel
theorem dL_law_513 : decode cL_law 513 = .ok (.ireturn, 1) := by decide +kernel
theorem dL_law_514 : decode cL_law 514 = .ok (.aload_n 1, 1) := by decide +kernel
theorem dL_law_515 : decode cL_law 515 = .ok (.aload_n 0, 1) := by decide +kernel
theorem dL_law_516 : decode cL_law 516 = .ok (.iload_n 3, 1) := by decide +kernel
theorem dL_law_517 : decode cL_law 517 = .ok (.iconst 1, 1) := by decide +kernel
theorem dL_law_518 : decode cL_law 518 = .ok (.iadd, 1) := by decide +kernel
theorem dL_law_519 : decode cL_law 519 = .ok (.iaload, 1) := by decide +kernel
theorem dL_law_520 : decode cL_law 520 = .ok (.aload_n 0, 1) := by decide +kernel
theorem dL_law_521 : decode cL_law 521 = .ok (.iload_n 3, 1) := by decide +kernel
theorem dL_law_522 : decode cL_law 522 = .ok (.iconst 2, 1) := by decide +kernel
theorem dL_law_523 : decode cL_law 523 = .ok (.iadd, 1) := by decide +kernel
theorem dL_law_524 : decode cL_law 524 = .ok (.iaload, 1) := by decide +kernel
theorem dL_law_525 : decode cL_law 525 = .ok (.invokevirtual 73, 3) := by decide +kernel
theorem dL_law_528 : decode cL_law 528 = .ok (.aload_n 2, 1) := by decide +kernel
theorem dL_law_529 : decode cL_law 529 = .ok (.aload_n 0, 1) := by decide +kernel
theorem dL_law_530 : decode cL_law 530 = .ok (.iload_n 3, 1) := by decide +kernel
theorem dL_law_531 : decode cL_law 531 = .ok (.iconst 1, 1) := by decide +kernel
theorem dL_law_532 : decode cL_law 532 = .ok (.iadd, 1) := by decide +kernel
theorem dL_law_533 : decode cL_law 533 = .ok (.iaload, 1) := by decide +kernel
theorem dL_law_534 : decode cL_law 534 = .ok (.aload_n 0, 1) := by decide +kernel
theorem dL_law_535 : decode cL_law 535 = .ok (.iload_n 3, 1) := by decide +kernel
theorem dL_law_536 : decode cL_law 536 = .ok (.iconst 2, 1) := by decide +kernel
theorem dL_law_537 : decode cL_law 537 = .ok (.iadd, 1) := by decide +kernel
theorem dL_law_538 : decode cL_law 538 = .ok (.iaload, 1) := by decide +kernel
theorem dL_law_539 : decode cL_law 539 = .ok (.invokevirtual 76, 3) := by decide +kernel
theorem dL_law_542 : decode cL_law 542 = .ok (.if_icmp .eq 429, 3) := by decide +kernel
theorem dL_law_545 : decode cL_law 545 = .ok (.iconst 0, 1) := by decide +kernel
theorem dL_law_546 : decode cL_law 546 = .ok (.ireturn, 1) := by decide +kernel
theorem dL_law_547 : decode cL_law 547 = .ok (.aload_n 1, 1) := by decide +kernel
theorem dL_law_548 : decode cL_law 548 = .ok (.aload_n 0, 1) := by decide +kernel
theorem dL_law_549 : decode cL_law 549 = .ok (.iload_n 3, 1) := by decide +kernel
theorem dL_law_550 : decode cL_law 550 = .ok (.iconst 1, 1) := by decide +kernel
theorem dL_law_551 : decode cL_law 551 = .ok (.iadd, 1) := by decide +kernel
theorem dL_law_552 : decode cL_law 552 = .ok (.iaload, 1) := by decide +kernel
theorem dL_law_553 : decode cL_law 553 = .ok (.aload_n 0, 1) := by decide +kernel
theorem dL_law_554 : decode cL_law 554 = .ok (.iload_n 3, 1) := by decide +kernel
theorem dL_law_555 : decode cL_law 555 = .ok (.iconst 2, 1) := by decide +kernel
theorem dL_law_556 : decode cL_law 556 = .ok (.iadd, 1) := by decide +kernel
theorem dL_law_557 : decode cL_law 557 = .ok (.iaload, 1) := by decide +kernel
theorem dL_law_558 : decode cL_law 558 = .ok (.invokevirtual 77, 3) := by decide +kernel
theorem dL_law_561 : decode cL_law 561 = .ok (.aload_n 2, 1) := by decide +kernel
theorem dL_law_562 : decode cL_law 562 = .ok (.aload_n 0, 1) := by decide +kernel
theorem dL_law_563 : decode cL_law 563 = .ok (.iload_n 3, 1) := by decide +kernel
theorem dL_law_564 : decode cL_law 564 = .ok (.iconst 1, 1) := by decide +kernel
theorem dL_law_565 : decode cL_law 565 = .ok (.iadd, 1) := by decide +kernel
theorem dL_law_566 : decode cL_law 566 = .ok (.iaload, 1) := by decide +kernel
theorem dL_law_567 : decode cL_law 567 = .ok (.aload_n 0, 1) := by decide +kernel
theorem dL_law_568 : decode cL_law 568 = .ok (.iload_n 3, 1) := by decide +kernel
theorem dL_law_569 : decode cL_law 569 = .ok (.iconst 2, 1) := by decide +kernel
theorem dL_law_570 : decode cL_law 570 = .ok (.iadd, 1) := by decide +kernel
theorem dL_law_571 : decode cL_law 571 = .ok (.iaload, 1) := by decide +kernel
theorem dL_law_572 : decode cL_law 572 = .ok (.invokevirtual 80, 3) := by decide +kernel
theorem dL_law_575 : decode cL_law 575 = .ok (.if_icmp .eq 396, 3) := by decide +kernel
theorem dL_law_578 : decode cL_law 578 = .ok (.iconst 0, 1) := by decide +kernel
theorem dL_law_579 : decode cL_law 579 = .ok (.ireturn, 1) := by decide +kernel
theorem dL_law_580 : decode cL_law 580 = .ok (.aload_n 1, 1) := by decide +kernel
theorem dL_law_581 : decode cL_law 581 = .ok (.aload_n 0, 1) := by decide +kernel
theorem dL_law_582 : decode cL_law 582 = .ok (.iload_n 3, 1) := by decide +kernel
theorem dL_law_583 : decode cL_law 583 = .ok (.iconst 1, 1) := by decide +kernel
theorem dL_law_584 : decode cL_law 584 = .ok (.iadd, 1) := by decide +kernel
theorem dL_law_585 : decode cL_law 585 = .ok (.iaload, 1) := by decide +kernel
theorem dL_law_586 : decode cL_law 586 = .ok (.invokevirtual 81, 3) := by decide +kernel
theorem dL_law_589 : decode cL_law 589 = .ok (.aload_n 2, 1) := by decide +kernel
theorem dL_law_590 : decode cL_law 590 = .ok (.aload_n 0, 1) := by decide +kernel
theorem dL_law_591 : decode cL_law 591 = .ok (.iload_n 3, 1) := by decide +kernel
theorem dL_law_592 : decode cL_law 592 = .ok (.iconst 1, 1) := by decide +kernel
theorem dL_law_593 : decode cL_law 593 = .ok (.iadd, 1) := by decide +kernel
theorem dL_law_594 : decode cL_law 594 = .ok (.iaload, 1) := by decide +kernel
theorem dL_law_595 : decode cL_law 595 = .ok (.invokevirtual 84, 3) := by decide +kernel
theorem dL_law_598 : decode cL_law 598 = .ok (.if_icmp .eq 373, 3) := by decide +kernel
theorem dL_law_601 : decode cL_law 601 = .ok (.iconst 0, 1) := by decide +kernel
theorem dL_law_602 : decode cL_law 602 = .ok (.ireturn, 1) := by decide +kernel
theorem dL_law_603 : decode cL_law 603 = .ok (.aload_n 1, 1) := by decide +kernel
theorem dL_law_604 : decode cL_law 604 = .ok (.aload_n 0, 1) := by decide +kernel
theorem dL_law_605 : decode cL_law 605 = .ok (.iload_n 3, 1) := by decide +kernel
theorem dL_law_606 : decode cL_law 606 = .ok (.iconst 1, 1) := by decide +kernel
theorem dL_law_607 : decode cL_law 607 = .ok (.iadd, 1) := by decide +kernel
theorem dL_law_608 : decode cL_law 608 = .ok (.iaload, 1) := by decide +kernel
theorem dL_law_609 : decode cL_law 609 = .ok (.invokevirtual 85, 3) := by decide +kernel
theorem dL_law_612 : decode cL_law 612 = .ok (.aload_n 2, 1) := by decide +kernel
theorem dL_law_613 : decode cL_law 613 = .ok (.aload_n 0, 1) := by decide +kernel
theorem dL_law_614 : decode cL_law 614 = .ok (.iload_n 3, 1) := by decide +kernel
theorem dL_law_615 : decode cL_law 615 = .ok (.iconst 1, 1) := by decide +kernel
theorem dL_law_616 : decode cL_law 616 = .ok (.iadd, 1) := by decide +kernel
theorem dL_law_617 : decode cL_law 617 = .ok (.iaload, 1) := by decide +kernel
theorem dL_law_618 : decode cL_law 618 = .ok (.invokevirtual 88, 3) := by decide +kernel
theorem dL_law_621 : decode cL_law 621 = .ok (.if_icmp .eq 350, 3) := by decide +kernel
theorem dL_law_624 : decode cL_law 624 = .ok (.iconst 0, 1) := by decide +kernel
theorem dL_law_625 : decode cL_law 625 = .ok (.ireturn, 1) := by decide +kernel
theorem dL_law_626 : decode cL_law 626 = .ok (.aload_n 1, 1) := by decide +kernel
theorem dL_law_627 : decode cL_law 627 = .ok (.invokevirtual 89, 3) := by decide +kernel
theorem dL_law_630 : decode cL_law 630 = .ok (.aload_n 2, 1) := by decide +kernel
theorem dL_law_631 : decode cL_law 631 = .ok (.invokevirtual 92, 3) := by decide +kernel
theorem dL_law_634 : decode cL_law 634 = .ok (.if_icmp .eq 337, 3) := by decide +kernel
theorem dL_law_637 : decode cL_law 637 = .ok (.iconst 0, 1) := by decide +kernel
theorem dL_law_638 : decode cL_law 638 = .ok (.ireturn, 1) := by decide +kernel
theorem dL_law_639 : decode cL_law 639 = .ok (.aload_n 1, 1) := by decide +kernel
theorem dL_law_640 : decode cL_law 640 = .ok (.aload_n 0, 1) := by decide +kernel
theorem dL_law_641 : decode cL_law 641 = .ok (.iload_n 3, 1) := by decide +kernel
theorem dL_law_642 : decode cL_law 642 = .ok (.iconst 1, 1) := by decide +kernel
theorem dL_law_643 : decode cL_law 643 = .ok (.iadd, 1) := by decide +kernel
theorem dL_law_644 : decode cL_law 644 = .ok (.iaload, 1) := by decide +kernel
theorem dL_law_645 : decode cL_law 645 = .ok (.invokevirtual 93, 3) := by decide +kernel
theorem dL_law_648 : decode cL_law 648 = .ok (.aload_n 2, 1) := by decide +kernel
theorem dL_law_649 : decode cL_law 649 = .ok (.aload_n 0, 1) := by decide +kernel
theorem dL_law_650 : decode cL_law 650 = .ok (.iload_n 3, 1) := by decide +kernel
theorem dL_law_651 : decode cL_law 651 = .ok (.iconst 1, 1) := by decide +kernel
theorem dL_law_652 : decode cL_law 652 = .ok (.iadd, 1) := by decide +kernel
theorem dL_law_653 : decode cL_law 653 = .ok (.iaload, 1) := by decide +kernel
theorem dL_law_654 : decode cL_law 654 = .ok (.invokevirtual 96, 3) := by decide +kernel
theorem dL_law_657 : decode cL_law 657 = .ok (.if_icmp .eq 314, 3) := by decide +kernel
theorem dL_law_660 : decode cL_law 660 = .ok (.iconst 0, 1) := by decide +kernel
theorem dL_law_661 : decode cL_law 661 = .ok (.ireturn, 1) := by decide +kernel
theorem dL_law_662 : decode cL_law 662 = .ok (.aload_n 1, 1) := by decide +kernel
theorem dL_law_663 : decode cL_law 663 = .ok (.aload_n 0, 1) := by decide +kernel
theorem dL_law_664 : decode cL_law 664 = .ok (.iload_n 3, 1) := by decide +kernel
theorem dL_law_665 : decode cL_law 665 = .ok (.iconst 1, 1) := by decide +kernel
theorem dL_law_666 : decode cL_law 666 = .ok (.iadd, 1) := by decide +kernel
theorem dL_law_667 : decode cL_law 667 = .ok (.iaload, 1) := by decide +kernel
theorem dL_law_668 : decode cL_law 668 = .ok (.aload_n 0, 1) := by decide +kernel
theorem dL_law_669 : decode cL_law 669 = .ok (.iload_n 3, 1) := by decide +kernel
theorem dL_law_670 : decode cL_law 670 = .ok (.iconst 2, 1) := by decide +kernel
theorem dL_law_671 : decode cL_law 671 = .ok (.iadd, 1) := by decide +kernel
theorem dL_law_672 : decode cL_law 672 = .ok (.iaload, 1) := by decide +kernel
theorem dL_law_673 : decode cL_law 673 = .ok (.aload_n 0, 1) := by decide +kernel
theorem dL_law_674 : decode cL_law 674 = .ok (.iload_n 3, 1) := by decide +kernel
theorem dL_law_675 : decode cL_law 675 = .ok (.iconst 3, 1) := by decide +kernel
theorem dL_law_676 : decode cL_law 676 = .ok (.iadd, 1) := by decide +kernel
theorem dL_law_677 : decode cL_law 677 = .ok (.iaload, 1) := by decide +kernel
theorem dL_law_678 : decode cL_law 678 = .ok (.aload_n 0, 1) := by decide +kernel
theorem dL_law_679 : decode cL_law 679 = .ok (.iload_n 3, 1) := by decide +kernel
theorem dL_law_680 : decode cL_law 680 = .ok (.iconst 4, 1) := by decide +kernel
theorem dL_law_681 : decode cL_law 681 = .ok (.iadd, 1) := by decide +kernel
theorem dL_law_682 : decode cL_law 682 = .ok (.iaload, 1) := by decide +kernel
theorem dL_law_683 : decode cL_law 683 = .ok (.aload_n 0, 1) := by decide +kernel
theorem dL_law_684 : decode cL_law 684 = .ok (.iload_n 3, 1) := by decide +kernel
theorem dL_law_685 : decode cL_law 685 = .ok (.iconst 5, 1) := by decide +kernel
theorem dL_law_686 : decode cL_law 686 = .ok (.iadd, 1) := by decide +kernel
theorem dL_law_687 : decode cL_law 687 = .ok (.iaload, 1) := by decide +kernel
theorem dL_law_688 : decode cL_law 688 = .ok (.invokevirtual 97, 3) := by decide +kernel
theorem dL_law_691 : decode cL_law 691 = .ok (.aload_n 2, 1) := by decide +kernel
theorem dL_law_692 : decode cL_law 692 = .ok (.aload_n 0, 1) := by decide +kernel
theorem dL_law_693 : decode cL_law 693 = .ok (.iload_n 3, 1) := by decide +kernel
theorem dL_law_694 : decode cL_law 694 = .ok (.iconst 1, 1) := by decide +kernel
theorem dL_law_695 : decode cL_law 695 = .ok (.iadd, 1) := by decide +kernel
theorem dL_law_696 : decode cL_law 696 = .ok (.iaload, 1) := by decide +kernel
theorem dL_law_697 : decode cL_law 697 = .ok (.aload_n 0, 1) := by decide +kernel
theorem dL_law_698 : decode cL_law 698 = .ok (.iload_n 3, 1) := by decide +kernel
theorem dL_law_699 : decode cL_law 699 = .ok (.iconst 2, 1) := by decide +kernel
theorem dL_law_700 : decode cL_law 700 = .ok (.iadd, 1) := by decide +kernel
theorem dL_law_701 : decode cL_law 701 = .ok (.iaload, 1) := by decide +kernel
theorem dL_law_702 : decode cL_law 702 = .ok (.aload_n 0, 1) := by decide +kernel
theorem dL_law_703 : decode cL_law 703 = .ok (.iload_n 3, 1) := by decide +kernel
theorem dL_law_704 : decode cL_law 704 = .ok (.iconst 3, 1) := by decide +kernel
theorem dL_law_705 : decode cL_law 705 = .ok (.iadd, 1) := by decide +kernel
theorem dL_law_706 : decode cL_law 706 = .ok (.iaload, 1) := by decide +kernel
theorem dL_law_707 : decode cL_law 707 = .ok (.aload_n 0, 1) := by decide +kernel
theorem dL_law_708 : decode cL_law 708 = .ok (.iload_n 3, 1) := by decide +kernel
theorem dL_law_709 : decode cL_law 709 = .ok (.iconst 4, 1) := by decide +kernel
theorem dL_law_710 : decode cL_law 710 = .ok (.iadd, 1) := by decide +kernel
theorem dL_law_711 : decode cL_law 711 = .ok (.iaload, 1) := by decide +kernel
theorem dL_law_712 : decode cL_law 712 = .ok (.aload_n 0, 1) := by decide +kernel
theorem dL_law_713 : decode cL_law 713 = .ok (.iload_n 3, 1) := by decide +kernel
theorem dL_law_714 : decode cL_law 714 = .ok (.iconst 5, 1) := by decide +kernel
theorem dL_law_715 : decode cL_law 715 = .ok (.iadd, 1) := by decide +kernel
theorem dL_law_716 : decode cL_law 716 = .ok (.iaload, 1) := by decide +kernel
theorem dL_law_717 : decode cL_law 717 = .ok (.invokevirtual 101, 3) := by decide +kernel
theorem dL_law_720 : decode cL_law 720 = .ok (.if_icmp .eq 251, 3) := by decide +kernel
theorem dL_law_723 : decode cL_law 723 = .ok (.iconst 0, 1) := by decide +kernel
theorem dL_law_724 : decode cL_law 724 = .ok (.ireturn, 1) := by decide +kernel
theorem dL_law_725 : decode cL_law 725 = .ok (.aload_n 1, 1) := by decide +kernel
theorem dL_law_726 : decode cL_law 726 = .ok (.aload_n 0, 1) := by decide +kernel
theorem dL_law_727 : decode cL_law 727 = .ok (.iload_n 3, 1) := by decide +kernel
theorem dL_law_728 : decode cL_law 728 = .ok (.iconst 1, 1) := by decide +kernel
theorem dL_law_729 : decode cL_law 729 = .ok (.iadd, 1) := by decide +kernel
theorem dL_law_730 : decode cL_law 730 = .ok (.iaload, 1) := by decide +kernel
theorem dL_law_731 : decode cL_law 731 = .ok (.aload_n 0, 1) := by decide +kernel
theorem dL_law_732 : decode cL_law 732 = .ok (.iload_n 3, 1) := by decide +kernel
theorem dL_law_733 : decode cL_law 733 = .ok (.iconst 2, 1) := by decide +kernel
theorem dL_law_734 : decode cL_law 734 = .ok (.iadd, 1) := by decide +kernel
theorem dL_law_735 : decode cL_law 735 = .ok (.iaload, 1) := by decide +kernel
theorem dL_law_736 : decode cL_law 736 = .ok (.invokevirtual 102, 3) := by decide +kernel
theorem dL_law_739 : decode cL_law 739 = .ok (.aload_n 2, 1) := by decide +kernel
theorem dL_law_740 : decode cL_law 740 = .ok (.aload_n 0, 1) := by decide +kernel
theorem dL_law_741 : decode cL_law 741 = .ok (.iload_n 3, 1) := by decide +kernel
theorem dL_law_742 : decode cL_law 742 = .ok (.iconst 1, 1) := by decide +kernel
theorem dL_law_743 : decode cL_law 743 = .ok (.iadd, 1) := by decide +kernel
theorem dL_law_744 : decode cL_law 744 = .ok (.iaload, 1) := by decide +kernel
theorem dL_law_745 : decode cL_law 745 = .ok (.aload_n 0, 1) := by decide +kernel
theorem dL_law_746 : decode cL_law 746 = .ok (.iload_n 3, 1) := by decide +kernel
theorem dL_law_747 : decode cL_law 747 = .ok (.iconst 2, 1) := by decide +kernel
theorem dL_law_748 : decode cL_law 748 = .ok (.iadd, 1) := by decide +kernel
theorem dL_law_749 : decode cL_law 749 = .ok (.iaload, 1) := by decide +kernel
theorem dL_law_750 : decode cL_law 750 = .ok (.invokevirtual 105, 3) := by decide +kernel
theorem dL_law_753 : decode cL_law 753 = .ok (.if_icmp .eq 218, 3) := by decide +kernel
theorem dL_law_756 : decode cL_law 756 = .ok (.iconst 0, 1) := by decide +kernel
theorem dL_law_757 : decode cL_law 757 = .ok (.ireturn, 1) := by decide +kernel
theorem dL_law_758 : decode cL_law 758 = .ok (.aload_n 1, 1) := by decide +kernel
theorem dL_law_759 : decode cL_law 759 = .ok (.aload_n 0, 1) := by decide +kernel
theorem dL_law_760 : decode cL_law 760 = .ok (.iload_n 3, 1) := by decide +kernel
theorem dL_law_761 : decode cL_law 761 = .ok (.iconst 1, 1) := by decide +kernel
theorem dL_law_762 : decode cL_law 762 = .ok (.iadd, 1) := by decide +kernel
theorem dL_law_763 : decode cL_law 763 = .ok (.iaload, 1) := by decide +kernel
theorem dL_law_764 : decode cL_law 764 = .ok (.invokevirtual 106, 3) := by decide +kernel
theorem dL_law_767 : decode cL_law 767 = .ok (.aload_n 2, 1) := by decide +kernel
theorem dL_law_768 : decode cL_law 768 = .ok (.aload_n 0, 1) := by decide +kernel
theorem dL_law_769 : decode cL_law 769 = .ok (.iload_n 3, 1) := by decide +kernel
theorem dL_law_770 : decode cL_law 770 = .ok (.iconst 1, 1) := by decide +kernel
theorem dL_law_771 : decode cL_law 771 = .ok (.iadd, 1) := by decide +kernel
theorem dL_law_772 : decode cL_law 772 = .ok (.iaload, 1) := by decide +kernel
theorem dL_law_773 : decode cL_law 773 = .ok (.invokevirtual 109, 3) := by decide +kernel
theorem dL_law_776 : decode cL_law 776 = .ok (.if_icmp .eq 195, 3) := by decide +kernel
theorem dL_law_779 : decode cL_law 779 = .ok (.iconst 0, 1) := by decide +kernel
theorem dL_law_780 : decode cL_law 780 = .ok (.ireturn, 1) := by decide +kernel
theorem dL_law_781 : decode cL_law 781 = .ok (.aload_n 1, 1) := by decide +kernel
theorem dL_law_782 : decode cL_law 782 = .ok (.aload_n 0, 1) := by decide +kernel
theorem dL_law_783 : decode cL_law 783 = .ok (.iload_n 3, 1) := by decide +kernel
theorem dL_law_784 : decode cL_law 784 = .ok (.iconst 1, 1) := by decide +kernel
theorem dL_law_785 : decode cL_law 785 = .ok (.iadd, 1) := by decide +kernel
theorem dL_law_786 : decode cL_law 786 = .ok (.iaload, 1) := by decide +kernel
theorem dL_law_787 : decode cL_law 787 = .ok (.invokevirtual 110, 3) := by decide +kernel
theorem dL_law_790 : decode cL_law 790 = .ok (.aload_n 2, 1) := by decide +kernel
theorem dL_law_791 : decode cL_law 791 = .ok (.aload_n 0, 1) := by decide +kernel
theorem dL_law_792 : decode cL_law 792 = .ok (.iload_n 3, 1) := by decide +kernel
theorem dL_law_793 : decode cL_law 793 = .ok (.iconst 1, 1) := by decide +kernel
theorem dL_law_794 : decode cL_law 794 = .ok (.iadd, 1) := by decide +kernel
theorem dL_law_795 : decode cL_law 795 = .ok (.iaload, 1) := by decide +kernel
theorem dL_law_796 : decode cL_law 796 = .ok (.invokevirtual 113, 3) := by decide +kernel
theorem dL_law_799 : decode cL_law 799 = .ok (.if_icmp .eq 172, 3) := by decide +kernel
theorem dL_law_802 : decode cL_law 802 = .ok (.iconst 0, 1) := by decide +kernel
theorem dL_law_803 : decode cL_law 803 = .ok (.ireturn, 1) := by decide +kernel
theorem dL_law_804 : decode cL_law 804 = .ok (.aload_n 1, 1) := by decide +kernel
theorem dL_law_805 : decode cL_law 805 = .ok (.invokevirtual 114, 3) := by decide +kernel
theorem dL_law_808 : decode cL_law 808 = .ok (.aload_n 2, 1) := by decide +kernel
theorem dL_law_809 : decode cL_law 809 = .ok (.invokevirtual 117, 3) := by decide +kernel
theorem dL_law_812 : decode cL_law 812 = .ok (.if_icmp .eq 159, 3) := by decide +kernel
theorem dL_law_815 : decode cL_law 815 = .ok (.iconst 0, 1) := by decide +kernel
theorem dL_law_816 : decode cL_law 816 = .ok (.ireturn, 1) := by decide +kernel
theorem dL_law_817 : decode cL_law 817 = .ok (.aload_n 1, 1) := by decide +kernel
theorem dL_law_818 : decode cL_law 818 = .ok (.aload_n 0, 1) := by decide +kernel
theorem dL_law_819 : decode cL_law 819 = .ok (.iload_n 3, 1) := by decide +kernel
theorem dL_law_820 : decode cL_law 820 = .ok (.iconst 1, 1) := by decide +kernel
theorem dL_law_821 : decode cL_law 821 = .ok (.iadd, 1) := by decide +kernel
theorem dL_law_822 : decode cL_law 822 = .ok (.iaload, 1) := by decide +kernel
theorem dL_law_823 : decode cL_law 823 = .ok (.aload_n 0, 1) := by decide +kernel
theorem dL_law_824 : decode cL_law 824 = .ok (.iload_n 3, 1) := by decide +kernel
theorem dL_law_825 : decode cL_law 825 = .ok (.iconst 2, 1) := by decide +kernel
theorem dL_law_826 : decode cL_law 826 = .ok (.iadd, 1) := by decide +kernel
theorem dL_law_827 : decode cL_law 827 = .ok (.iaload, 1) := by decide +kernel
theorem dL_law_828 : decode cL_law 828 = .ok (.aload_n 0, 1) := by decide +kernel
theorem dL_law_829 : decode cL_law 829 = .ok (.iload_n 3, 1) := by decide +kernel
theorem dL_law_830 : decode cL_law 830 = .ok (.iconst 3, 1) := by decide +kernel
theorem dL_law_831 : decode cL_law 831 = .ok (.iadd, 1) := by decide +kernel
theorem dL_law_832 : decode cL_law 832 = .ok (.iaload, 1) := by decide +kernel
theorem dL_law_833 : decode cL_law 833 = .ok (.ifCond .eq 7, 3) := by decide +kernel
theorem dL_law_836 : decode cL_law 836 = .ok (.iconst 1, 1) := by decide +kernel
theorem dL_law_837 : decode cL_law 837 = .ok (.goto 4, 3) := by decide +kernel
theorem dL_law_840 : decode cL_law 840 = .ok (.iconst 0, 1) := by decide +kernel
theorem dL_law_841 : decode cL_law 841 = .ok (.invokevirtual 118, 3) := by decide +kernel
theorem dL_law_844 : decode cL_law 844 = .ok (.aload_n 2, 1) := by decide +kernel
theorem dL_law_845 : decode cL_law 845 = .ok (.aload_n 0, 1) := by decide +kernel
theorem dL_law_846 : decode cL_law 846 = .ok (.iload_n 3, 1) := by decide +kernel
theorem dL_law_847 : decode cL_law 847 = .ok (.iconst 1, 1) := by decide +kernel
theorem dL_law_848 : decode cL_law 848 = .ok (.iadd, 1) := by decide +kernel
theorem dL_law_849 : decode cL_law 849 = .ok (.iaload, 1) := by decide +kernel
theorem dL_law_850 : decode cL_law 850 = .ok (.aload_n 0, 1) := by decide +kernel
theorem dL_law_851 : decode cL_law 851 = .ok (.iload_n 3, 1) := by decide +kernel
theorem dL_law_852 : decode cL_law 852 = .ok (.iconst 2, 1) := by decide +kernel
theorem dL_law_853 : decode cL_law 853 = .ok (.iadd, 1) := by decide +kernel
theorem dL_law_854 : decode cL_law 854 = .ok (.iaload, 1) := by decide +kernel
theorem dL_law_855 : decode cL_law 855 = .ok (.aload_n 0, 1) := by decide +kernel
theorem dL_law_856 : decode cL_law 856 = .ok (.iload_n 3, 1) := by decide +kernel
theorem dL_law_857 : decode cL_law 857 = .ok (.iconst 3, 1) := by decide +kernel
theorem dL_law_858 : decode cL_law 858 = .ok (.iadd, 1) := by decide +kernel
theorem dL_law_859 : decode cL_law 859 = .ok (.iaload, 1) := by decide +kernel
theorem dL_law_860 : decode cL_law 860 = .ok (.ifCond .eq 7, 3) := by decide +kernel
theorem dL_law_863 : decode cL_law 863 = .ok (.iconst 1, 1) := by decide +kernel
theorem dL_law_864 : decode cL_law 864 = .ok (.goto 4, 3) := by decide +kernel
theorem dL_law_867 : decode cL_law 867 = .ok (.iconst 0, 1) := by decide +kernel
theorem dL_law_868 : decode cL_law 868 = .ok (.invokevirtual 122, 3) := by decide +kernel
theorem dL_law_871 : decode cL_law 871 = .ok (.if_icmp .eq 100, 3) := by decide +kernel
theorem dL_law_874 : decode cL_law 874 = .ok (.iconst 0, 1) := by decide +kernel
theorem dL_law_875 : decode cL_law 875 = .ok (.ireturn, 1) := by decide +kernel
theorem dL_law_876 : decode cL_law 876 = .ok (.aload_n 1, 1) := by decide +kernel
theorem dL_law_877 : decode cL_law 877 = .ok (.invokevirtual 123, 3) := by decide +kernel
theorem dL_law_880 : decode cL_law 880 = .ok (.aload_n 2, 1) := by decide +kernel
theorem dL_law_881 : decode cL_law 881 = .ok (.invokevirtual 126, 3) := by decide +kernel
theorem dL_law_884 : decode cL_law 884 = .ok (.if_icmp .eq 87, 3) := by decide +kernel
theorem dL_law_887 : decode cL_law 887 = .ok (.iconst 0, 1) := by decide +kernel
theorem dL_law_888 : decode cL_law 888 = .ok (.ireturn, 1) := by decide +kernel
theorem dL_law_889 : decode cL_law 889 = .ok (.aload_n 1, 1) := by decide +kernel
theorem dL_law_890 : decode cL_law 890 = .ok (.invokevirtual 127, 3) := by decide +kernel
theorem dL_law_893 : decode cL_law 893 = .ok (.aload_n 2, 1) := by decide +kernel
theorem dL_law_894 : decode cL_law 894 = .ok (.invokevirtual 130, 3) := by decide +kernel
theorem dL_law_897 : decode cL_law 897 = .ok (.if_icmp .eq 74, 3) := by decide +kernel
theorem dL_law_900 : decode cL_law 900 = .ok (.iconst 0, 1) := by decide +kernel
theorem dL_law_901 : decode cL_law 901 = .ok (.ireturn, 1) := by decide +kernel
theorem dL_law_902 : decode cL_law 902 = .ok (.aload_n 1, 1) := by decide +kernel
theorem dL_law_903 : decode cL_law 903 = .ok (.aload_n 0, 1) := by decide +kernel
theorem dL_law_904 : decode cL_law 904 = .ok (.iload_n 3, 1) := by decide +kernel
theorem dL_law_905 : decode cL_law 905 = .ok (.iconst 1, 1) := by decide +kernel
theorem dL_law_906 : decode cL_law 906 = .ok (.iadd, 1) := by decide +kernel
theorem dL_law_907 : decode cL_law 907 = .ok (.iaload, 1) := by decide +kernel
theorem dL_law_908 : decode cL_law 908 = .ok (.invokevirtual 131, 3) := by decide +kernel
theorem dL_law_911 : decode cL_law 911 = .ok (.aload_n 2, 1) := by decide +kernel
theorem dL_law_912 : decode cL_law 912 = .ok (.aload_n 0, 1) := by decide +kernel
theorem dL_law_913 : decode cL_law 913 = .ok (.iload_n 3, 1) := by decide +kernel
theorem dL_law_914 : decode cL_law 914 = .ok (.iconst 1, 1) := by decide +kernel
theorem dL_law_915 : decode cL_law 915 = .ok (.iadd, 1) := by decide +kernel
theorem dL_law_916 : decode cL_law 916 = .ok (.iaload, 1) := by decide +kernel
theorem dL_law_917 : decode cL_law 917 = .ok (.invokevirtual 134, 3) := by decide +kernel
theorem dL_law_920 : decode cL_law 920 = .ok (.if_icmp .eq 51, 3) := by decide +kernel
theorem dL_law_923 : decode cL_law 923 = .ok (.iconst 0, 1) := by decide +kernel
theorem dL_law_924 : decode cL_law 924 = .ok (.ireturn, 1) := by decide +kernel
theorem dL_law_925 : decode cL_law 925 = .ok (.aload_n 1, 1) := by decide +kernel
theorem dL_law_926 : decode cL_law 926 = .ok (.aload_n 0, 1) := by decide +kernel
theorem dL_law_927 : decode cL_law 927 = .ok (.iload_n 3, 1) := by decide +kernel
theorem dL_law_928 : decode cL_law 928 = .ok (.iconst 1, 1) := by decide +kernel
theorem dL_law_929 : decode cL_law 929 = .ok (.iadd, 1) := by decide +kernel
theorem dL_law_930 : decode cL_law 930 = .ok (.iaload, 1) := by decide +kernel
theorem dL_law_931 : decode cL_law 931 = .ok (.invokevirtual 135, 3) := by decide +kernel
theorem dL_law_934 : decode cL_law 934 = .ok (.aload_n 2, 1) := by decide +kernel
theorem dL_law_935 : decode cL_law 935 = .ok (.aload_n 0, 1) := by decide +kernel
theorem dL_law_936 : decode cL_law 936 = .ok (.iload_n 3, 1) := by decide +kernel
theorem dL_law_937 : decode cL_law 937 = .ok (.iconst 1, 1) := by decide +kernel
theorem dL_law_938 : decode cL_law 938 = .ok (.iadd, 1) := by decide +kernel
theorem dL_law_939 : decode cL_law 939 = .ok (.iaload, 1) := by decide +kernel
theorem dL_law_940 : decode cL_law 940 = .ok (.invokevirtual 138, 3) := by decide +kernel
theorem dL_law_943 : decode cL_law 943 = .ok (.if_icmp .eq 28, 3) := by decide +kernel
theorem dL_law_946 : decode cL_law 946 = .ok (.iconst 0, 1) := by decide +kernel
theorem dL_law_947 : decode cL_law 947 = .ok (.ireturn, 1) := by decide +kernel
theorem dL_law_948 : decode cL_law 948 = .ok (.aload_n 1, 1) := by decide +kernel
theorem dL_law_949 : decode cL_law 949 = .ok (.aload_n 0, 1) := by decide +kernel
theorem dL_law_950 : decode cL_law 950 = .ok (.iload_n 3, 1) := by decide +kernel
theorem dL_law_951 : decode cL_law 951 = .ok (.iconst 1, 1) := by decide +kernel
theorem dL_law_952 : decode cL_law 952 = .ok (.iadd, 1) := by decide +kernel
theorem dL_law_953 : decode cL_law 953 = .ok (.iaload, 1) := by decide +kernel
theorem dL_law_954 : decode cL_law 954 = .ok (.invokevirtual 139, 3) := by decide +kernel
theorem dL_law_957 : decode cL_law 957 = .ok (.aload_n 2, 1) := by decide +kernel
theorem dL_law_958 : decode cL_law 958 = .ok (.aload_n 0, 1) := by decide +kernel
theorem dL_law_959 : decode cL_law 959 = .ok (.iload_n 3, 1) := by decide +kernel
theorem dL_law_960 : decode cL_law 960 = .ok (.iconst 1, 1) := by decide +kernel
theorem dL_law_961 : decode cL_law 961 = .ok (.iadd, 1) := by decide +kernel
theorem dL_law_962 : decode cL_law 962 = .ok (.iaload, 1) := by decide +kernel
theorem dL_law_963 : decode cL_law 963 = .ok (.invokevirtual 142, 3) := by decide +kernel
theorem dL_law_966 : decode cL_law 966 = .ok (.if_icmp .eq 5, 3) := by decide +kernel
theorem dL_law_969 : decode cL_law 969 = .ok (.iconst 0, 1) := by decide +kernel
theorem dL_law_970 : decode cL_law 970 = .ok (.ireturn, 1) := by decide +kernel
theorem dL_law_971 : decode cL_law 971 = .ok (.iinc 3 6, 3) := by decide +kernel
theorem dL_law_974 : decode cL_law 974 = .ok (.goto (-956), 3) := by decide +kernel
theorem dL_law_977 : decode cL_law 977 = .ok (.iconst 1, 1) := by decide +kernel
theorem dL_law_978 : decode cL_law 978 = .ok (.ireturn, 1) := by decide +kernel
theorem dX0_init_0 : decode cX0_init 0 = .ok (.aload_n 0, 1) := by decide +kernel
theorem dX0_init_1 : decode cX0_init 1 = .ok (.invokespecial 3, 3) := by decide +kernel
theorem dX0_init_4 : decode cX0_init 4 = .ok (.aload_n 0, 1) := by decide +kernel
theorem dX0_init_5 : decode cX0_init 5 = .ok (.bipush 20, 2) := by decide +kernel
theorem dX0_init_7 : decode cX0_init 7 = .ok (.newarray .int, 2) := by decide +kernel
theorem dX0_init_9 : decode cX0_init 9 = .ok (.putfield 9, 3) := by decide +kernel
theorem dX0_init_12 : decode cX0_init 12 = .ok (.aload_n 0, 1) := by decide +kernel
theorem dX0_init_13 : decode cX0_init 13 = .ok (.bipush 20, 2) := by decide +kernel
theorem dX0_init_15 : decode cX0_init 15 = .ok (.newarray .int, 2) := by decide +kernel
theorem dX0_init_17 : decode cX0_init 17 = .ok (.putfield 15, 3) := by decide +kernel
theorem dX0_init_20 : decode cX0_init 20 = .ok (.aload_n 0, 1) := by decide +kernel
theorem dX0_init_21 : decode cX0_init 21 = .ok (.bipush 20, 2) := by decide +kernel
theorem dX0_init_23 : decode cX0_init 23 = .ok (.newarray .boolean, 2) := by decide +kernel
theorem dX0_init_25 : decode cX0_init 25 = .ok (.putfield 18, 3) := by decide +kernel
theorem dX0_init_28 : decode cX0_init 28 = .ok (.return_, 1) := by decide +kernel
theorem dX0_clear_0 : decode cX0_clear 0 = .ok (.aload_n 0, 1) := by decide +kernel
theorem dX0_clear_1 : decode cX0_clear 1 = .ok (.iconst 0, 1) := by decide +kernel
theorem dX0_clear_2 : decode cX0_clear 2 = .ok (.putfield 22, 3) := by decide +kernel
theorem dX0_clear_5 : decode cX0_clear 5 = .ok (.return_, 1) := by decide +kernel
theorem dX0_add_0 : decode cX0_add 0 = .ok (.aload_n 0, 1) := by decide +kernel
theorem dX0_add_1 : decode cX0_add 1 = .ok (.getfield 22, 3) := by decide +kernel
theorem dX0_add_4 : decode cX0_add 4 = .ok (.bipush 20, 2) := by decide +kernel
theorem dX0_add_6 : decode cX0_add 6 = .ok (.if_icmp .ge 43, 3) := by decide +kernel
theorem dX0_add_9 : decode cX0_add 9 = .ok (.aload_n 0, 1) := by decide +kernel
theorem dX0_add_10 : decode cX0_add 10 = .ok (.getfield 9, 3) := by decide +kernel
theorem dX0_add_13 : decode cX0_add 13 = .ok (.aload_n 0, 1) := by decide +kernel
theorem dX0_add_14 : decode cX0_add 14 = .ok (.getfield 22, 3) := by decide +kernel
theorem dX0_add_17 : decode cX0_add 17 = .ok (.iload_n 1, 1) := by decide +kernel
theorem dX0_add_18 : decode cX0_add 18 = .ok (.iastore, 1) := by decide +kernel
theorem dX0_add_19 : decode cX0_add 19 = .ok (.aload_n 0, 1) := by decide +kernel
theorem dX0_add_20 : decode cX0_add 20 = .ok (.getfield 15, 3) := by decide +kernel
theorem dX0_add_23 : decode cX0_add 23 = .ok (.aload_n 0, 1) := by decide +kernel
theorem dX0_add_24 : decode cX0_add 24 = .ok (.getfield 22, 3) := by decide +kernel
theorem dX0_add_27 : decode cX0_add 27 = .ok (.iload_n 2, 1) := by decide +kernel
theorem dX0_add_28 : decode cX0_add 28 = .ok (.iastore, 1) := by decide +kernel
theorem dX0_add_29 : decode cX0_add 29 = .ok (.aload_n 0, 1) := by decide +kernel
theorem dX0_add_30 : decode cX0_add 30 = .ok (.getfield 18, 3) := by decide +kernel
theorem dX0_add_33 : decode cX0_add 33 = .ok (.aload_n 0, 1) := by decide +kernel
theorem dX0_add_34 : decode cX0_add 34 = .ok (.getfield 22, 3) := by decide +kernel
theorem dX0_add_37 : decode cX0_add 37 = .ok (.iload_n 3, 1) := by decide +kernel
theorem dX0_add_38 : decode cX0_add 38 = .ok (.bastore, 1) := by decide +kernel
theorem dX0_add_39 : decode cX0_add 39 = .ok (.aload_n 0, 1) := by decide +kernel
theorem dX0_add_40 : decode cX0_add 40 = .ok (.dup, 1) := by decide +kernel
theorem dX0_add_41 : decode cX0_add 41 = .ok (.getfield 22, 3) := by decide +kernel
theorem dX0_add_44 : decode cX0_add 44 = .ok (.iconst 1, 1) := by decide +kernel
theorem dX0_add_45 : decode cX0_add 45 = .ok (.iadd, 1) := by decide +kernel
theorem dX0_add_46 : decode cX0_add 46 = .ok (.putfield 22, 3) := by decide +kernel
theorem dX0_add_49 : decode cX0_add 49 = .ok (.aload_n 0, 1) := by decide +kernel
theorem dX0_add_50 : decode cX0_add 50 = .ok (.getfield 22, 3) := by decide +kernel
theorem dX0_add_53 : decode cX0_add 53 = .ok (.ireturn, 1) := by decide +kernel
theorem dX0_firstWrong_0 : decode cX0_firstWrong 0 = .ok (.iconst 0, 1) := by decide +kernel
theorem dX0_firstWrong_1 : decode cX0_firstWrong 1 = .ok (.istore_n 2, 1) := by decide +kernel
theorem dX0_firstWrong_2 : decode cX0_firstWrong 2 = .ok (.iload_n 2, 1) := by decide +kernel
theorem dX0_firstWrong_3 : decode cX0_firstWrong 3 = .ok (.aload_n 0, 1) := by decide +kernel
theorem dX0_firstWrong_4 : decode cX0_firstWrong 4 = .ok (.getfield 22, 3) := by decide +kernel
theorem dX0_firstWrong_7 : decode cX0_firstWrong 7 = .ok (.if_icmp .ge 51, 3) := by decide +kernel
theorem dX0_firstWrong_10 : decode cX0_firstWrong 10 = .ok (.aload_n 1, 1) := by decide +kernel
theorem dX0_firstWrong_11 : decode cX0_firstWrong 11 = .ok (.aload_n 0, 1) := by decide +kernel
theorem dX0_firstWrong_12 : decode cX0_firstWrong 12 = .ok (.getfield 9, 3) := by decide +kernel
theorem dX0_firstWrong_15 : decode cX0_firstWrong 15 = .ok (.iload_n 2, 1) := by decide +kernel
theorem dX0_firstWrong_16 : decode cX0_firstWrong 16 = .ok (.iaload, 1) := by decide +kernel
theorem dX0_firstWrong_17 : decode cX0_firstWrong 17 = .ok (.invokevirtual 26, 3) := by decide +kernel
theorem dX0_firstWrong_20 : decode cX0_firstWrong 20 = .ok (.ifCond .eq 5, 3) := by decide +kernel
theorem dX0_firstWrong_23 : decode cX0_firstWrong 23 = .ok (.iload_n 2, 1) := by decide +kernel
theorem dX0_firstWrong_24 : decode cX0_firstWrong 24 = .ok (.ireturn, 1) := by decide +kernel
theorem dX0_firstWrong_25 : decode cX0_firstWrong 25 = .ok (.aload_n 1, 1) := by decide +kernel
theorem dX0_firstWrong_26 : decode cX0_firstWrong 26 = .ok (.aload_n 0, 1) := by decide +kernel
theorem dX0_firstWrong_27 : decode cX0_firstWrong 27 = .ok (.getfield 9, 3) := by decide +kernel
theorem dX0_firstWrong_30 : decode cX0_firstWrong 30 = .ok (.iload_n 2, 1) := by decide +kernel
theorem dX0_firstWrong_31 : decode cX0_firstWrong 31 = .ok (.iaload, 1) := by decide +kernel
theorem dX0_firstWrong_32 : decode cX0_firstWrong 32 = .ok (.aload_n 0, 1) := by decide +kernel
theorem dX0_firstWrong_33 : decode cX0_firstWrong 33 = .ok (.getfield 15, 3) := by decide +kernel
theorem dX0_firstWrong_36 : decode cX0_firstWrong 36 = .ok (.iload_n 2, 1) := by decide +kernel
theorem dX0_firstWrong_37 : decode cX0_firstWrong 37 = .ok (.iaload, 1) := by decide +kernel
theorem dX0_firstWrong_38 : decode cX0_firstWrong 38 = .ok (.invokevirtual 32, 3) := by decide +kernel
theorem dX0_firstWrong_41 : decode cX0_firstWrong 41 = .ok (.aload_n 0, 1) := by decide +kernel
theorem dX0_firstWrong_42 : decode cX0_firstWrong 42 = .ok (.getfield 18, 3) := by decide +kernel
theorem dX0_firstWrong_45 : decode cX0_firstWrong 45 = .ok (.iload_n 2, 1) := by decide +kernel
theorem dX0_firstWrong_46 : decode cX0_firstWrong 46 = .ok (.baload, 1) := by decide +kernel
theorem dX0_firstWrong_47 : decode cX0_firstWrong 47 = .ok (.if_icmp .eq 5, 3) := by decide +kernel
theorem dX0_firstWrong_50 : decode cX0_firstWrong 50 = .ok (.iload_n 2, 1) := by decide +kernel
theorem dX0_firstWrong_51 : decode cX0_firstWrong 51 = .ok (.ireturn, 1) := by decide +kernel
theorem dX0_firstWrong_52 : decode cX0_firstWrong 52 = .ok (.iinc 2 1, 3) := by decide +kernel
theorem dX0_firstWrong_55 : decode cX0_firstWrong 55 = .ok (.goto (-53), 3) := by decide +kernel
theorem dX0_firstWrong_58 : decode cX0_firstWrong 58 = .ok (.iconst (-1), 1) := by decide +kernel
theorem dX0_firstWrong_59 : decode cX0_firstWrong 59 = .ok (.ireturn, 1) := by decide +kernel
theorem dX1_init_0 : decode cX1_init 0 = .ok (.aload_n 0, 1) := by decide +kernel
theorem dX1_init_1 : decode cX1_init 1 = .ok (.invokespecial 3, 3) := by decide +kernel
theorem dX1_init_4 : decode cX1_init 4 = .ok (.aload_n 0, 1) := by decide +kernel
theorem dX1_init_5 : decode cX1_init 5 = .ok (.bipush 6, 2) := by decide +kernel
theorem dX1_init_7 : decode cX1_init 7 = .ok (.newarray .boolean, 2) := by decide +kernel
theorem dX1_init_9 : decode cX1_init 9 = .ok (.putfield 9, 3) := by decide +kernel
theorem dX1_init_12 : decode cX1_init 12 = .ok (.aload_n 0, 1) := by decide +kernel
theorem dX1_init_13 : decode cX1_init 13 = .ok (.bipush 6, 2) := by decide +kernel
theorem dX1_init_15 : decode cX1_init 15 = .ok (.newarray .boolean, 2) := by decide +kernel
theorem dX1_init_17 : decode cX1_init 17 = .ok (.putfield 15, 3) := by decide +kernel
theorem dX1_init_20 : decode cX1_init 20 = .ok (.aload_n 0, 1) := by decide +kernel
theorem dX1_init_21 : decode cX1_init 21 = .ok (.bipush 6, 2) := by decide +kernel
theorem dX1_init_23 : decode cX1_init 23 = .ok (.newarray .int, 2) := by decide +kernel
theorem dX1_init_25 : decode cX1_init 25 = .ok (.putfield 18, 3) := by decide +kernel
theorem dX1_init_28 : decode cX1_init 28 = .ok (.aload_n 0, 1) := by decide +kernel
theorem dX1_init_29 : decode cX1_init 29 = .ok (.bipush 6, 2) := by decide +kernel
theorem dX1_init_31 : decode cX1_init 31 = .ok (.newarray .int, 2) := by decide +kernel
theorem dX1_init_33 : decode cX1_init 33 = .ok (.putfield 22, 3) := by decide +kernel
theorem dX1_init_36 : decode cX1_init 36 = .ok (.aload_n 0, 1) := by decide +kernel
theorem dX1_init_37 : decode cX1_init 37 = .ok (.aload_n 1, 1) := by decide +kernel
theorem dX1_init_38 : decode cX1_init 38 = .ok (.putfield 25, 3) := by decide +kernel
theorem dX1_init_41 : decode cX1_init 41 = .ok (.return_, 1) := by decide +kernel
theorem dX1_find_0 : decode cX1_find 0 = .ok (.aload_n 0, 1) := by decide +kernel
theorem dX1_find_1 : decode cX1_find 1 = .ok (.aload_n 1, 1) := by decide +kernel
theorem dX1_find_2 : decode cX1_find 2 = .ok (.iload_n 2, 1) := by decide +kernel
theorem dX1_find_3 : decode cX1_find 3 = .ok (.invokevirtual 29, 3) := by decide +kernel
theorem dX1_find_6 : decode cX1_find 6 = .ok (.ifCond .eq 7, 3) := by decide +kernel
theorem dX1_find_9 : decode cX1_find 9 = .ok (.iconst 0, 1) := by decide +kernel
theorem dX1_find_10 : decode cX1_find 10 = .ok (.goto 4, 3) := by decide +kernel
theorem dX1_find_13 : decode cX1_find 13 = .ok (.iconst (-1), 1) := by decide +kernel
theorem dX1_find_14 : decode cX1_find 14 = .ok (.putfield 35, 3) := by decide +kernel
theorem dX1_find_17 : decode cX1_find 17 = .ok (.aload_n 0, 1) := by decide +kernel
theorem dX1_find_18 : decode cX1_find 18 = .ok (.getfield 35, 3) := by decide +kernel
theorem dX1_find_21 : decode cX1_find 21 = .ok (.ifCond .ne 4, 3) := by decide +kernel
theorem dX1_find_24 : decode cX1_find 24 = .ok (.return_, 1) := by decide +kernel
theorem dX1_find_25 : decode cX1_find 25 = .ok (.iconst 0, 1) := by decide +kernel
theorem dX1_find_26 : decode cX1_find 26 = .ok (.istore_n 3, 1) := by decide +kernel
theorem dX1_find_27 : decode cX1_find 27 = .ok (.iload_n 3, 1) := by decide +kernel
theorem dX1_find_28 : decode cX1_find 28 = .ok (.aload_n 0, 1) := by decide +kernel
theorem dX1_find_29 : decode cX1_find 29 = .ok (.getfield 25, 3) := by decide +kernel
theorem dX1_find_32 : decode cX1_find 32 = .ok (.getfield 39, 3) := by decide +kernel
theorem dX1_find_35 : decode cX1_find 35 = .ok (.if_icmp .ge 56, 3) := by decide +kernel
theorem dX1_find_38 : decode cX1_find 38 = .ok (.aload_n 0, 1) := by decide +kernel
theorem dX1_find_39 : decode cX1_find 39 = .ok (.getfield 9, 3) := by decide +kernel
theorem dX1_find_42 : decode cX1_find 42 = .ok (.iload_n 3, 1) := by decide +kernel
theorem dX1_find_43 : decode cX1_find 43 = .ok (.aload_n 1, 1) := by decide +kernel
theorem dX1_find_44 : decode cX1_find 44 = .ok (.iload_n 3, 1) := by decide +kernel
theorem dX1_find_45 : decode cX1_find 45 = .ok (.invokevirtual 44, 3) := by decide +kernel
theorem dX1_find_48 : decode cX1_find 48 = .ok (.bastore, 1) := by decide +kernel
theorem dX1_find_49 : decode cX1_find 49 = .ok (.aload_n 0, 1) := by decide +kernel
theorem dX1_find_50 : decode cX1_find 50 = .ok (.getfield 15, 3) := by decide +kernel
theorem dX1_find_53 : decode cX1_find 53 = .ok (.iload_n 3, 1) := by decide +kernel
theorem dX1_find_54 : decode cX1_find 54 = .ok (.aload_n 1, 1) := by decide +kernel
theorem dX1_find_55 : decode cX1_find 55 = .ok (.iload_n 3, 1) := by decide +kernel
theorem dX1_find_56 : decode cX1_find 56 = .ok (.invokevirtual 29, 3) := by decide +kernel
theorem dX1_find_59 : decode cX1_find 59 = .ok (.ifCond .ne 24, 3) := by decide +kernel
theorem dX1_find_62 : decode cX1_find 62 = .ok (.aload_n 0, 1) := by decide +kernel
theorem dX1_find_63 : decode cX1_find 63 = .ok (.getfield 9, 3) := by decide +kernel
theorem dX1_find_66 : decode cX1_find 66 = .ok (.iload_n 3, 1) := by decide +kernel
theorem dX1_find_67 : decode cX1_find 67 = .ok (.baload, 1) := by decide +kernel
theorem dX1_find_68 : decode cX1_find 68 = .ok (.ifCond .ne 11, 3) := by decide +kernel
theorem dX1_find_71 : decode cX1_find 71 = .ok (.aload_n 1, 1) := by decide +kernel
theorem dX1_find_72 : decode cX1_find 72 = .ok (.iload_n 3, 1) := by decide +kernel
theorem dX1_find_73 : decode cX1_find 73 = .ok (.invokevirtual 47, 3) := by decide +kernel
theorem dX1_find_76 : decode cX1_find 76 = .ok (.ifCond .eq 7, 3) := by decide +kernel
theorem dX1_find_79 : decode cX1_find 79 = .ok (.iconst 1, 1) := by decide +kernel
theorem dX1_find_80 : decode cX1_find 80 = .ok (.goto 4, 3) := by decide +kernel
theorem dX1_find_83 : decode cX1_find 83 = .ok (.iconst 0, 1) := by decide +kernel
theorem dX1_find_84 : decode cX1_find 84 = .ok (.bastore, 1) := by decide +kernel
theorem dX1_find_85 : decode cX1_find 85 = .ok (.iinc 3 1, 3) := by decide +kernel
theorem dX1_find_88 : decode cX1_find 88 = .ok (.goto (-61), 3) := by decide +kernel
theorem dX1_find_91 : decode cX1_find 91 = .ok (.aload_n 0, 1) := by decide +kernel
theorem dX1_find_92 : decode cX1_find 92 = .ok (.iload_n 2, 1) := by decide +kernel
theorem dX1_find_93 : decode cX1_find 93 = .ok (.invokevirtual 50, 3) := by decide +kernel
theorem dX1_find_96 : decode cX1_find 96 = .ok (.aload_n 0, 1) := by decide +kernel
theorem dX1_find_97 : decode cX1_find 97 = .ok (.iconst (-1), 1) := by decide +kernel
theorem dX1_find_98 : decode cX1_find 98 = .ok (.invokevirtual 54, 3) := by decide +kernel
theorem dX1_find_101 : decode cX1_find 101 = .ok (.istore_n 3, 1) := by decide +kernel
theorem dX1_find_102 : decode cX1_find 102 = .ok (.iload_n 3, 1) := by decide +kernel
theorem dX1_find_103 : decode cX1_find 103 = .ok (.iconst (-1), 1) := by decide +kernel
theorem dX1_find_104 : decode cX1_find 104 = .ok (.if_icmp .ne 4, 3) := by decide +kernel
theorem dX1_find_107 : decode cX1_find 107 = .ok (.return_, 1) := by decide +kernel
theorem dX1_find_108 : decode cX1_find 108 = .ok (.aload_n 0, 1) := by decide +kernel
theorem dX1_find_109 : decode cX1_find 109 = .ok (.aload_n 0, 1) := by decide +kernel
theorem dX1_find_110 : decode cX1_find 110 = .ok (.getfield 18, 3) := by decide +kernel
theorem dX1_find_113 : decode cX1_find 113 = .ok (.iload_n 3, 1) := by decide +kernel
theorem dX1_find_114 : decode cX1_find 114 = .ok (.iaload, 1) := by decide +kernel
theorem dX1_find_115 : decode cX1_find 115 = .ok (.iconst 1, 1) := by decide +kernel
theorem dX1_find_116 : decode cX1_find 116 = .ok (.iadd, 1) := by decide +kernel
theorem dX1_find_117 : decode cX1_find 117 = .ok (.putfield 35, 3) := by decide +kernel
theorem dX1_find_120 : decode cX1_find 120 = .ok (.iconst 0, 1) := by decide +kernel
theorem dX1_find_121 : decode cX1_find 121 = .ok (.istore 4, 2) := by decide +kernel
theorem dX1_find_123 : decode cX1_find 123 = .ok (.iload 4, 2) := by decide +kernel
theorem dX1_find_125 : decode cX1_find 125 = .ok (.aload_n 0, 1) := by decide +kernel
theorem dX1_find_126 : decode cX1_find 126 = .ok (.getfield 35, 3) := by decide +kernel
theorem dX1_find_129 : decode cX1_find 129 = .ok (.if_icmp .ge 35, 3) := by decide +kernel
theorem dX1_find_132 : decode cX1_find 132 = .ok (.iload 4, 2) := by decide +kernel
theorem dX1_find_134 : decode cX1_find 134 = .ok (.bipush 6, 2) := by decide +kernel
theorem dX1_find_136 : decode cX1_find 136 = .ok (.if_icmp .ge 28, 3) := by decide +kernel
theorem dX1_find_139 : decode cX1_find 139 = .ok (.iload_n 3, 1) := by decide +kernel
theorem dX1_find_140 : decode cX1_find 140 = .ok (.iconst (-1), 1) := by decide +kernel
theorem dX1_find_141 : decode cX1_find 141 = .ok (.if_icmp .eq 23, 3) := by decide +kernel
theorem dX1_find_144 : decode cX1_find 144 = .ok (.aload_n 0, 1) := by decide +kernel
theorem dX1_find_145 : decode cX1_find 145 = .ok (.getfield 22, 3) := by decide +kernel
theorem dX1_find_148 : decode cX1_find 148 = .ok (.iload 4, 2) := by decide +kernel
theorem dX1_find_150 : decode cX1_find 150 = .ok (.iload_n 3, 1) := by decide +kernel
theorem dX1_find_151 : decode cX1_find 151 = .ok (.iastore, 1) := by decide +kernel
theorem dX1_find_152 : decode cX1_find 152 = .ok (.aload_n 0, 1) := by decide +kernel
theorem dX1_find_153 : decode cX1_find 153 = .ok (.iload_n 3, 1) := by decide +kernel
theorem dX1_find_154 : decode cX1_find 154 = .ok (.invokevirtual 54, 3) := by decide +kernel
theorem dX1_find_157 : decode cX1_find 157 = .ok (.istore_n 3, 1) := by decide +kernel
theorem dX1_find_158 : decode cX1_find 158 = .ok (.iinc 4 1, 3) := by decide +kernel
theorem dX1_find_161 : decode cX1_find 161 = .ok (.goto (-38), 3) := by decide +kernel
theorem dX1_find_164 : decode cX1_find 164 = .ok (.return_, 1) := by decide +kernel
theorem dX1_holderAt_0 : decode cX1_holderAt 0 = .ok (.iload_n 1, 1) := by decide +kernel
theorem dX1_holderAt_1 : decode cX1_holderAt 1 = .ok (.ifCond .lt 26, 3) := by decide +kernel
theorem dX1_holderAt_4 : decode cX1_holderAt 4 = .ok (.iload_n 1, 1) := by decide +kernel
theorem dX1_holderAt_5 : decode cX1_holderAt 5 = .ok (.aload_n 0, 1) := by decide +kernel
theorem dX1_holderAt_6 : decode cX1_holderAt 6 = .ok (.getfield 35, 3) := by decide +kernel
theorem dX1_holderAt_9 : decode cX1_holderAt 9 = .ok (.if_icmp .ge 18, 3) := by decide +kernel
theorem dX1_holderAt_12 : decode cX1_holderAt 12 = .ok (.iload_n 1, 1) := by decide +kernel
theorem dX1_holderAt_13 : decode cX1_holderAt 13 = .ok (.bipush 6, 2) := by decide +kernel
theorem dX1_holderAt_15 : decode cX1_holderAt 15 = .ok (.if_icmp .ge 12, 3) := by decide +kernel
theorem dX1_holderAt_18 : decode cX1_holderAt 18 = .ok (.aload_n 0, 1) := by decide +kernel
theorem dX1_holderAt_19 : decode cX1_holderAt 19 = .ok (.getfield 22, 3) := by decide +kernel
theorem dX1_holderAt_22 : decode cX1_holderAt 22 = .ok (.iload_n 1, 1) := by decide +kernel
theorem dX1_holderAt_23 : decode cX1_holderAt 23 = .ok (.iaload, 1) := by decide +kernel
theorem dX1_holderAt_24 : decode cX1_holderAt 24 = .ok (.goto 4, 3) := by decide +kernel
theorem dX1_holderAt_27 : decode cX1_holderAt 27 = .ok (.iconst (-1), 1) := by decide +kernel
theorem dX1_holderAt_28 : decode cX1_holderAt 28 = .ok (.ireturn, 1) := by decide +kernel
theorem dX1_countSteps_0 : decode cX1_countSteps 0 = .ok (.iconst 0, 1) := by decide +kernel
theorem dX1_countSteps_1 : decode cX1_countSteps 1 = .ok (.istore_n 2, 1) := by decide +kernel
theorem dX1_countSteps_2 : decode cX1_countSteps 2 = .ok (.iload_n 2, 1) := by decide +kernel
theorem dX1_countSteps_3 : decode cX1_countSteps 3 = .ok (.bipush 6, 2) := by decide +kernel
theorem dX1_countSteps_5 : decode cX1_countSteps 5 = .ok (.if_icmp .ge 25, 3) := by decide +kernel
theorem dX1_countSteps_8 : decode cX1_countSteps 8 = .ok (.aload_n 0, 1) := by decide +kernel
theorem dX1_countSteps_9 : decode cX1_countSteps 9 = .ok (.getfield 18, 3) := by decide +kernel
theorem dX1_countSteps_12 : decode cX1_countSteps 12 = .ok (.iload_n 2, 1) := by decide +kernel
theorem dX1_countSteps_13 : decode cX1_countSteps 13 = .ok (.iload_n 2, 1) := by decide +kernel
theorem dX1_countSteps_14 : decode cX1_countSteps 14 = .ok (.iload_n 1, 1) := by decide +kernel
theorem dX1_countSteps_15 : decode cX1_countSteps 15 = .ok (.if_icmp .ne 7, 3) := by decide +kernel
theorem dX1_countSteps_18 : decode cX1_countSteps 18 = .ok (.iconst 0, 1) := by decide +kernel
theorem dX1_countSteps_19 : decode cX1_countSteps 19 = .ok (.goto 4, 3) := by decide +kernel
theorem dX1_countSteps_22 : decode cX1_countSteps 22 = .ok (.iconst (-1), 1) := by decide +kernel
theorem dX1_countSteps_23 : decode cX1_countSteps 23 = .ok (.iastore, 1) := by decide +kernel
theorem dX1_countSteps_24 : decode cX1_countSteps 24 = .ok (.iinc 2 1, 3) := by decide +kernel
theorem dX1_countSteps_27 : decode cX1_countSteps 27 = .ok (.goto (-25), 3) := by decide +kernel
theorem dX1_countSteps_30 : decode cX1_countSteps 30 = .ok (.iconst 1, 1) := by decide +kernel
theorem dX1_countSteps_31 : decode cX1_countSteps 31 = .ok (.istore_n 2, 1) := by decide +kernel
theorem dX1_countSteps_32 : decode cX1_countSteps 32 = .ok (.iload_n 2, 1) := by decide +kernel
theorem dX1_countSteps_33 : decode cX1_countSteps 33 = .ok (.aload_n 0, 1) := by decide +kernel
theorem dX1_countSteps_34 : decode cX1_countSteps 34 = .ok (.getfield 25, 3) := by decide +kernel
theorem dX1_countSteps_37 : decode cX1_countSteps 37 = .ok (.getfield 39, 3) := by decide +kernel
theorem dX1_countSteps_40 : decode cX1_countSteps 40 = .ok (.if_icmp .ge 56, 3) := by decide +kernel
theorem dX1_countSteps_43 : decode cX1_countSteps 43 = .ok (.iconst 0, 1) := by decide +kernel
theorem dX1_countSteps_44 : decode cX1_countSteps 44 = .ok (.istore_n 3, 1) := by decide +kernel
theorem dX1_countSteps_45 : decode cX1_countSteps 45 = .ok (.iload_n 3, 1) := by decide +kernel
theorem dX1_countSteps_46 : decode cX1_countSteps 46 = .ok (.aload_n 0, 1) := by decide +kernel
theorem dX1_countSteps_47 : decode cX1_countSteps 47 = .ok (.getfield 25, 3) := by decide +kernel
theorem dX1_countSteps_50 : decode cX1_countSteps 50 = .ok (.getfield 39, 3) := by decide +kernel
theorem dX1_countSteps_53 : decode cX1_countSteps 53 = .ok (.if_icmp .ge 37, 3) := by decide +kernel
theorem dX1_countSteps_56 : decode cX1_countSteps 56 = .ok (.aload_n 0, 1) := by decide +kernel
theorem dX1_countSteps_57 : decode cX1_countSteps 57 = .ok (.getfield 18, 3) := by decide +kernel
theorem dX1_countSteps_60 : decode cX1_countSteps 60 = .ok (.iload_n 3, 1) := by decide +kernel
theorem dX1_countSteps_61 : decode cX1_countSteps 61 = .ok (.iaload, 1) := by decide +kernel
theorem dX1_countSteps_62 : decode cX1_countSteps 62 = .ok (.iconst (-1), 1) := by decide +kernel
theorem dX1_countSteps_63 : decode cX1_countSteps 63 = .ok (.if_icmp .ne 21, 3) := by decide +kernel
theorem dX1_countSteps_66 : decode cX1_countSteps 66 = .ok (.aload_n 0, 1) := by decide +kernel
theorem dX1_countSteps_67 : decode cX1_countSteps 67 = .ok (.iload_n 3, 1) := by decide +kernel
theorem dX1_countSteps_68 : decode cX1_countSteps 68 = .ok (.iload_n 2, 1) := by decide +kernel
theorem dX1_countSteps_69 : decode cX1_countSteps 69 = .ok (.iconst 1, 1) := by decide +kernel
theorem dX1_countSteps_70 : decode cX1_countSteps 70 = .ok (.isub, 1) := by decide +kernel
theorem dX1_countSteps_71 : decode cX1_countSteps 71 = .ok (.invokevirtual 58, 3) := by decide +kernel
theorem dX1_countSteps_74 : decode cX1_countSteps 74 = .ok (.ifCond .eq 10, 3) := by decide +kernel
theorem dX1_countSteps_77 : decode cX1_countSteps 77 = .ok (.aload_n 0, 1) := by decide +kernel
theorem dX1_countSteps_78 : decode cX1_countSteps 78 = .ok (.getfield 18, 3) := by decide +kernel
theorem dX1_countSteps_81 : decode cX1_countSteps 81 = .ok (.iload_n 3, 1) := by decide +kernel
theorem dX1_countSteps_82 : decode cX1_countSteps 82 = .ok (.iload_n 2, 1) := by decide +kernel
theorem dX1_countSteps_83 : decode cX1_countSteps 83 = .ok (.iastore, 1) := by decide +kernel
theorem dX1_countSteps_84 : decode cX1_countSteps 84 = .ok (.iinc 3 1, 3) := by decide +kernel
theorem dX1_countSteps_87 : decode cX1_countSteps 87 = .ok (.goto (-42), 3) := by decide +kernel
theorem dX1_countSteps_90 : decode cX1_countSteps 90 = .ok (.iinc 2 1, 3) := by decide +kernel
theorem dX1_countSteps_93 : decode cX1_countSteps 93 = .ok (.goto (-61), 3) := by decide +kernel
theorem dX1_countSteps_96 : decode cX1_countSteps 96 = .ok (.return_, 1) := by decide +kernel
theorem dX1_leadsOn_0 : decode cX1_leadsOn 0 = .ok (.iconst 0, 1) := by decide +kernel
theorem dX1_leadsOn_1 : decode cX1_leadsOn 1 = .ok (.istore_n 3, 1) := by decide +kernel
theorem dX1_leadsOn_2 : decode cX1_leadsOn 2 = .ok (.iload_n 3, 1) := by decide +kernel
theorem dX1_leadsOn_3 : decode cX1_leadsOn 3 = .ok (.aload_n 0, 1) := by decide +kernel
theorem dX1_leadsOn_4 : decode cX1_leadsOn 4 = .ok (.getfield 25, 3) := by decide +kernel
theorem dX1_leadsOn_7 : decode cX1_leadsOn 7 = .ok (.getfield 39, 3) := by decide +kernel
theorem dX1_leadsOn_10 : decode cX1_leadsOn 10 = .ok (.if_icmp .ge 30, 3) := by decide +kernel
theorem dX1_leadsOn_13 : decode cX1_leadsOn 13 = .ok (.aload_n 0, 1) := by decide +kernel
theorem dX1_leadsOn_14 : decode cX1_leadsOn 14 = .ok (.getfield 18, 3) := by decide +kernel
theorem dX1_leadsOn_17 : decode cX1_leadsOn 17 = .ok (.iload_n 3, 1) := by decide +kernel
theorem dX1_leadsOn_18 : decode cX1_leadsOn 18 = .ok (.iaload, 1) := by decide +kernel
theorem dX1_leadsOn_19 : decode cX1_leadsOn 19 = .ok (.iload_n 2, 1) := by decide +kernel
theorem dX1_leadsOn_20 : decode cX1_leadsOn 20 = .ok (.if_icmp .ne 14, 3) := by decide +kernel
theorem dX1_leadsOn_23 : decode cX1_leadsOn 23 = .ok (.aload_n 0, 1) := by decide +kernel
theorem dX1_leadsOn_24 : decode cX1_leadsOn 24 = .ok (.iload_n 1, 1) := by decide +kernel
theorem dX1_leadsOn_25 : decode cX1_leadsOn 25 = .ok (.iload_n 3, 1) := by decide +kernel
theorem dX1_leadsOn_26 : decode cX1_leadsOn 26 = .ok (.invokevirtual 62, 3) := by decide +kernel
theorem dX1_leadsOn_29 : decode cX1_leadsOn 29 = .ok (.ifCond .eq 5, 3) := by decide +kernel
theorem dX1_leadsOn_32 : decode cX1_leadsOn 32 = .ok (.iconst 1, 1) := by decide +kernel
theorem dX1_leadsOn_33 : decode cX1_leadsOn 33 = .ok (.ireturn, 1) := by decide +kernel
theorem dX1_leadsOn_34 : decode cX1_leadsOn 34 = .ok (.iinc 3 1, 3) := by decide +kernel
theorem dX1_leadsOn_37 : decode cX1_leadsOn 37 = .ok (.goto (-35), 3) := by decide +kernel
theorem dX1_leadsOn_40 : decode cX1_leadsOn 40 = .ok (.iconst 0, 1) := by decide +kernel
theorem dX1_leadsOn_41 : decode cX1_leadsOn 41 = .ok (.ireturn, 1) := by decide +kernel
theorem dX1_nextOf_0 : decode cX1_nextOf 0 = .ok (.iconst (-1), 1) := by decide +kernel
theorem dX1_nextOf_1 : decode cX1_nextOf 1 = .ok (.istore_n 2, 1) := by decide +kernel
theorem dX1_nextOf_2 : decode cX1_nextOf 2 = .ok (.iconst 0, 1) := by decide +kernel
theorem dX1_nextOf_3 : decode cX1_nextOf 3 = .ok (.istore_n 3, 1) := by decide +kernel
theorem dX1_nextOf_4 : decode cX1_nextOf 4 = .ok (.iload_n 3, 1) := by decide +kernel
theorem dX1_nextOf_5 : decode cX1_nextOf 5 = .ok (.aload_n 0, 1) := by decide +kernel
theorem dX1_nextOf_6 : decode cX1_nextOf 6 = .ok (.getfield 25, 3) := by decide +kernel
theorem dX1_nextOf_9 : decode cX1_nextOf 9 = .ok (.getfield 39, 3) := by decide +kernel
theorem dX1_nextOf_12 : decode cX1_nextOf 12 = .ok (.if_icmp .ge 53, 3) := by decide +kernel
theorem dX1_nextOf_15 : decode cX1_nextOf 15 = .ok (.aload_n 0, 1) := by decide +kernel
theorem dX1_nextOf_16 : decode cX1_nextOf 16 = .ok (.getfield 18, 3) := by decide +kernel
theorem dX1_nextOf_19 : decode cX1_nextOf 19 = .ok (.iload_n 3, 1) := by decide +kernel
theorem dX1_nextOf_20 : decode cX1_nextOf 20 = .ok (.iaload, 1) := by decide +kernel
theorem dX1_nextOf_21 : decode cX1_nextOf 21 = .ok (.iconst (-1), 1) := by decide +kernel
theorem dX1_nextOf_22 : decode cX1_nextOf 22 = .ok (.if_icmp .eq 37, 3) := by decide +kernel
theorem dX1_nextOf_25 : decode cX1_nextOf 25 = .ok (.aload_n 0, 1) := by decide +kernel
theorem dX1_nextOf_26 : decode cX1_nextOf 26 = .ok (.iload_n 1, 1) := by decide +kernel
theorem dX1_nextOf_27 : decode cX1_nextOf 27 = .ok (.iload_n 3, 1) := by decide +kernel
theorem dX1_nextOf_28 : decode cX1_nextOf 28 = .ok (.invokevirtual 62, 3) := by decide +kernel
theorem dX1_nextOf_31 : decode cX1_nextOf 31 = .ok (.ifCond .ne 6, 3) := by decide +kernel
theorem dX1_nextOf_34 : decode cX1_nextOf 34 = .ok (.goto 25, 3) := by decide +kernel
theorem dX1_nextOf_37 : decode cX1_nextOf 37 = .ok (.iload_n 2, 1) := by decide +kernel
theorem dX1_nextOf_38 : decode cX1_nextOf 38 = .ok (.iconst (-1), 1) := by decide +kernel
theorem dX1_nextOf_39 : decode cX1_nextOf 39 = .ok (.if_icmp .eq 18, 3) := by decide +kernel
theorem dX1_nextOf_42 : decode cX1_nextOf 42 = .ok (.aload_n 0, 1) := by decide +kernel
theorem dX1_nextOf_43 : decode cX1_nextOf 43 = .ok (.getfield 18, 3) := by decide +kernel
theorem dX1_nextOf_46 : decode cX1_nextOf 46 = .ok (.iload_n 3, 1) := by decide +kernel
theorem dX1_nextOf_47 : decode cX1_nextOf 47 = .ok (.iaload, 1) := by decide +kernel
theorem dX1_nextOf_48 : decode cX1_nextOf 48 = .ok (.aload_n 0, 1) := by decide +kernel
theorem dX1_nextOf_49 : decode cX1_nextOf 49 = .ok (.getfield 18, 3) := by decide +kernel
theorem dX1_nextOf_52 : decode cX1_nextOf 52 = .ok (.iload_n 2, 1) := by decide +kernel
theorem dX1_nextOf_53 : decode cX1_nextOf 53 = .ok (.iaload, 1) := by decide +kernel
theorem dX1_nextOf_54 : decode cX1_nextOf 54 = .ok (.if_icmp .ge 5, 3) := by decide +kernel
theorem dX1_nextOf_57 : decode cX1_nextOf 57 = .ok (.iload_n 3, 1) := by decide +kernel
theorem dX1_nextOf_58 : decode cX1_nextOf 58 = .ok (.istore_n 2, 1) := by decide +kernel
theorem dX1_nextOf_59 : decode cX1_nextOf 59 = .ok (.iinc 3 1, 3) := by decide +kernel
theorem dX1_nextOf_62 : decode cX1_nextOf 62 = .ok (.goto (-58), 3) := by decide +kernel
theorem dX1_nextOf_65 : decode cX1_nextOf 65 = .ok (.iload_n 2, 1) := by decide +kernel
theorem dX1_nextOf_66 : decode cX1_nextOf 66 = .ok (.ireturn, 1) := by decide +kernel
theorem dX1_isStep_0 : decode cX1_isStep 0 = .ok (.iload_n 1, 1) := by decide +kernel
theorem dX1_isStep_1 : decode cX1_isStep 1 = .ok (.iconst (-1), 1) := by decide +kernel
theorem dX1_isStep_2 : decode cX1_isStep 2 = .ok (.if_icmp .ne 10, 3) := by decide +kernel
theorem dX1_isStep_5 : decode cX1_isStep 5 = .ok (.aload_n 0, 1) := by decide +kernel
theorem dX1_isStep_6 : decode cX1_isStep 6 = .ok (.getfield 15, 3) := by decide +kernel
theorem dX1_isStep_9 : decode cX1_isStep 9 = .ok (.iload_n 2, 1) := by decide +kernel
theorem dX1_isStep_10 : decode cX1_isStep 10 = .ok (.baload, 1) := by decide +kernel
theorem dX1_isStep_11 : decode cX1_isStep 11 = .ok (.ireturn, 1) := by decide +kernel
theorem dX1_isStep_12 : decode cX1_isStep 12 = .ok (.iload_n 1, 1) := by decide +kernel
theorem dX1_isStep_13 : decode cX1_isStep 13 = .ok (.iload_n 2, 1) := by decide +kernel
theorem dX1_isStep_14 : decode cX1_isStep 14 = .ok (.if_icmp .eq 28, 3) := by decide +kernel
theorem dX1_isStep_17 : decode cX1_isStep 17 = .ok (.aload_n 0, 1) := by decide +kernel
theorem dX1_isStep_18 : decode cX1_isStep 18 = .ok (.getfield 9, 3) := by decide +kernel
theorem dX1_isStep_21 : decode cX1_isStep 21 = .ok (.iload_n 2, 1) := by decide +kernel
theorem dX1_isStep_22 : decode cX1_isStep 22 = .ok (.baload, 1) := by decide +kernel
theorem dX1_isStep_23 : decode cX1_isStep 23 = .ok (.ifCond .ne 15, 3) := by decide +kernel
theorem dX1_isStep_26 : decode cX1_isStep 26 = .ok (.aload_n 0, 1) := by decide +kernel
theorem dX1_isStep_27 : decode cX1_isStep 27 = .ok (.getfield 25, 3) := by decide +kernel
theorem dX1_isStep_30 : decode cX1_isStep 30 = .ok (.iload_n 2, 1) := by decide +kernel
theorem dX1_isStep_31 : decode cX1_isStep 31 = .ok (.iload_n 1, 1) := by decide +kernel
theorem dX1_isStep_32 : decode cX1_isStep 32 = .ok (.invokevirtual 65, 3) := by decide +kernel
theorem dX1_isStep_35 : decode cX1_isStep 35 = .ok (.ifCond .eq 7, 3) := by decide +kernel
theorem dX1_isStep_38 : decode cX1_isStep 38 = .ok (.iconst 1, 1) := by decide +kernel
theorem dX1_isStep_39 : decode cX1_isStep 39 = .ok (.goto 4, 3) := by decide +kernel
theorem dX1_isStep_42 : decode cX1_isStep 42 = .ok (.iconst 0, 1) := by decide +kernel
theorem dX1_isStep_43 : decode cX1_isStep 43 = .ok (.ireturn, 1) := by decide +kernel
theorem dX2_init_0 : decode cX2_init 0 = .ok (.aload_n 0, 1) := by decide +kernel
theorem dX2_init_1 : decode cX2_init 1 = .ok (.invokespecial 3, 3) := by decide +kernel
theorem dX2_init_4 : decode cX2_init 4 = .ok (.aload_n 0, 1) := by decide +kernel
theorem dX2_init_5 : decode cX2_init 5 = .ok (.bipush 64, 2) := by decide +kernel
theorem dX2_init_7 : decode cX2_init 7 = .ok (.newarray .int, 2) := by decide +kernel
theorem dX2_init_9 : decode cX2_init 9 = .ok (.putfield 11, 3) := by decide +kernel
theorem dX2_init_12 : decode cX2_init 12 = .ok (.aload_n 0, 1) := by decide +kernel
theorem dX2_init_13 : decode cX2_init 13 = .ok (.bipush 64, 2) := by decide +kernel
theorem dX2_init_15 : decode cX2_init 15 = .ok (.newarray .int, 2) := by decide +kernel
theorem dX2_init_17 : decode cX2_init 17 = .ok (.putfield 15, 3) := by decide +kernel
theorem dX2_init_20 : decode cX2_init 20 = .ok (.aload_n 0, 1) := by decide +kernel
theorem dX2_init_21 : decode cX2_init 21 = .ok (.aload_n 1, 1) := by decide +kernel
theorem dX2_init_22 : decode cX2_init 22 = .ok (.putfield 18, 3) := by decide +kernel
theorem dX2_init_25 : decode cX2_init 25 = .ok (.return_, 1) := by decide +kernel
theorem dX2_ofOne_0 : decode cX2_ofOne 0 = .ok (.iconst 0, 1) := by decide +kernel
theorem dX2_ofOne_1 : decode cX2_ofOne 1 = .ok (.istore_n 3, 1) := by decide +kernel
theorem dX2_ofOne_2 : decode cX2_ofOne 2 = .ok (.iconst 0, 1) := by decide +kernel
theorem dX2_ofOne_3 : decode cX2_ofOne 3 = .ok (.istore 4, 2) := by decide +kernel
theorem dX2_ofOne_5 : decode cX2_ofOne 5 = .ok (.iload 4, 2) := by decide +kernel
theorem dX2_ofOne_7 : decode cX2_ofOne 7 = .ok (.aload_n 0, 1) := by decide +kernel
theorem dX2_ofOne_8 : decode cX2_ofOne 8 = .ok (.getfield 18, 3) := by decide +kernel
theorem dX2_ofOne_11 : decode cX2_ofOne 11 = .ok (.getfield 22, 3) := by decide +kernel
theorem dX2_ofOne_14 : decode cX2_ofOne 14 = .ok (.if_icmp .ge 19, 3) := by decide +kernel
theorem dX2_ofOne_17 : decode cX2_ofOne 17 = .ok (.iload_n 3, 1) := by decide +kernel
theorem dX2_ofOne_18 : decode cX2_ofOne 18 = .ok (.aload_n 1, 1) := by decide +kernel
theorem dX2_ofOne_19 : decode cX2_ofOne 19 = .ok (.getfield 28, 3) := by decide +kernel
theorem dX2_ofOne_22 : decode cX2_ofOne 22 = .ok (.iload 4, 2) := by decide +kernel
theorem dX2_ofOne_24 : decode cX2_ofOne 24 = .ok (.iaload, 1) := by decide +kernel
theorem dX2_ofOne_25 : decode cX2_ofOne 25 = .ok (.iadd, 1) := by decide +kernel
theorem dX2_ofOne_26 : decode cX2_ofOne 26 = .ok (.istore_n 3, 1) := by decide +kernel
theorem dX2_ofOne_27 : decode cX2_ofOne 27 = .ok (.iinc 4 1, 3) := by decide +kernel
theorem dX2_ofOne_30 : decode cX2_ofOne 30 = .ok (.goto (-25), 3) := by decide +kernel
theorem dX2_ofOne_33 : decode cX2_ofOne 33 = .ok (.aload_n 1, 1) := by decide +kernel
theorem dX2_ofOne_34 : decode cX2_ofOne 34 = .ok (.getfield 28, 3) := by decide +kernel
theorem dX2_ofOne_37 : decode cX2_ofOne 37 = .ok (.iload_n 2, 1) := by decide +kernel
theorem dX2_ofOne_38 : decode cX2_ofOne 38 = .ok (.iaload, 1) := by decide +kernel
theorem dX2_ofOne_39 : decode cX2_ofOne 39 = .ok (.aload_n 0, 1) := by decide +kernel
theorem dX2_ofOne_40 : decode cX2_ofOne 40 = .ok (.getfield 18, 3) := by decide +kernel
theorem dX2_ofOne_43 : decode cX2_ofOne 43 = .ok (.getfield 22, 3) := by decide +kernel
theorem dX2_ofOne_46 : decode cX2_ofOne 46 = .ok (.imul, 1) := by decide +kernel
theorem dX2_ofOne_47 : decode cX2_ofOne 47 = .ok (.iload_n 3, 1) := by decide +kernel
theorem dX2_ofOne_48 : decode cX2_ofOne 48 = .ok (.isub, 1) := by decide +kernel
theorem dX2_ofOne_49 : decode cX2_ofOne 49 = .ok (.ireturn, 1) := by decide +kernel
theorem dX2_ofLine_0 : decode cX2_ofLine 0 = .ok (.iconst 0, 1) := by decide +kernel
theorem dX2_ofLine_1 : decode cX2_ofLine 1 = .ok (.istore_n 3, 1) := by decide +kernel
theorem dX2_ofLine_2 : decode cX2_ofLine 2 = .ok (.iconst 0, 1) := by decide +kernel
theorem dX2_ofLine_3 : decode cX2_ofLine 3 = .ok (.istore 4, 2) := by decide +kernel
theorem dX2_ofLine_5 : decode cX2_ofLine 5 = .ok (.iload 4, 2) := by decide +kernel
theorem dX2_ofLine_7 : decode cX2_ofLine 7 = .ok (.aload_n 0, 1) := by decide +kernel
theorem dX2_ofLine_8 : decode cX2_ofLine 8 = .ok (.getfield 18, 3) := by decide +kernel
theorem dX2_ofLine_11 : decode cX2_ofLine 11 = .ok (.getfield 22, 3) := by decide +kernel
theorem dX2_ofLine_14 : decode cX2_ofLine 14 = .ok (.if_icmp .ge 29, 3) := by decide +kernel
theorem dX2_ofLine_17 : decode cX2_ofLine 17 = .ok (.aload_n 0, 1) := by decide +kernel
theorem dX2_ofLine_18 : decode cX2_ofLine 18 = .ok (.iload 4, 2) := by decide +kernel
theorem dX2_ofLine_20 : decode cX2_ofLine 20 = .ok (.iload_n 2, 1) := by decide +kernel
theorem dX2_ofLine_21 : decode cX2_ofLine 21 = .ok (.invokevirtual 33, 3) := by decide +kernel
theorem dX2_ofLine_24 : decode cX2_ofLine 24 = .ok (.ifCond .eq 13, 3) := by decide +kernel
theorem dX2_ofLine_27 : decode cX2_ofLine 27 = .ok (.iload_n 3, 1) := by decide +kernel
theorem dX2_ofLine_28 : decode cX2_ofLine 28 = .ok (.aload_n 0, 1) := by decide +kernel
theorem dX2_ofLine_29 : decode cX2_ofLine 29 = .ok (.aload_n 1, 1) := by decide +kernel
theorem dX2_ofLine_30 : decode cX2_ofLine 30 = .ok (.iload 4, 2) := by decide +kernel
theorem dX2_ofLine_32 : decode cX2_ofLine 32 = .ok (.invokevirtual 37, 3) := by decide +kernel
theorem dX2_ofLine_35 : decode cX2_ofLine 35 = .ok (.iadd, 1) := by decide +kernel
theorem dX2_ofLine_36 : decode cX2_ofLine 36 = .ok (.istore_n 3, 1) := by decide +kernel
theorem dX2_ofLine_37 : decode cX2_ofLine 37 = .ok (.iinc 4 1, 3) := by decide +kernel
theorem dX2_ofLine_40 : decode cX2_ofLine 40 = .ok (.goto (-35), 3) := by decide +kernel
theorem dX2_ofLine_43 : decode cX2_ofLine 43 = .ok (.iload_n 3, 1) := by decide +kernel
theorem dX2_ofLine_44 : decode cX2_ofLine 44 = .ok (.ireturn, 1) := by decide +kernel
theorem dX2_isOfLine_0 : decode cX2_isOfLine 0 = .ok (.iload_n 1, 1) := by decide +kernel
theorem dX2_isOfLine_1 : decode cX2_isOfLine 1 = .ok (.istore_n 3, 1) := by decide +kernel
theorem dX2_isOfLine_2 : decode cX2_isOfLine 2 = .ok (.iconst 0, 1) := by decide +kernel
theorem dX2_isOfLine_3 : decode cX2_isOfLine 3 = .ok (.istore 4, 2) := by decide +kernel
theorem dX2_isOfLine_5 : decode cX2_isOfLine 5 = .ok (.iload 4, 2) := by decide +kernel
theorem dX2_isOfLine_7 : decode cX2_isOfLine 7 = .ok (.bipush 6, 2) := by decide +kernel
theorem dX2_isOfLine_9 : decode cX2_isOfLine 9 = .ok (.if_icmp .ge 37, 3) := by decide +kernel
theorem dX2_isOfLine_12 : decode cX2_isOfLine 12 = .ok (.aload_n 0, 1) := by decide +kernel
theorem dX2_isOfLine_13 : decode cX2_isOfLine 13 = .ok (.getfield 18, 3) := by decide +kernel
theorem dX2_isOfLine_16 : decode cX2_isOfLine 16 = .ok (.iload_n 3, 1) := by decide +kernel
theorem dX2_isOfLine_17 : decode cX2_isOfLine 17 = .ok (.invokevirtual 41, 3) := by decide +kernel
theorem dX2_isOfLine_20 : decode cX2_isOfLine 20 = .ok (.ifCond .eq 26, 3) := by decide +kernel
theorem dX2_isOfLine_23 : decode cX2_isOfLine 23 = .ok (.iload_n 3, 1) := by decide +kernel
theorem dX2_isOfLine_24 : decode cX2_isOfLine 24 = .ok (.iload_n 2, 1) := by decide +kernel
theorem dX2_isOfLine_25 : decode cX2_isOfLine 25 = .ok (.if_icmp .ne 5, 3) := by decide +kernel
theorem dX2_isOfLine_28 : decode cX2_isOfLine 28 = .ok (.iconst 1, 1) := by decide +kernel
theorem dX2_isOfLine_29 : decode cX2_isOfLine 29 = .ok (.ireturn, 1) := by decide +kernel
theorem dX2_isOfLine_30 : decode cX2_isOfLine 30 = .ok (.aload_n 0, 1) := by decide +kernel
theorem dX2_isOfLine_31 : decode cX2_isOfLine 31 = .ok (.getfield 18, 3) := by decide +kernel
theorem dX2_isOfLine_34 : decode cX2_isOfLine 34 = .ok (.getfield 45, 3) := by decide +kernel
theorem dX2_isOfLine_37 : decode cX2_isOfLine 37 = .ok (.iload_n 3, 1) := by decide +kernel
theorem dX2_isOfLine_38 : decode cX2_isOfLine 38 = .ok (.iaload, 1) := by decide +kernel
theorem dX2_isOfLine_39 : decode cX2_isOfLine 39 = .ok (.istore_n 3, 1) := by decide +kernel
theorem dX2_isOfLine_40 : decode cX2_isOfLine 40 = .ok (.iinc 4 1, 3) := by decide +kernel
theorem dX2_isOfLine_43 : decode cX2_isOfLine 43 = .ok (.goto (-38), 3) := by decide +kernel
theorem dX2_isOfLine_46 : decode cX2_isOfLine 46 = .ok (.iconst 0, 1) := by decide +kernel
theorem dX2_isOfLine_47 : decode cX2_isOfLine 47 = .ok (.ireturn, 1) := by decide +kernel
theorem dX2_fewestPayments_0 : decode cX2_fewestPayments 0 = .ok (.iconst 1, 1) := by decide +kernel
theorem dX2_fewestPayments_1 : decode cX2_fewestPayments 1 = .ok (.aload_n 0, 1) := by decide +kernel
theorem dX2_fewestPayments_2 : decode cX2_fewestPayments 2 = .ok (.getfield 18, 3) := by decide +kernel
theorem dX2_fewestPayments_5 : decode cX2_fewestPayments 5 = .ok (.getfield 22, 3) := by decide +kernel
theorem dX2_fewestPayments_8 : decode cX2_fewestPayments 8 = .ok (.ishl, 1) := by decide +kernel
theorem dX2_fewestPayments_9 : decode cX2_fewestPayments 9 = .ok (.istore_n 2, 1) := by decide +kernel
theorem dX2_fewestPayments_10 : decode cX2_fewestPayments 10 = .ok (.aload_n 0, 1) := by decide +kernel
theorem dX2_fewestPayments_11 : decode cX2_fewestPayments 11 = .ok (.getfield 11, 3) := by decide +kernel
theorem dX2_fewestPayments_14 : decode cX2_fewestPayments 14 = .ok (.iconst 0, 1) := by decide +kernel
theorem dX2_fewestPayments_15 : decode cX2_fewestPayments 15 = .ok (.iconst 0, 1) := by decide +kernel
theorem dX2_fewestPayments_16 : decode cX2_fewestPayments 16 = .ok (.iastore, 1) := by decide +kernel
theorem dX2_fewestPayments_17 : decode cX2_fewestPayments 17 = .ok (.aload_n 0, 1) := by decide +kernel
theorem dX2_fewestPayments_18 : decode cX2_fewestPayments 18 = .ok (.getfield 15, 3) := by decide +kernel
theorem dX2_fewestPayments_21 : decode cX2_fewestPayments 21 = .ok (.iconst 0, 1) := by decide +kernel
theorem dX2_fewestPayments_22 : decode cX2_fewestPayments 22 = .ok (.iconst 0, 1) := by decide +kernel
theorem dX2_fewestPayments_23 : decode cX2_fewestPayments 23 = .ok (.iastore, 1) := by decide +kernel
theorem dX2_fewestPayments_24 : decode cX2_fewestPayments 24 = .ok (.iconst 1, 1) := by decide +kernel
theorem dX2_fewestPayments_25 : decode cX2_fewestPayments 25 = .ok (.istore_n 3, 1) := by decide +kernel
theorem dX2_fewestPayments_26 : decode cX2_fewestPayments 26 = .ok (.iload_n 3, 1) := by decide +kernel
theorem dX2_fewestPayments_27 : decode cX2_fewestPayments 27 = .ok (.iload_n 2, 1) := by decide +kernel
theorem dX2_fewestPayments_28 : decode cX2_fewestPayments 28 = .ok (.if_icmp .ge 118, 3) := by decide +kernel
theorem dX2_fewestPayments_31 : decode cX2_fewestPayments 31 = .ok (.aload_n 0, 1) := by decide +kernel
theorem dX2_fewestPayments_32 : decode cX2_fewestPayments 32 = .ok (.getfield 15, 3) := by decide +kernel
theorem dX2_fewestPayments_35 : decode cX2_fewestPayments 35 = .ok (.iload_n 3, 1) := by decide +kernel
theorem dX2_fewestPayments_36 : decode cX2_fewestPayments 36 = .ok (.iconst 0, 1) := by decide +kernel
theorem dX2_fewestPayments_37 : decode cX2_fewestPayments 37 = .ok (.iastore, 1) := by decide +kernel
theorem dX2_fewestPayments_38 : decode cX2_fewestPayments 38 = .ok (.iconst 0, 1) := by decide +kernel
theorem dX2_fewestPayments_39 : decode cX2_fewestPayments 39 = .ok (.istore 4, 2) := by decide +kernel
theorem dX2_fewestPayments_41 : decode cX2_fewestPayments 41 = .ok (.iload 4, 2) := by decide +kernel
theorem dX2_fewestPayments_43 : decode cX2_fewestPayments 43 = .ok (.aload_n 0, 1) := by decide +kernel
theorem dX2_fewestPayments_44 : decode cX2_fewestPayments 44 = .ok (.getfield 18, 3) := by decide +kernel
theorem dX2_fewestPayments_47 : decode cX2_fewestPayments 47 = .ok (.getfield 22, 3) := by decide +kernel
theorem dX2_fewestPayments_50 : decode cX2_fewestPayments 50 = .ok (.if_icmp .ge 71, 3) := by decide +kernel
theorem dX2_fewestPayments_53 : decode cX2_fewestPayments 53 = .ok (.iload_n 3, 1) := by decide +kernel
theorem dX2_fewestPayments_54 : decode cX2_fewestPayments 54 = .ok (.iconst 1, 1) := by decide +kernel
theorem dX2_fewestPayments_55 : decode cX2_fewestPayments 55 = .ok (.iload 4, 2) := by decide +kernel
theorem dX2_fewestPayments_57 : decode cX2_fewestPayments 57 = .ok (.ishl, 1) := by decide +kernel
theorem dX2_fewestPayments_58 : decode cX2_fewestPayments 58 = .ok (.iconst (-1), 1) := by decide +kernel
theorem dX2_fewestPayments_59 : decode cX2_fewestPayments 59 = .ok (.ixor, 1) := by decide +kernel
theorem dX2_fewestPayments_60 : decode cX2_fewestPayments 60 = .ok (.iand, 1) := by decide +kernel
theorem dX2_fewestPayments_61 : decode cX2_fewestPayments 61 = .ok (.istore 5, 2) := by decide +kernel
theorem dX2_fewestPayments_63 : decode cX2_fewestPayments 63 = .ok (.iload 5, 2) := by decide +kernel
theorem dX2_fewestPayments_65 : decode cX2_fewestPayments 65 = .ok (.iload_n 3, 1) := by decide +kernel
theorem dX2_fewestPayments_66 : decode cX2_fewestPayments 66 = .ok (.if_icmp .ne 6, 3) := by decide +kernel
theorem dX2_fewestPayments_69 : decode cX2_fewestPayments 69 = .ok (.goto 46, 3) := by decide +kernel
theorem dX2_fewestPayments_72 : decode cX2_fewestPayments 72 = .ok (.aload_n 0, 1) := by decide +kernel
theorem dX2_fewestPayments_73 : decode cX2_fewestPayments 73 = .ok (.getfield 11, 3) := by decide +kernel
theorem dX2_fewestPayments_76 : decode cX2_fewestPayments 76 = .ok (.iload_n 3, 1) := by decide +kernel
theorem dX2_fewestPayments_77 : decode cX2_fewestPayments 77 = .ok (.aload_n 0, 1) := by decide +kernel
theorem dX2_fewestPayments_78 : decode cX2_fewestPayments 78 = .ok (.getfield 11, 3) := by decide +kernel
theorem dX2_fewestPayments_81 : decode cX2_fewestPayments 81 = .ok (.iload 5, 2) := by decide +kernel
theorem dX2_fewestPayments_83 : decode cX2_fewestPayments 83 = .ok (.iaload, 1) := by decide +kernel
theorem dX2_fewestPayments_84 : decode cX2_fewestPayments 84 = .ok (.aload_n 0, 1) := by decide +kernel
theorem dX2_fewestPayments_85 : decode cX2_fewestPayments 85 = .ok (.aload_n 1, 1) := by decide +kernel
theorem dX2_fewestPayments_86 : decode cX2_fewestPayments 86 = .ok (.iload 4, 2) := by decide +kernel
theorem dX2_fewestPayments_88 : decode cX2_fewestPayments 88 = .ok (.invokevirtual 37, 3) := by decide +kernel
theorem dX2_fewestPayments_91 : decode cX2_fewestPayments 91 = .ok (.iadd, 1) := by decide +kernel
theorem dX2_fewestPayments_92 : decode cX2_fewestPayments 92 = .ok (.iastore, 1) := by decide +kernel
theorem dX2_fewestPayments_93 : decode cX2_fewestPayments 93 = .ok (.aload_n 0, 1) := by decide +kernel
theorem dX2_fewestPayments_94 : decode cX2_fewestPayments 94 = .ok (.getfield 15, 3) := by decide +kernel
theorem dX2_fewestPayments_97 : decode cX2_fewestPayments 97 = .ok (.iload_n 3, 1) := by decide +kernel
theorem dX2_fewestPayments_98 : decode cX2_fewestPayments 98 = .ok (.aload_n 0, 1) := by decide +kernel
theorem dX2_fewestPayments_99 : decode cX2_fewestPayments 99 = .ok (.getfield 15, 3) := by decide +kernel
theorem dX2_fewestPayments_102 : decode cX2_fewestPayments 102 = .ok (.iload_n 3, 1) := by decide +kernel
theorem dX2_fewestPayments_103 : decode cX2_fewestPayments 103 = .ok (.iaload, 1) := by decide +kernel
theorem dX2_fewestPayments_104 : decode cX2_fewestPayments 104 = .ok (.aload_n 0, 1) := by decide +kernel
theorem dX2_fewestPayments_105 : decode cX2_fewestPayments 105 = .ok (.getfield 15, 3) := by decide +kernel
theorem dX2_fewestPayments_108 : decode cX2_fewestPayments 108 = .ok (.iload 5, 2) := by decide +kernel
theorem dX2_fewestPayments_110 : decode cX2_fewestPayments 110 = .ok (.iaload, 1) := by decide +kernel
theorem dX2_fewestPayments_111 : decode cX2_fewestPayments 111 = .ok (.invokestatic 48, 3) := by decide +kernel
theorem dX2_fewestPayments_114 : decode cX2_fewestPayments 114 = .ok (.iastore, 1) := by decide +kernel
theorem dX2_fewestPayments_115 : decode cX2_fewestPayments 115 = .ok (.iinc 4 1, 3) := by decide +kernel
theorem dX2_fewestPayments_118 : decode cX2_fewestPayments 118 = .ok (.goto (-77), 3) := by decide +kernel
theorem dX2_fewestPayments_121 : decode cX2_fewestPayments 121 = .ok (.aload_n 0, 1) := by decide +kernel
theorem dX2_fewestPayments_122 : decode cX2_fewestPayments 122 = .ok (.getfield 11, 3) := by decide +kernel
theorem dX2_fewestPayments_125 : decode cX2_fewestPayments 125 = .ok (.iload_n 3, 1) := by decide +kernel
theorem dX2_fewestPayments_126 : decode cX2_fewestPayments 126 = .ok (.iaload, 1) := by decide +kernel
theorem dX2_fewestPayments_127 : decode cX2_fewestPayments 127 = .ok (.ifCond .ne 13, 3) := by decide +kernel
theorem dX2_fewestPayments_130 : decode cX2_fewestPayments 130 = .ok (.aload_n 0, 1) := by decide +kernel
theorem dX2_fewestPayments_131 : decode cX2_fewestPayments 131 = .ok (.getfield 15, 3) := by decide +kernel
theorem dX2_fewestPayments_134 : decode cX2_fewestPayments 134 = .ok (.iload_n 3, 1) := by decide +kernel
theorem dX2_fewestPayments_135 : decode cX2_fewestPayments 135 = .ok (.dup2, 1) := by decide +kernel
theorem dX2_fewestPayments_136 : decode cX2_fewestPayments 136 = .ok (.iaload, 1) := by decide +kernel
theorem dX2_fewestPayments_137 : decode cX2_fewestPayments 137 = .ok (.iconst 1, 1) := by decide +kernel
theorem dX2_fewestPayments_138 : decode cX2_fewestPayments 138 = .ok (.iadd, 1) := by decide +kernel
theorem dX2_fewestPayments_139 : decode cX2_fewestPayments 139 = .ok (.iastore, 1) := by decide +kernel
theorem dX2_fewestPayments_140 : decode cX2_fewestPayments 140 = .ok (.iinc 3 1, 3) := by decide +kernel
theorem dX2_fewestPayments_143 : decode cX2_fewestPayments 143 = .ok (.goto (-117), 3) := by decide +kernel
theorem dX2_fewestPayments_146 : decode cX2_fewestPayments 146 = .ok (.aload_n 0, 1) := by decide +kernel
theorem dX2_fewestPayments_147 : decode cX2_fewestPayments 147 = .ok (.getfield 18, 3) := by decide +kernel
theorem dX2_fewestPayments_150 : decode cX2_fewestPayments 150 = .ok (.getfield 22, 3) := by decide +kernel
theorem dX2_fewestPayments_153 : decode cX2_fewestPayments 153 = .ok (.aload_n 0, 1) := by decide +kernel
theorem dX2_fewestPayments_154 : decode cX2_fewestPayments 154 = .ok (.getfield 15, 3) := by decide +kernel
theorem dX2_fewestPayments_157 : decode cX2_fewestPayments 157 = .ok (.iload_n 2, 1) := by decide +kernel
theorem dX2_fewestPayments_158 : decode cX2_fewestPayments 158 = .ok (.iconst 1, 1) := by decide +kernel
theorem dX2_fewestPayments_159 : decode cX2_fewestPayments 159 = .ok (.isub, 1) := by decide +kernel
theorem dX2_fewestPayments_160 : decode cX2_fewestPayments 160 = .ok (.iaload, 1) := by decide +kernel
theorem dX2_fewestPayments_161 : decode cX2_fewestPayments 161 = .ok (.isub, 1) := by decide +kernel
theorem dX2_fewestPayments_162 : decode cX2_fewestPayments 162 = .ok (.ireturn, 1) := by decide +kernel
theorem dX3_init_0 : decode cX3_init 0 = .ok (.aload_n 0, 1) := by decide +kernel
theorem dX3_init_1 : decode cX3_init 1 = .ok (.invokespecial 3, 3) := by decide +kernel
theorem dX3_init_4 : decode cX3_init 4 = .ok (.aload_n 0, 1) := by decide +kernel
theorem dX3_init_5 : decode cX3_init 5 = .ok (.bipush 12, 2) := by decide +kernel
theorem dX3_init_7 : decode cX3_init 7 = .ok (.newarray .int, 2) := by decide +kernel
theorem dX3_init_9 : decode cX3_init 9 = .ok (.putfield 9, 3) := by decide +kernel
theorem dX3_init_12 : decode cX3_init 12 = .ok (.aload_n 0, 1) := by decide +kernel
theorem dX3_init_13 : decode cX3_init 13 = .ok (.bipush 6, 2) := by decide +kernel
theorem dX3_init_15 : decode cX3_init 15 = .ok (.newarray .int, 2) := by decide +kernel
theorem dX3_init_17 : decode cX3_init 17 = .ok (.putfield 15, 3) := by decide +kernel
theorem dX3_init_20 : decode cX3_init 20 = .ok (.aload_n 0, 1) := by decide +kernel
theorem dX3_init_21 : decode cX3_init 21 = .ok (.bipush 6, 2) := by decide +kernel
theorem dX3_init_23 : decode cX3_init 23 = .ok (.newarray .int, 2) := by decide +kernel
theorem dX3_init_25 : decode cX3_init 25 = .ok (.putfield 18, 3) := by decide +kernel
theorem dX3_init_28 : decode cX3_init 28 = .ok (.aload_n 0, 1) := by decide +kernel
theorem dX3_init_29 : decode cX3_init 29 = .ok (.bipush 6, 2) := by decide +kernel
theorem dX3_init_31 : decode cX3_init 31 = .ok (.newarray .int, 2) := by decide +kernel
theorem dX3_init_33 : decode cX3_init 33 = .ok (.putfield 21, 3) := by decide +kernel
theorem dX3_init_36 : decode cX3_init 36 = .ok (.aload_n 0, 1) := by decide +kernel
theorem dX3_init_37 : decode cX3_init 37 = .ok (.bipush 6, 2) := by decide +kernel
theorem dX3_init_39 : decode cX3_init 39 = .ok (.newarray .int, 2) := by decide +kernel
theorem dX3_init_41 : decode cX3_init 41 = .ok (.putfield 24, 3) := by decide +kernel
theorem dX3_init_44 : decode cX3_init 44 = .ok (.aload_n 0, 1) := by decide +kernel
theorem dX3_init_45 : decode cX3_init 45 = .ok (.bipush 6, 2) := by decide +kernel
theorem dX3_init_47 : decode cX3_init 47 = .ok (.newarray .int, 2) := by decide +kernel
theorem dX3_init_49 : decode cX3_init 49 = .ok (.putfield 27, 3) := by decide +kernel
theorem dX3_init_52 : decode cX3_init 52 = .ok (.aload_n 0, 1) := by decide +kernel
theorem dX3_init_53 : decode cX3_init 53 = .ok (.iconst 3, 1) := by decide +kernel
theorem dX3_init_54 : decode cX3_init 54 = .ok (.newarray .int, 2) := by decide +kernel
theorem dX3_init_56 : decode cX3_init 56 = .ok (.putfield 30, 3) := by decide +kernel
theorem dX3_init_59 : decode cX3_init 59 = .ok (.aload_n 0, 1) := by decide +kernel
theorem dX3_init_60 : decode cX3_init 60 = .ok (.invokevirtual 33, 3) := by decide +kernel
theorem dX3_init_63 : decode cX3_init 63 = .ok (.return_, 1) := by decide +kernel
theorem dX3_clear_0 : decode cX3_clear 0 = .ok (.aload_n 0, 1) := by decide +kernel
theorem dX3_clear_1 : decode cX3_clear 1 = .ok (.iconst 0, 1) := by decide +kernel
theorem dX3_clear_2 : decode cX3_clear 2 = .ok (.putfield 36, 3) := by decide +kernel
theorem dX3_clear_5 : decode cX3_clear 5 = .ok (.aload_n 0, 1) := by decide +kernel
theorem dX3_clear_6 : decode cX3_clear 6 = .ok (.iconst 0, 1) := by decide +kernel
theorem dX3_clear_7 : decode cX3_clear 7 = .ok (.putfield 40, 3) := by decide +kernel
theorem dX3_clear_10 : decode cX3_clear 10 = .ok (.aload_n 0, 1) := by decide +kernel
theorem dX3_clear_11 : decode cX3_clear 11 = .ok (.iconst 3, 1) := by decide +kernel
theorem dX3_clear_12 : decode cX3_clear 12 = .ok (.iconst 5, 1) := by decide +kernel
theorem dX3_clear_13 : decode cX3_clear 13 = .ok (.bipush 7, 2) := by decide +kernel
theorem dX3_clear_15 : decode cX3_clear 15 = .ok (.invokevirtual 43, 3) := by decide +kernel
theorem dX3_clear_18 : decode cX3_clear 18 = .ok (.aload_n 0, 1) := by decide +kernel
theorem dX3_clear_19 : decode cX3_clear 19 = .ok (.bipush 9, 2) := by decide +kernel
theorem dX3_clear_21 : decode cX3_clear 21 = .ok (.putfield 47, 3) := by decide +kernel
theorem dX3_clear_24 : decode cX3_clear 24 = .ok (.return_, 1) := by decide +kernel
theorem dX3_copyFrom_0 : decode cX3_copyFrom 0 = .ok (.aload_n 1, 1) := by decide +kernel
theorem dX3_copyFrom_1 : decode cX3_copyFrom 1 = .ok (.getfield 9, 3) := by decide +kernel
theorem dX3_copyFrom_4 : decode cX3_copyFrom 4 = .ok (.iconst 0, 1) := by decide +kernel
theorem dX3_copyFrom_5 : decode cX3_copyFrom 5 = .ok (.aload_n 0, 1) := by decide +kernel
theorem dX3_copyFrom_6 : decode cX3_copyFrom 6 = .ok (.getfield 9, 3) := by decide +kernel
theorem dX3_copyFrom_9 : decode cX3_copyFrom 9 = .ok (.iconst 0, 1) := by decide +kernel
theorem dX3_copyFrom_10 : decode cX3_copyFrom 10 = .ok (.bipush 12, 2) := by decide +kernel
theorem dX3_copyFrom_12 : decode cX3_copyFrom 12 = .ok (.invokestatic 50, 3) := by decide +kernel
theorem dX3_copyFrom_15 : decode cX3_copyFrom 15 = .ok (.aload_n 1, 1) := by decide +kernel
theorem dX3_copyFrom_16 : decode cX3_copyFrom 16 = .ok (.getfield 15, 3) := by decide +kernel
theorem dX3_copyFrom_19 : decode cX3_copyFrom 19 = .ok (.iconst 0, 1) := by decide +kernel
theorem dX3_copyFrom_20 : decode cX3_copyFrom 20 = .ok (.aload_n 0, 1) := by decide +kernel
theorem dX3_copyFrom_21 : decode cX3_copyFrom 21 = .ok (.getfield 15, 3) := by decide +kernel
theorem dX3_copyFrom_24 : decode cX3_copyFrom 24 = .ok (.iconst 0, 1) := by decide +kernel
theorem dX3_copyFrom_25 : decode cX3_copyFrom 25 = .ok (.bipush 6, 2) := by decide +kernel
theorem dX3_copyFrom_27 : decode cX3_copyFrom 27 = .ok (.invokestatic 50, 3) := by decide +kernel
theorem dX3_copyFrom_30 : decode cX3_copyFrom 30 = .ok (.aload_n 1, 1) := by decide +kernel
theorem dX3_copyFrom_31 : decode cX3_copyFrom 31 = .ok (.getfield 18, 3) := by decide +kernel
theorem dX3_copyFrom_34 : decode cX3_copyFrom 34 = .ok (.iconst 0, 1) := by decide +kernel
theorem dX3_copyFrom_35 : decode cX3_copyFrom 35 = .ok (.aload_n 0, 1) := by decide +kernel
theorem dX3_copyFrom_36 : decode cX3_copyFrom 36 = .ok (.getfield 18, 3) := by decide +kernel
theorem dX3_copyFrom_39 : decode cX3_copyFrom 39 = .ok (.iconst 0, 1) := by decide +kernel
theorem dX3_copyFrom_40 : decode cX3_copyFrom 40 = .ok (.bipush 6, 2) := by decide +kernel
theorem dX3_copyFrom_42 : decode cX3_copyFrom 42 = .ok (.invokestatic 50, 3) := by decide +kernel
theorem dX3_copyFrom_45 : decode cX3_copyFrom 45 = .ok (.aload_n 1, 1) := by decide +kernel
theorem dX3_copyFrom_46 : decode cX3_copyFrom 46 = .ok (.getfield 21, 3) := by decide +kernel
theorem dX3_copyFrom_49 : decode cX3_copyFrom 49 = .ok (.iconst 0, 1) := by decide +kernel
theorem dX3_copyFrom_50 : decode cX3_copyFrom 50 = .ok (.aload_n 0, 1) := by decide +kernel
theorem dX3_copyFrom_51 : decode cX3_copyFrom 51 = .ok (.getfield 21, 3) := by decide +kernel
theorem dX3_copyFrom_54 : decode cX3_copyFrom 54 = .ok (.iconst 0, 1) := by decide +kernel
theorem dX3_copyFrom_55 : decode cX3_copyFrom 55 = .ok (.bipush 6, 2) := by decide +kernel
theorem dX3_copyFrom_57 : decode cX3_copyFrom 57 = .ok (.invokestatic 50, 3) := by decide +kernel
theorem dX3_copyFrom_60 : decode cX3_copyFrom 60 = .ok (.aload_n 1, 1) := by decide +kernel
theorem dX3_copyFrom_61 : decode cX3_copyFrom 61 = .ok (.getfield 24, 3) := by decide +kernel
theorem dX3_copyFrom_64 : decode cX3_copyFrom 64 = .ok (.iconst 0, 1) := by decide +kernel
theorem dX3_copyFrom_65 : decode cX3_copyFrom 65 = .ok (.aload_n 0, 1) := by decide +kernel
theorem dX3_copyFrom_66 : decode cX3_copyFrom 66 = .ok (.getfield 24, 3) := by decide +kernel
theorem dX3_copyFrom_69 : decode cX3_copyFrom 69 = .ok (.iconst 0, 1) := by decide +kernel
theorem dX3_copyFrom_70 : decode cX3_copyFrom 70 = .ok (.bipush 6, 2) := by decide +kernel
theorem dX3_copyFrom_72 : decode cX3_copyFrom 72 = .ok (.invokestatic 50, 3) := by decide +kernel
theorem dX3_copyFrom_75 : decode cX3_copyFrom 75 = .ok (.aload_n 1, 1) := by decide +kernel
theorem dX3_copyFrom_76 : decode cX3_copyFrom 76 = .ok (.getfield 27, 3) := by decide +kernel
theorem dX3_copyFrom_79 : decode cX3_copyFrom 79 = .ok (.iconst 0, 1) := by decide +kernel
theorem dX3_copyFrom_80 : decode cX3_copyFrom 80 = .ok (.aload_n 0, 1) := by decide +kernel
theorem dX3_copyFrom_81 : decode cX3_copyFrom 81 = .ok (.getfield 27, 3) := by decide +kernel
theorem dX3_copyFrom_84 : decode cX3_copyFrom 84 = .ok (.iconst 0, 1) := by decide +kernel
theorem dX3_copyFrom_85 : decode cX3_copyFrom 85 = .ok (.bipush 6, 2) := by decide +kernel
theorem dX3_copyFrom_87 : decode cX3_copyFrom 87 = .ok (.invokestatic 50, 3) := by decide +kernel
theorem dX3_copyFrom_90 : decode cX3_copyFrom 90 = .ok (.aload_n 1, 1) := by decide +kernel
theorem dX3_copyFrom_91 : decode cX3_copyFrom 91 = .ok (.getfield 30, 3) := by decide +kernel
theorem dX3_copyFrom_94 : decode cX3_copyFrom 94 = .ok (.iconst 0, 1) := by decide +kernel
theorem dX3_copyFrom_95 : decode cX3_copyFrom 95 = .ok (.aload_n 0, 1) := by decide +kernel
theorem dX3_copyFrom_96 : decode cX3_copyFrom 96 = .ok (.getfield 30, 3) := by decide +kernel
theorem dX3_copyFrom_99 : decode cX3_copyFrom 99 = .ok (.iconst 0, 1) := by decide +kernel
theorem dX3_copyFrom_100 : decode cX3_copyFrom 100 = .ok (.iconst 3, 1) := by decide +kernel
theorem dX3_copyFrom_101 : decode cX3_copyFrom 101 = .ok (.invokestatic 50, 3) := by decide +kernel
theorem dX3_copyFrom_104 : decode cX3_copyFrom 104 = .ok (.aload_n 0, 1) := by decide +kernel
theorem dX3_copyFrom_105 : decode cX3_copyFrom 105 = .ok (.aload_n 1, 1) := by decide +kernel
theorem dX3_copyFrom_106 : decode cX3_copyFrom 106 = .ok (.getfield 36, 3) := by decide +kernel
theorem dX3_copyFrom_109 : decode cX3_copyFrom 109 = .ok (.putfield 36, 3) := by decide +kernel
theorem dX3_copyFrom_112 : decode cX3_copyFrom 112 = .ok (.aload_n 0, 1) := by decide +kernel
theorem dX3_copyFrom_113 : decode cX3_copyFrom 113 = .ok (.aload_n 1, 1) := by decide +kernel
theorem dX3_copyFrom_114 : decode cX3_copyFrom 114 = .ok (.getfield 40, 3) := by decide +kernel
theorem dX3_copyFrom_117 : decode cX3_copyFrom 117 = .ok (.putfield 40, 3) := by decide +kernel
theorem dX3_copyFrom_120 : decode cX3_copyFrom 120 = .ok (.aload_n 0, 1) := by decide +kernel
theorem dX3_copyFrom_121 : decode cX3_copyFrom 121 = .ok (.aload_n 1, 1) := by decide +kernel
theorem dX3_copyFrom_122 : decode cX3_copyFrom 122 = .ok (.getfield 47, 3) := by decide +kernel
theorem dX3_copyFrom_125 : decode cX3_copyFrom 125 = .ok (.putfield 47, 3) := by decide +kernel
theorem dX3_copyFrom_128 : decode cX3_copyFrom 128 = .ok (.return_, 1) := by decide +kernel
theorem dX3_setGoodness_0 : decode cX3_setGoodness 0 = .ok (.aload_n 0, 1) := by decide +kernel
theorem dX3_setGoodness_1 : decode cX3_setGoodness 1 = .ok (.getfield 30, 3) := by decide +kernel
theorem dX3_setGoodness_4 : decode cX3_setGoodness 4 = .ok (.iconst 0, 1) := by decide +kernel
theorem dX3_setGoodness_5 : decode cX3_setGoodness 5 = .ok (.iload_n 1, 1) := by decide +kernel
theorem dX3_setGoodness_6 : decode cX3_setGoodness 6 = .ok (.iastore, 1) := by decide +kernel
theorem dX3_setGoodness_7 : decode cX3_setGoodness 7 = .ok (.aload_n 0, 1) := by decide +kernel
theorem dX3_setGoodness_8 : decode cX3_setGoodness 8 = .ok (.getfield 30, 3) := by decide +kernel
theorem dX3_setGoodness_11 : decode cX3_setGoodness 11 = .ok (.iconst 1, 1) := by decide +kernel
theorem dX3_setGoodness_12 : decode cX3_setGoodness 12 = .ok (.iload_n 2, 1) := by decide +kernel
theorem dX3_setGoodness_13 : decode cX3_setGoodness 13 = .ok (.iastore, 1) := by decide +kernel
theorem dX3_setGoodness_14 : decode cX3_setGoodness 14 = .ok (.aload_n 0, 1) := by decide +kernel
theorem dX3_setGoodness_15 : decode cX3_setGoodness 15 = .ok (.getfield 30, 3) := by decide +kernel
theorem dX3_setGoodness_18 : decode cX3_setGoodness 18 = .ok (.iconst 2, 1) := by decide +kernel
theorem dX3_setGoodness_19 : decode cX3_setGoodness 19 = .ok (.iload_n 3, 1) := by decide +kernel
theorem dX3_setGoodness_20 : decode cX3_setGoodness 20 = .ok (.iastore, 1) := by decide +kernel
theorem dX3_setGoodness_21 : decode cX3_setGoodness 21 = .ok (.return_, 1) := by decide +kernel
theorem dX3_addWeight_0 : decode cX3_addWeight 0 = .ok (.aload_n 0, 1) := by decide +kernel
theorem dX3_addWeight_1 : decode cX3_addWeight 1 = .ok (.getfield 36, 3) := by decide +kernel
theorem dX3_addWeight_4 : decode cX3_addWeight 4 = .ok (.bipush 12, 2) := by decide +kernel
theorem dX3_addWeight_6 : decode cX3_addWeight 6 = .ok (.if_icmp .lt 4, 3) := by decide +kernel
theorem dX3_addWeight_9 : decode cX3_addWeight 9 = .ok (.return_, 1) := by decide +kernel
theorem dX3_addWeight_10 : decode cX3_addWeight 10 = .ok (.aload_n 0, 1) := by decide +kernel
theorem dX3_addWeight_11 : decode cX3_addWeight 11 = .ok (.getfield 9, 3) := by decide +kernel
theorem dX3_addWeight_14 : decode cX3_addWeight 14 = .ok (.aload_n 0, 1) := by decide +kernel
theorem dX3_addWeight_15 : decode cX3_addWeight 15 = .ok (.getfield 36, 3) := by decide +kernel
theorem dX3_addWeight_18 : decode cX3_addWeight 18 = .ok (.iload_n 1, 1) := by decide +kernel
theorem dX3_addWeight_19 : decode cX3_addWeight 19 = .ok (.iastore, 1) := by decide +kernel
theorem dX3_addWeight_20 : decode cX3_addWeight 20 = .ok (.aload_n 0, 1) := by decide +kernel
theorem dX3_addWeight_21 : decode cX3_addWeight 21 = .ok (.dup, 1) := by decide +kernel
theorem dX3_addWeight_22 : decode cX3_addWeight 22 = .ok (.getfield 36, 3) := by decide +kernel
theorem dX3_addWeight_25 : decode cX3_addWeight 25 = .ok (.iconst 1, 1) := by decide +kernel
theorem dX3_addWeight_26 : decode cX3_addWeight 26 = .ok (.iadd, 1) := by decide +kernel
theorem dX3_addWeight_27 : decode cX3_addWeight 27 = .ok (.putfield 36, 3) := by decide +kernel
theorem dX3_addWeight_30 : decode cX3_addWeight 30 = .ok (.return_, 1) := by decide +kernel
theorem dX3_addPerson_0 : decode cX3_addPerson 0 = .ok (.aload_n 0, 1) := by decide +kernel
theorem dX3_addPerson_1 : decode cX3_addPerson 1 = .ok (.getfield 40, 3) := by decide +kernel
theorem dX3_addPerson_4 : decode cX3_addPerson 4 = .ok (.bipush 6, 2) := by decide +kernel
theorem dX3_addPerson_6 : decode cX3_addPerson 6 = .ok (.if_icmp .lt 4, 3) := by decide +kernel
theorem dX3_addPerson_9 : decode cX3_addPerson 9 = .ok (.return_, 1) := by decide +kernel
theorem dX3_addPerson_10 : decode cX3_addPerson 10 = .ok (.aload_n 0, 1) := by decide +kernel
theorem dX3_addPerson_11 : decode cX3_addPerson 11 = .ok (.getfield 15, 3) := by decide +kernel
theorem dX3_addPerson_14 : decode cX3_addPerson 14 = .ok (.aload_n 0, 1) := by decide +kernel
theorem dX3_addPerson_15 : decode cX3_addPerson 15 = .ok (.getfield 40, 3) := by decide +kernel
theorem dX3_addPerson_18 : decode cX3_addPerson 18 = .ok (.iload_n 1, 1) := by decide +kernel
theorem dX3_addPerson_19 : decode cX3_addPerson 19 = .ok (.iastore, 1) := by decide +kernel
theorem dX3_addPerson_20 : decode cX3_addPerson 20 = .ok (.aload_n 0, 1) := by decide +kernel
theorem dX3_addPerson_21 : decode cX3_addPerson 21 = .ok (.getfield 18, 3) := by decide +kernel
theorem dX3_addPerson_24 : decode cX3_addPerson 24 = .ok (.aload_n 0, 1) := by decide +kernel
theorem dX3_addPerson_25 : decode cX3_addPerson 25 = .ok (.getfield 40, 3) := by decide +kernel
theorem dX3_addPerson_28 : decode cX3_addPerson 28 = .ok (.iload_n 2, 1) := by decide +kernel
theorem dX3_addPerson_29 : decode cX3_addPerson 29 = .ok (.iastore, 1) := by decide +kernel
theorem dX3_addPerson_30 : decode cX3_addPerson 30 = .ok (.aload_n 0, 1) := by decide +kernel
theorem dX3_addPerson_31 : decode cX3_addPerson 31 = .ok (.getfield 21, 3) := by decide +kernel
theorem dX3_addPerson_34 : decode cX3_addPerson 34 = .ok (.aload_n 0, 1) := by decide +kernel
theorem dX3_addPerson_35 : decode cX3_addPerson 35 = .ok (.getfield 40, 3) := by decide +kernel
theorem dX3_addPerson_38 : decode cX3_addPerson 38 = .ok (.iload_n 3, 1) := by decide +kernel
theorem dX3_addPerson_39 : decode cX3_addPerson 39 = .ok (.iastore, 1) := by decide +kernel
theorem dX3_addPerson_40 : decode cX3_addPerson 40 = .ok (.aload_n 0, 1) := by decide +kernel
theorem dX3_addPerson_41 : decode cX3_addPerson 41 = .ok (.getfield 24, 3) := by decide +kernel
theorem dX3_addPerson_44 : decode cX3_addPerson 44 = .ok (.aload_n 0, 1) := by decide +kernel
theorem dX3_addPerson_45 : decode cX3_addPerson 45 = .ok (.getfield 40, 3) := by decide +kernel
theorem dX3_addPerson_48 : decode cX3_addPerson 48 = .ok (.iload 4, 2) := by decide +kernel
theorem dX3_addPerson_50 : decode cX3_addPerson 50 = .ok (.iastore, 1) := by decide +kernel
theorem dX3_addPerson_51 : decode cX3_addPerson 51 = .ok (.aload_n 0, 1) := by decide +kernel
theorem dX3_addPerson_52 : decode cX3_addPerson 52 = .ok (.getfield 27, 3) := by decide +kernel
theorem dX3_addPerson_55 : decode cX3_addPerson 55 = .ok (.aload_n 0, 1) := by decide +kernel
theorem dX3_addPerson_56 : decode cX3_addPerson 56 = .ok (.getfield 40, 3) := by decide +kernel
theorem dX3_addPerson_59 : decode cX3_addPerson 59 = .ok (.iload 5, 2) := by decide +kernel
theorem dX3_addPerson_61 : decode cX3_addPerson 61 = .ok (.iastore, 1) := by decide +kernel
theorem dX3_addPerson_62 : decode cX3_addPerson 62 = .ok (.aload_n 0, 1) := by decide +kernel
theorem dX3_addPerson_63 : decode cX3_addPerson 63 = .ok (.dup, 1) := by decide +kernel
theorem dX3_addPerson_64 : decode cX3_addPerson 64 = .ok (.getfield 40, 3) := by decide +kernel
theorem dX3_addPerson_67 : decode cX3_addPerson 67 = .ok (.iconst 1, 1) := by decide +kernel
theorem dX3_addPerson_68 : decode cX3_addPerson 68 = .ok (.iadd, 1) := by decide +kernel
theorem dX3_addPerson_69 : decode cX3_addPerson 69 = .ok (.putfield 40, 3) := by decide +kernel
theorem dX3_addPerson_72 : decode cX3_addPerson 72 = .ok (.return_, 1) := by decide +kernel
theorem dX3_isPerson_0 : decode cX3_isPerson 0 = .ok (.iload_n 1, 1) := by decide +kernel
theorem dX3_isPerson_1 : decode cX3_isPerson 1 = .ok (.ifCond .lt 15, 3) := by decide +kernel
theorem dX3_isPerson_4 : decode cX3_isPerson 4 = .ok (.iload_n 1, 1) := by decide +kernel
theorem dX3_isPerson_5 : decode cX3_isPerson 5 = .ok (.aload_n 0, 1) := by decide +kernel
theorem dX3_isPerson_6 : decode cX3_isPerson 6 = .ok (.getfield 40, 3) := by decide +kernel
theorem dX3_isPerson_9 : decode cX3_isPerson 9 = .ok (.if_icmp .ge 7, 3) := by decide +kernel
theorem dX3_isPerson_12 : decode cX3_isPerson 12 = .ok (.iconst 1, 1) := by decide +kernel
theorem dX3_isPerson_13 : decode cX3_isPerson 13 = .ok (.goto 4, 3) := by decide +kernel
theorem dX3_isPerson_16 : decode cX3_isPerson 16 = .ok (.iconst 0, 1) := by decide +kernel
theorem dX3_isPerson_17 : decode cX3_isPerson 17 = .ok (.ireturn, 1) := by decide +kernel
theorem dX3_isWhole_0 : decode cX3_isWhole 0 = .ok (.aload_n 0, 1) := by decide +kernel
theorem dX3_isWhole_1 : decode cX3_isWhole 1 = .ok (.getfield 36, 3) := by decide +kernel
theorem dX3_isWhole_4 : decode cX3_isWhole 4 = .ok (.ifCond .le 14, 3) := by decide +kernel
theorem dX3_isWhole_7 : decode cX3_isWhole 7 = .ok (.aload_n 0, 1) := by decide +kernel
theorem dX3_isWhole_8 : decode cX3_isWhole 8 = .ok (.getfield 40, 3) := by decide +kernel
theorem dX3_isWhole_11 : decode cX3_isWhole 11 = .ok (.ifCond .le 7, 3) := by decide +kernel
theorem dX3_isWhole_14 : decode cX3_isWhole 14 = .ok (.iconst 1, 1) := by decide +kernel
theorem dX3_isWhole_15 : decode cX3_isWhole 15 = .ok (.goto 4, 3) := by decide +kernel
theorem dX3_isWhole_18 : decode cX3_isWhole 18 = .ok (.iconst 0, 1) := by decide +kernel
theorem dX3_isWhole_19 : decode cX3_isWhole 19 = .ok (.ireturn, 1) := by decide +kernel
theorem dX3_weightAt_0 : decode cX3_weightAt 0 = .ok (.aload_n 0, 1) := by decide +kernel
theorem dX3_weightAt_1 : decode cX3_weightAt 1 = .ok (.getfield 36, 3) := by decide +kernel
theorem dX3_weightAt_4 : decode cX3_weightAt 4 = .ok (.iconst 1, 1) := by decide +kernel
theorem dX3_weightAt_5 : decode cX3_weightAt 5 = .ok (.if_icmp .lt 7, 3) := by decide +kernel
theorem dX3_weightAt_8 : decode cX3_weightAt 8 = .ok (.iload_n 1, 1) := by decide +kernel
theorem dX3_weightAt_9 : decode cX3_weightAt 9 = .ok (.ifCond .ge 5, 3) := by decide +kernel
theorem dX3_weightAt_12 : decode cX3_weightAt 12 = .ok (.iconst 0, 1) := by decide +kernel
theorem dX3_weightAt_13 : decode cX3_weightAt 13 = .ok (.ireturn, 1) := by decide +kernel
theorem dX3_weightAt_14 : decode cX3_weightAt 14 = .ok (.aload_n 0, 1) := by decide +kernel
theorem dX3_weightAt_15 : decode cX3_weightAt 15 = .ok (.getfield 9, 3) := by decide +kernel
theorem dX3_weightAt_18 : decode cX3_weightAt 18 = .ok (.iload_n 1, 1) := by decide +kernel
theorem dX3_weightAt_19 : decode cX3_weightAt 19 = .ok (.aload_n 0, 1) := by decide +kernel
theorem dX3_weightAt_20 : decode cX3_weightAt 20 = .ok (.getfield 36, 3) := by decide +kernel
theorem dX3_weightAt_23 : decode cX3_weightAt 23 = .ok (.irem, 1) := by decide +kernel
theorem dX3_weightAt_24 : decode cX3_weightAt 24 = .ok (.iaload, 1) := by decide +kernel
theorem dX3_weightAt_25 : decode cX3_weightAt 25 = .ok (.ireturn, 1) := by decide +kernel
theorem dX3_areLevel_0 : decode cX3_areLevel 0 = .ok (.aload_n 0, 1) := by decide +kernel
theorem dX3_areLevel_1 : decode cX3_areLevel 1 = .ok (.iload_n 1, 1) := by decide +kernel
theorem dX3_areLevel_2 : decode cX3_areLevel 2 = .ok (.invokevirtual 56, 3) := by decide +kernel
theorem dX3_areLevel_5 : decode cX3_areLevel 5 = .ok (.ifCond .eq 35, 3) := by decide +kernel
theorem dX3_areLevel_8 : decode cX3_areLevel 8 = .ok (.aload_n 0, 1) := by decide +kernel
theorem dX3_areLevel_9 : decode cX3_areLevel 9 = .ok (.iload_n 2, 1) := by decide +kernel
theorem dX3_areLevel_10 : decode cX3_areLevel 10 = .ok (.invokevirtual 56, 3) := by decide +kernel
theorem dX3_areLevel_13 : decode cX3_areLevel 13 = .ok (.ifCond .eq 27, 3) := by decide +kernel
theorem dX3_areLevel_16 : decode cX3_areLevel 16 = .ok (.aload_n 0, 1) := by decide +kernel
theorem dX3_areLevel_17 : decode cX3_areLevel 17 = .ok (.getfield 21, 3) := by decide +kernel
theorem dX3_areLevel_20 : decode cX3_areLevel 20 = .ok (.iload_n 1, 1) := by decide +kernel
theorem dX3_areLevel_21 : decode cX3_areLevel 21 = .ok (.iaload, 1) := by decide +kernel
theorem dX3_areLevel_22 : decode cX3_areLevel 22 = .ok (.aload_n 0, 1) := by decide +kernel
theorem dX3_areLevel_23 : decode cX3_areLevel 23 = .ok (.getfield 21, 3) := by decide +kernel
theorem dX3_areLevel_26 : decode cX3_areLevel 26 = .ok (.iload_n 2, 1) := by decide +kernel
theorem dX3_areLevel_27 : decode cX3_areLevel 27 = .ok (.iaload, 1) := by decide +kernel
theorem dX3_areLevel_28 : decode cX3_areLevel 28 = .ok (.isub, 1) := by decide +kernel
theorem dX3_areLevel_29 : decode cX3_areLevel 29 = .ok (.invokestatic 60, 3) := by decide +kernel
theorem dX3_areLevel_32 : decode cX3_areLevel 32 = .ok (.iconst 1, 1) := by decide +kernel
theorem dX3_areLevel_33 : decode cX3_areLevel 33 = .ok (.if_icmp .gt 7, 3) := by decide +kernel
theorem dX3_areLevel_36 : decode cX3_areLevel 36 = .ok (.iconst 1, 1) := by decide +kernel
theorem dX3_areLevel_37 : decode cX3_areLevel 37 = .ok (.goto 4, 3) := by decide +kernel
theorem dX3_areLevel_40 : decode cX3_areLevel 40 = .ok (.iconst 0, 1) := by decide +kernel
theorem dX3_areLevel_41 : decode cX3_areLevel 41 = .ok (.ireturn, 1) := by decide +kernel
theorem dX3_isSon_0 : decode cX3_isSon 0 = .ok (.aload_n 0, 1) := by decide +kernel
theorem dX3_isSon_1 : decode cX3_isSon 1 = .ok (.iload_n 1, 1) := by decide +kernel
theorem dX3_isSon_2 : decode cX3_isSon 2 = .ok (.invokevirtual 56, 3) := by decide +kernel
theorem dX3_isSon_5 : decode cX3_isSon 5 = .ok (.ifCond .eq 25, 3) := by decide +kernel
theorem dX3_isSon_8 : decode cX3_isSon 8 = .ok (.aload_n 0, 1) := by decide +kernel
theorem dX3_isSon_9 : decode cX3_isSon 9 = .ok (.iload_n 2, 1) := by decide +kernel
theorem dX3_isSon_10 : decode cX3_isSon 10 = .ok (.invokevirtual 56, 3) := by decide +kernel
theorem dX3_isSon_13 : decode cX3_isSon 13 = .ok (.ifCond .eq 17, 3) := by decide +kernel
theorem dX3_isSon_16 : decode cX3_isSon 16 = .ok (.aload_n 0, 1) := by decide +kernel
theorem dX3_isSon_17 : decode cX3_isSon 17 = .ok (.getfield 27, 3) := by decide +kernel
theorem dX3_isSon_20 : decode cX3_isSon 20 = .ok (.iload_n 1, 1) := by decide +kernel
theorem dX3_isSon_21 : decode cX3_isSon 21 = .ok (.iaload, 1) := by decide +kernel
theorem dX3_isSon_22 : decode cX3_isSon 22 = .ok (.iload_n 2, 1) := by decide +kernel
theorem dX3_isSon_23 : decode cX3_isSon 23 = .ok (.if_icmp .ne 7, 3) := by decide +kernel
theorem dX3_isSon_26 : decode cX3_isSon 26 = .ok (.iconst 1, 1) := by decide +kernel
theorem dX3_isSon_27 : decode cX3_isSon 27 = .ok (.goto 4, 3) := by decide +kernel
theorem dX3_isSon_30 : decode cX3_isSon 30 = .ok (.iconst 0, 1) := by decide +kernel
theorem dX3_isSon_31 : decode cX3_isSon 31 = .ok (.ireturn, 1) := by decide +kernel
theorem dX4_init_0 : decode cX4_init 0 = .ok (.aload_n 0, 1) := by decide +kernel
theorem dX4_init_1 : decode cX4_init 1 = .ok (.invokespecial 1, 3) := by decide +kernel
theorem dX4_init_4 : decode cX4_init 4 = .ok (.return_, 1) := by decide +kernel
theorem dX4_solve_0 : decode cX4_solve 0 = .ok (.aload_n 0, 1) := by decide +kernel
theorem dX4_solve_1 : decode cX4_solve 1 = .ok (.iload_n 1, 1) := by decide +kernel
theorem dX4_solve_2 : decode cX4_solve 2 = .ok (.putfield 7, 3) := by decide +kernel
theorem dX4_solve_5 : decode cX4_solve 5 = .ok (.aload_n 0, 1) := by decide +kernel
theorem dX4_solve_6 : decode cX4_solve 6 = .ok (.iload_n 2, 1) := by decide +kernel
theorem dX4_solve_7 : decode cX4_solve 7 = .ok (.putfield 13, 3) := by decide +kernel
theorem dX4_solve_10 : decode cX4_solve 10 = .ok (.aload_n 0, 1) := by decide +kernel
theorem dX4_solve_11 : decode cX4_solve 11 = .ok (.iload_n 3, 1) := by decide +kernel
theorem dX4_solve_12 : decode cX4_solve 12 = .ok (.putfield 16, 3) := by decide +kernel
theorem dX4_solve_15 : decode cX4_solve 15 = .ok (.aload_n 0, 1) := by decide +kernel
theorem dX4_solve_16 : decode cX4_solve 16 = .ok (.iload 4, 2) := by decide +kernel
theorem dX4_solve_18 : decode cX4_solve 18 = .ok (.putfield 19, 3) := by decide +kernel
theorem dX4_solve_21 : decode cX4_solve 21 = .ok (.aload_n 0, 1) := by decide +kernel
theorem dX4_solve_22 : decode cX4_solve 22 = .ok (.iconst 0, 1) := by decide +kernel
theorem dX4_solve_23 : decode cX4_solve 23 = .ok (.iconst 1, 1) := by decide +kernel
theorem dX4_solve_24 : decode cX4_solve 24 = .ok (.invokevirtual 22, 3) := by decide +kernel
theorem dX4_solve_27 : decode cX4_solve 27 = .ok (.aload_n 0, 1) := by decide +kernel
theorem dX4_solve_28 : decode cX4_solve 28 = .ok (.iload_n 1, 1) := by decide +kernel
theorem dX4_solve_29 : decode cX4_solve 29 = .ok (.iload_n 2, 1) := by decide +kernel
theorem dX4_solve_30 : decode cX4_solve 30 = .ok (.isub, 1) := by decide +kernel
theorem dX4_solve_31 : decode cX4_solve 31 = .ok (.iload_n 3, 1) := by decide +kernel
theorem dX4_solve_32 : decode cX4_solve 32 = .ok (.isub, 1) := by decide +kernel
theorem dX4_solve_33 : decode cX4_solve 33 = .ok (.iload 4, 2) := by decide +kernel
theorem dX4_solve_35 : decode cX4_solve 35 = .ok (.iadd, 1) := by decide +kernel
theorem dX4_solve_36 : decode cX4_solve 36 = .ok (.iload 4, 2) := by decide +kernel
theorem dX4_solve_38 : decode cX4_solve 38 = .ok (.iload_n 3, 1) := by decide +kernel
theorem dX4_solve_39 : decode cX4_solve 39 = .ok (.isub, 1) := by decide +kernel
theorem dX4_solve_40 : decode cX4_solve 40 = .ok (.invokevirtual 26, 3) := by decide +kernel
theorem dX4_solve_43 : decode cX4_solve 43 = .ok (.aload_n 0, 1) := by decide +kernel
theorem dX4_solve_44 : decode cX4_solve 44 = .ok (.iconst 1, 1) := by decide +kernel
theorem dX4_solve_45 : decode cX4_solve 45 = .ok (.iconst 1, 1) := by decide +kernel
theorem dX4_solve_46 : decode cX4_solve 46 = .ok (.invokevirtual 29, 3) := by decide +kernel
theorem dX4_solve_49 : decode cX4_solve 49 = .ok (.aload_n 0, 1) := by decide +kernel
theorem dX4_solve_50 : decode cX4_solve 50 = .ok (.getfield 32, 3) := by decide +kernel
theorem dX4_solve_53 : decode cX4_solve 53 = .ok (.aload_n 0, 1) := by decide +kernel
theorem dX4_solve_54 : decode cX4_solve 54 = .ok (.getfield 35, 3) := by decide +kernel
theorem dX4_solve_57 : decode cX4_solve 57 = .ok (.invokestatic 38, 3) := by decide +kernel
theorem dX4_solve_60 : decode cX4_solve 60 = .ok (.istore 5, 2) := by decide +kernel
theorem dX4_solve_62 : decode cX4_solve 62 = .ok (.aload_n 0, 1) := by decide +kernel
theorem dX4_solve_63 : decode cX4_solve 63 = .ok (.dup, 1) := by decide +kernel
theorem dX4_solve_64 : decode cX4_solve 64 = .ok (.getfield 32, 3) := by decide +kernel
theorem dX4_solve_67 : decode cX4_solve 67 = .ok (.iload 5, 2) := by decide +kernel
end
section
theorem dX4_solve_69 : decode cX4_solve 69 = .ok (.idiv, 1) := by decide +kernel
theorem dX4_solve_70 : decode cX4_solve 70 = .ok (.putfield 32, 3) := by decide +kernel
theorem dX4_solve_73 : decode cX4_solve 73 = .ok (.aload_n 0, 1) := by decide +kernel
theorem dX4_solve_74 : decode cX4_solve 74 = .ok (.dup, 1) := by decide +kernel
theorem dX4_solve_75 : decode cX4_solve 75 = .ok (.getfield 35, 3) := by decide +kernel
theorem dX4_solve_78 : decode cX4_solve 78 = .ok (.iload 5, 2) := by decide +kernel
theorem dX4_solve_80 : decode cX4_solve 80 = .ok (.idiv, 1) := by decide +kernel
theorem dX4_solve_81 : decode cX4_solve 81 = .ok (.putfield 35, 3) := by decide +kernel
theorem dX4_solve_84 : decode cX4_solve 84 = .ok (.aload_n 0, 1) := by decide +kernel
theorem dX4_solve_85 : decode cX4_solve 85 = .ok (.getfield 42, 3) := by decide +kernel
theorem dX4_solve_88 : decode cX4_solve 88 = .ok (.aload_n 0, 1) := by decide +kernel
theorem dX4_solve_89 : decode cX4_solve 89 = .ok (.getfield 45, 3) := by decide +kernel
theorem dX4_solve_92 : decode cX4_solve 92 = .ok (.invokestatic 38, 3) := by decide +kernel
theorem dX4_solve_95 : decode cX4_solve 95 = .ok (.istore 6, 2) := by decide +kernel
theorem dX4_solve_97 : decode cX4_solve 97 = .ok (.aload_n 0, 1) := by decide +kernel
theorem dX4_solve_98 : decode cX4_solve 98 = .ok (.dup, 1) := by decide +kernel
theorem dX4_solve_99 : decode cX4_solve 99 = .ok (.getfield 42, 3) := by decide +kernel
theorem dX4_solve_102 : decode cX4_solve 102 = .ok (.iload 6, 2) := by decide +kernel
theorem dX4_solve_104 : decode cX4_solve 104 = .ok (.idiv, 1) := by decide +kernel
theorem dX4_solve_105 : decode cX4_solve 105 = .ok (.putfield 42, 3) := by decide +kernel
theorem dX4_solve_108 : decode cX4_solve 108 = .ok (.aload_n 0, 1) := by decide +kernel
theorem dX4_solve_109 : decode cX4_solve 109 = .ok (.dup, 1) := by decide +kernel
theorem dX4_solve_110 : decode cX4_solve 110 = .ok (.getfield 45, 3) := by decide +kernel
theorem dX4_solve_113 : decode cX4_solve 113 = .ok (.iload 6, 2) := by decide +kernel
theorem dX4_solve_115 : decode cX4_solve 115 = .ok (.idiv, 1) := by decide +kernel
theorem dX4_solve_116 : decode cX4_solve 116 = .ok (.putfield 45, 3) := by decide +kernel
theorem dX4_solve_119 : decode cX4_solve 119 = .ok (.return_, 1) := by decide +kernel
theorem dX4_tryEvenOdds_0 : decode cX4_tryEvenOdds 0 = .ok (.iload_n 1, 1) := by decide +kernel
theorem dX4_tryEvenOdds_1 : decode cX4_tryEvenOdds 1 = .ok (.invokestatic 48, 3) := by decide +kernel
theorem dX4_tryEvenOdds_4 : decode cX4_tryEvenOdds 4 = .ok (.istore_n 3, 1) := by decide +kernel
theorem dX4_tryEvenOdds_5 : decode cX4_tryEvenOdds 5 = .ok (.iload_n 1, 1) := by decide +kernel
theorem dX4_tryEvenOdds_6 : decode cX4_tryEvenOdds 6 = .ok (.ifCond .ge 8, 3) := by decide +kernel
theorem dX4_tryEvenOdds_9 : decode cX4_tryEvenOdds 9 = .ok (.iload_n 2, 1) := by decide +kernel
theorem dX4_tryEvenOdds_10 : decode cX4_tryEvenOdds 10 = .ok (.ineg, 1) := by decide +kernel
theorem dX4_tryEvenOdds_11 : decode cX4_tryEvenOdds 11 = .ok (.goto 4, 3) := by decide +kernel
theorem dX4_tryEvenOdds_14 : decode cX4_tryEvenOdds 14 = .ok (.iload_n 2, 1) := by decide +kernel
theorem dX4_tryEvenOdds_15 : decode cX4_tryEvenOdds 15 = .ok (.istore 4, 2) := by decide +kernel
theorem dX4_tryEvenOdds_17 : decode cX4_tryEvenOdds 17 = .ok (.iload 4, 2) := by decide +kernel
theorem dX4_tryEvenOdds_19 : decode cX4_tryEvenOdds 19 = .ok (.ifCond .le 16, 3) := by decide +kernel
theorem dX4_tryEvenOdds_22 : decode cX4_tryEvenOdds 22 = .ok (.iload 4, 2) := by decide +kernel
theorem dX4_tryEvenOdds_24 : decode cX4_tryEvenOdds 24 = .ok (.iload_n 3, 1) := by decide +kernel
theorem dX4_tryEvenOdds_25 : decode cX4_tryEvenOdds 25 = .ok (.if_icmp .ge 10, 3) := by decide +kernel
theorem dX4_tryEvenOdds_28 : decode cX4_tryEvenOdds 28 = .ok (.aload_n 0, 1) := by decide +kernel
theorem dX4_tryEvenOdds_29 : decode cX4_tryEvenOdds 29 = .ok (.iload 4, 2) := by decide +kernel
theorem dX4_tryEvenOdds_31 : decode cX4_tryEvenOdds 31 = .ok (.iload_n 3, 1) := by decide +kernel
theorem dX4_tryEvenOdds_32 : decode cX4_tryEvenOdds 32 = .ok (.invokevirtual 29, 3) := by decide +kernel
theorem dX4_tryEvenOdds_35 : decode cX4_tryEvenOdds 35 = .ok (.return_, 1) := by decide +kernel
theorem dX4_tryOdds_0 : decode cX4_tryOdds 0 = .ok (.aload_n 0, 1) := by decide +kernel
theorem dX4_tryOdds_1 : decode cX4_tryOdds 1 = .ok (.iload_n 1, 1) := by decide +kernel
theorem dX4_tryOdds_2 : decode cX4_tryOdds 2 = .ok (.iload_n 2, 1) := by decide +kernel
theorem dX4_tryOdds_3 : decode cX4_tryOdds 3 = .ok (.invokevirtual 54, 3) := by decide +kernel
theorem dX4_tryOdds_6 : decode cX4_tryOdds 6 = .ok (.aload_n 0, 1) := by decide +kernel
theorem dX4_tryOdds_7 : decode cX4_tryOdds 7 = .ok (.getfield 35, 3) := by decide +kernel
theorem dX4_tryOdds_10 : decode cX4_tryOdds 10 = .ok (.imul, 1) := by decide +kernel
theorem dX4_tryOdds_11 : decode cX4_tryOdds 11 = .ok (.aload_n 0, 1) := by decide +kernel
theorem dX4_tryOdds_12 : decode cX4_tryOdds 12 = .ok (.getfield 32, 3) := by decide +kernel
theorem dX4_tryOdds_15 : decode cX4_tryOdds 15 = .ok (.iload_n 2, 1) := by decide +kernel
theorem dX4_tryOdds_16 : decode cX4_tryOdds 16 = .ok (.imul, 1) := by decide +kernel
theorem dX4_tryOdds_17 : decode cX4_tryOdds 17 = .ok (.if_icmp .le 9, 3) := by decide +kernel
theorem dX4_tryOdds_20 : decode cX4_tryOdds 20 = .ok (.aload_n 0, 1) := by decide +kernel
theorem dX4_tryOdds_21 : decode cX4_tryOdds 21 = .ok (.iload_n 1, 1) := by decide +kernel
theorem dX4_tryOdds_22 : decode cX4_tryOdds 22 = .ok (.iload_n 2, 1) := by decide +kernel
theorem dX4_tryOdds_23 : decode cX4_tryOdds 23 = .ok (.invokevirtual 22, 3) := by decide +kernel
theorem dX4_tryOdds_26 : decode cX4_tryOdds 26 = .ok (.return_, 1) := by decide +kernel
theorem dX4_setOdds_0 : decode cX4_setOdds 0 = .ok (.aload_n 0, 1) := by decide +kernel
theorem dX4_setOdds_1 : decode cX4_setOdds 1 = .ok (.iload_n 1, 1) := by decide +kernel
theorem dX4_setOdds_2 : decode cX4_setOdds 2 = .ok (.putfield 42, 3) := by decide +kernel
theorem dX4_setOdds_5 : decode cX4_setOdds 5 = .ok (.aload_n 0, 1) := by decide +kernel
theorem dX4_setOdds_6 : decode cX4_setOdds 6 = .ok (.iload_n 2, 1) := by decide +kernel
theorem dX4_setOdds_7 : decode cX4_setOdds 7 = .ok (.putfield 45, 3) := by decide +kernel
theorem dX4_setOdds_10 : decode cX4_setOdds 10 = .ok (.aload_n 0, 1) := by decide +kernel
theorem dX4_setOdds_11 : decode cX4_setOdds 11 = .ok (.aload_n 0, 1) := by decide +kernel
theorem dX4_setOdds_12 : decode cX4_setOdds 12 = .ok (.iload_n 1, 1) := by decide +kernel
theorem dX4_setOdds_13 : decode cX4_setOdds 13 = .ok (.iload_n 2, 1) := by decide +kernel
theorem dX4_setOdds_14 : decode cX4_setOdds 14 = .ok (.invokevirtual 54, 3) := by decide +kernel
theorem dX4_setOdds_17 : decode cX4_setOdds 17 = .ok (.putfield 32, 3) := by decide +kernel
theorem dX4_setOdds_20 : decode cX4_setOdds 20 = .ok (.aload_n 0, 1) := by decide +kernel
theorem dX4_setOdds_21 : decode cX4_setOdds 21 = .ok (.iload_n 2, 1) := by decide +kernel
theorem dX4_setOdds_22 : decode cX4_setOdds 22 = .ok (.putfield 35, 3) := by decide +kernel
theorem dX4_setOdds_25 : decode cX4_setOdds 25 = .ok (.return_, 1) := by decide +kernel
theorem dX4_valueOf_0 : decode cX4_valueOf 0 = .ok (.aload_n 0, 1) := by decide +kernel
theorem dX4_valueOf_1 : decode cX4_valueOf 1 = .ok (.getfield 7, 3) := by decide +kernel
theorem dX4_valueOf_4 : decode cX4_valueOf 4 = .ok (.iload_n 1, 1) := by decide +kernel
theorem dX4_valueOf_5 : decode cX4_valueOf 5 = .ok (.imul, 1) := by decide +kernel
theorem dX4_valueOf_6 : decode cX4_valueOf 6 = .ok (.aload_n 0, 1) := by decide +kernel
theorem dX4_valueOf_7 : decode cX4_valueOf 7 = .ok (.getfield 16, 3) := by decide +kernel
theorem dX4_valueOf_10 : decode cX4_valueOf 10 = .ok (.iload_n 2, 1) := by decide +kernel
theorem dX4_valueOf_11 : decode cX4_valueOf 11 = .ok (.iload_n 1, 1) := by decide +kernel
theorem dX4_valueOf_12 : decode cX4_valueOf 12 = .ok (.isub, 1) := by decide +kernel
theorem dX4_valueOf_13 : decode cX4_valueOf 13 = .ok (.imul, 1) := by decide +kernel
theorem dX4_valueOf_14 : decode cX4_valueOf 14 = .ok (.iadd, 1) := by decide +kernel
theorem dX4_valueOf_15 : decode cX4_valueOf 15 = .ok (.istore_n 3, 1) := by decide +kernel
theorem dX4_valueOf_16 : decode cX4_valueOf 16 = .ok (.aload_n 0, 1) := by decide +kernel
theorem dX4_valueOf_17 : decode cX4_valueOf 17 = .ok (.getfield 13, 3) := by decide +kernel
theorem dX4_valueOf_20 : decode cX4_valueOf 20 = .ok (.iload_n 1, 1) := by decide +kernel
theorem dX4_valueOf_21 : decode cX4_valueOf 21 = .ok (.imul, 1) := by decide +kernel
theorem dX4_valueOf_22 : decode cX4_valueOf 22 = .ok (.aload_n 0, 1) := by decide +kernel
theorem dX4_valueOf_23 : decode cX4_valueOf 23 = .ok (.getfield 19, 3) := by decide +kernel
theorem dX4_valueOf_26 : decode cX4_valueOf 26 = .ok (.iload_n 2, 1) := by decide +kernel
theorem dX4_valueOf_27 : decode cX4_valueOf 27 = .ok (.iload_n 1, 1) := by decide +kernel
theorem dX4_valueOf_28 : decode cX4_valueOf 28 = .ok (.isub, 1) := by decide +kernel
theorem dX4_valueOf_29 : decode cX4_valueOf 29 = .ok (.imul, 1) := by decide +kernel
theorem dX4_valueOf_30 : decode cX4_valueOf 30 = .ok (.iadd, 1) := by decide +kernel
theorem dX4_valueOf_31 : decode cX4_valueOf 31 = .ok (.istore 4, 2) := by decide +kernel
theorem dX4_valueOf_33 : decode cX4_valueOf 33 = .ok (.iload_n 3, 1) := by decide +kernel
theorem dX4_valueOf_34 : decode cX4_valueOf 34 = .ok (.iload 4, 2) := by decide +kernel
theorem dX4_valueOf_36 : decode cX4_valueOf 36 = .ok (.invokestatic 57, 3) := by decide +kernel
theorem dX4_valueOf_39 : decode cX4_valueOf 39 = .ok (.ireturn, 1) := by decide +kernel
theorem dX4_greatestCommonPart_0 : decode cX4_greatestCommonPart 0 = .ok (.iload_n 0, 1) := by decide +kernel
theorem dX4_greatestCommonPart_1 : decode cX4_greatestCommonPart 1 = .ok (.iload_n 1, 1) := by decide +kernel
theorem dX4_greatestCommonPart_2 : decode cX4_greatestCommonPart 2 = .ok (.invokestatic 60, 3) := by decide +kernel
theorem dX4_greatestCommonPart_5 : decode cX4_greatestCommonPart 5 = .ok (.istore_n 2, 1) := by decide +kernel
theorem dX4_greatestCommonPart_6 : decode cX4_greatestCommonPart 6 = .ok (.iload_n 0, 1) := by decide +kernel
theorem dX4_greatestCommonPart_7 : decode cX4_greatestCommonPart 7 = .ok (.iload_n 1, 1) := by decide +kernel
theorem dX4_greatestCommonPart_8 : decode cX4_greatestCommonPart 8 = .ok (.invokestatic 57, 3) := by decide +kernel
theorem dX4_greatestCommonPart_11 : decode cX4_greatestCommonPart 11 = .ok (.istore_n 3, 1) := by decide +kernel
theorem dX4_greatestCommonPart_12 : decode cX4_greatestCommonPart 12 = .ok (.iconst 0, 1) := by decide +kernel
theorem dX4_greatestCommonPart_13 : decode cX4_greatestCommonPart 13 = .ok (.istore 4, 2) := by decide +kernel
theorem dX4_greatestCommonPart_15 : decode cX4_greatestCommonPart 15 = .ok (.iload 4, 2) := by decide +kernel
theorem dX4_greatestCommonPart_17 : decode cX4_greatestCommonPart 17 = .ok (.bipush 100, 2) := by decide +kernel
theorem dX4_greatestCommonPart_19 : decode cX4_greatestCommonPart 19 = .ok (.if_icmp .ge 23, 3) := by decide +kernel
theorem dX4_greatestCommonPart_22 : decode cX4_greatestCommonPart 22 = .ok (.iload_n 3, 1) := by decide +kernel
theorem dX4_greatestCommonPart_23 : decode cX4_greatestCommonPart 23 = .ok (.ifCond .le 19, 3) := by decide +kernel
theorem dX4_greatestCommonPart_26 : decode cX4_greatestCommonPart 26 = .ok (.iload_n 2, 1) := by decide +kernel
theorem dX4_greatestCommonPart_27 : decode cX4_greatestCommonPart 27 = .ok (.iload_n 3, 1) := by decide +kernel
theorem dX4_greatestCommonPart_28 : decode cX4_greatestCommonPart 28 = .ok (.irem, 1) := by decide +kernel
theorem dX4_greatestCommonPart_29 : decode cX4_greatestCommonPart 29 = .ok (.istore 5, 2) := by decide +kernel
theorem dX4_greatestCommonPart_31 : decode cX4_greatestCommonPart 31 = .ok (.iload_n 3, 1) := by decide +kernel
theorem dX4_greatestCommonPart_32 : decode cX4_greatestCommonPart 32 = .ok (.istore_n 2, 1) := by decide +kernel
theorem dX4_greatestCommonPart_33 : decode cX4_greatestCommonPart 33 = .ok (.iload 5, 2) := by decide +kernel
theorem dX4_greatestCommonPart_35 : decode cX4_greatestCommonPart 35 = .ok (.istore_n 3, 1) := by decide +kernel
theorem dX4_greatestCommonPart_36 : decode cX4_greatestCommonPart 36 = .ok (.iinc 4 1, 3) := by decide +kernel
theorem dX4_greatestCommonPart_39 : decode cX4_greatestCommonPart 39 = .ok (.goto (-24), 3) := by decide +kernel
theorem dX4_greatestCommonPart_42 : decode cX4_greatestCommonPart 42 = .ok (.iconst 1, 1) := by decide +kernel
theorem dX4_greatestCommonPart_43 : decode cX4_greatestCommonPart 43 = .ok (.iload_n 2, 1) := by decide +kernel
theorem dX4_greatestCommonPart_44 : decode cX4_greatestCommonPart 44 = .ok (.invokestatic 60, 3) := by decide +kernel
theorem dX4_greatestCommonPart_47 : decode cX4_greatestCommonPart 47 = .ok (.ireturn, 1) := by decide +kernel
theorem dX5_init_0 : decode cX5_init 0 = .ok (.aload_n 0, 1) := by decide +kernel
theorem dX5_init_1 : decode cX5_init 1 = .ok (.invokespecial 3, 3) := by decide +kernel
theorem dX5_init_4 : decode cX5_init 4 = .ok (.aload_n 0, 1) := by decide +kernel
theorem dX5_init_5 : decode cX5_init 5 = .ok (.bipush 60, 2) := by decide +kernel
theorem dX5_init_7 : decode cX5_init 7 = .ok (.anewarray 9, 3) := by decide +kernel
theorem dX5_init_10 : decode cX5_init 10 = .ok (.putfield 11, 3) := by decide +kernel
theorem dX5_init_13 : decode cX5_init 13 = .ok (.iconst 0, 1) := by decide +kernel
theorem dX5_init_14 : decode cX5_init 14 = .ok (.istore_n 2, 1) := by decide +kernel
theorem dX5_init_15 : decode cX5_init 15 = .ok (.iload_n 2, 1) := by decide +kernel
theorem dX5_init_16 : decode cX5_init 16 = .ok (.bipush 60, 2) := by decide +kernel
theorem dX5_init_18 : decode cX5_init 18 = .ok (.if_icmp .ge 23, 3) := by decide +kernel
theorem dX5_init_21 : decode cX5_init 21 = .ok (.aload_n 0, 1) := by decide +kernel
theorem dX5_init_22 : decode cX5_init 22 = .ok (.getfield 11, 3) := by decide +kernel
theorem dX5_init_25 : decode cX5_init 25 = .ok (.iload_n 2, 1) := by decide +kernel
theorem dX5_init_26 : decode cX5_init 26 = .ok (.new 9, 3) := by decide +kernel
theorem dX5_init_29 : decode cX5_init 29 = .ok (.dup, 1) := by decide +kernel
theorem dX5_init_30 : decode cX5_init 30 = .ok (.aload_n 1, 1) := by decide +kernel
theorem dX5_init_31 : decode cX5_init 31 = .ok (.invokespecial 17, 3) := by decide +kernel
theorem dX5_init_34 : decode cX5_init 34 = .ok (.aastore, 1) := by decide +kernel
theorem dX5_init_35 : decode cX5_init 35 = .ok (.iinc 2 1, 3) := by decide +kernel
theorem dX5_init_38 : decode cX5_init 38 = .ok (.goto (-23), 3) := by decide +kernel
theorem dX5_init_41 : decode cX5_init 41 = .ok (.return_, 1) := by decide +kernel
theorem dX5_forget_0 : decode cX5_forget 0 = .ok (.aload_n 0, 1) := by decide +kernel
theorem dX5_forget_1 : decode cX5_forget 1 = .ok (.iconst 0, 1) := by decide +kernel
theorem dX5_forget_2 : decode cX5_forget 2 = .ok (.putfield 20, 3) := by decide +kernel
theorem dX5_forget_5 : decode cX5_forget 5 = .ok (.aload_n 0, 1) := by decide +kernel
theorem dX5_forget_6 : decode cX5_forget 6 = .ok (.iconst 0, 1) := by decide +kernel
theorem dX5_forget_7 : decode cX5_forget 7 = .ok (.putfield 24, 3) := by decide +kernel
theorem dX5_forget_10 : decode cX5_forget 10 = .ok (.return_, 1) := by decide +kernel
theorem dX5_add_0 : decode cX5_add 0 = .ok (.aload_n 0, 1) := by decide +kernel
theorem dX5_add_1 : decode cX5_add 1 = .ok (.getfield 11, 3) := by decide +kernel
theorem dX5_add_4 : decode cX5_add 4 = .ok (.aload_n 0, 1) := by decide +kernel
theorem dX5_add_5 : decode cX5_add 5 = .ok (.getfield 24, 3) := by decide +kernel
theorem dX5_add_8 : decode cX5_add 8 = .ok (.aaload, 1) := by decide +kernel
theorem dX5_add_9 : decode cX5_add 9 = .ok (.aload_n 1, 1) := by decide +kernel
theorem dX5_add_10 : decode cX5_add 10 = .ok (.invokevirtual 27, 3) := by decide +kernel
theorem dX5_add_13 : decode cX5_add 13 = .ok (.aload_n 0, 1) := by decide +kernel
theorem dX5_add_14 : decode cX5_add 14 = .ok (.aload_n 0, 1) := by decide +kernel
theorem dX5_add_15 : decode cX5_add 15 = .ok (.getfield 24, 3) := by decide +kernel
theorem dX5_add_18 : decode cX5_add 18 = .ok (.iconst 1, 1) := by decide +kernel
theorem dX5_add_19 : decode cX5_add 19 = .ok (.iadd, 1) := by decide +kernel
theorem dX5_add_20 : decode cX5_add 20 = .ok (.bipush 60, 2) := by decide +kernel
theorem dX5_add_22 : decode cX5_add 22 = .ok (.irem, 1) := by decide +kernel
theorem dX5_add_23 : decode cX5_add 23 = .ok (.putfield 24, 3) := by decide +kernel
theorem dX5_add_26 : decode cX5_add 26 = .ok (.aload_n 0, 1) := by decide +kernel
theorem dX5_add_27 : decode cX5_add 27 = .ok (.bipush 60, 2) := by decide +kernel
theorem dX5_add_29 : decode cX5_add 29 = .ok (.aload_n 0, 1) := by decide +kernel
theorem dX5_add_30 : decode cX5_add 30 = .ok (.getfield 20, 3) := by decide +kernel
theorem dX5_add_33 : decode cX5_add 33 = .ok (.iconst 1, 1) := by decide +kernel
theorem dX5_add_34 : decode cX5_add 34 = .ok (.iadd, 1) := by decide +kernel
theorem dX5_add_35 : decode cX5_add 35 = .ok (.invokestatic 31, 3) := by decide +kernel
theorem dX5_add_38 : decode cX5_add 38 = .ok (.putfield 20, 3) := by decide +kernel
theorem dX5_add_41 : decode cX5_add 41 = .ok (.return_, 1) := by decide +kernel
theorem dX5_takeBack_0 : decode cX5_takeBack 0 = .ok (.iload_n 2, 1) := by decide +kernel
theorem dX5_takeBack_1 : decode cX5_takeBack 1 = .ok (.iconst 1, 1) := by decide +kernel
theorem dX5_takeBack_2 : decode cX5_takeBack 2 = .ok (.if_icmp .lt 11, 3) := by decide +kernel
theorem dX5_takeBack_5 : decode cX5_takeBack 5 = .ok (.iload_n 2, 1) := by decide +kernel
theorem dX5_takeBack_6 : decode cX5_takeBack 6 = .ok (.aload_n 0, 1) := by decide +kernel
theorem dX5_takeBack_7 : decode cX5_takeBack 7 = .ok (.getfield 20, 3) := by decide +kernel
theorem dX5_takeBack_10 : decode cX5_takeBack 10 = .ok (.if_icmp .le 4, 3) := by decide +kernel
theorem dX5_takeBack_13 : decode cX5_takeBack 13 = .ok (.return_, 1) := by decide +kernel
theorem dX5_takeBack_14 : decode cX5_takeBack 14 = .ok (.aload_n 0, 1) := by decide +kernel
theorem dX5_takeBack_15 : decode cX5_takeBack 15 = .ok (.aload_n 0, 1) := by decide +kernel
theorem dX5_takeBack_16 : decode cX5_takeBack 16 = .ok (.getfield 24, 3) := by decide +kernel
theorem dX5_takeBack_19 : decode cX5_takeBack 19 = .ok (.bipush 60, 2) := by decide +kernel
theorem dX5_takeBack_21 : decode cX5_takeBack 21 = .ok (.iadd, 1) := by decide +kernel
theorem dX5_takeBack_22 : decode cX5_takeBack 22 = .ok (.iload_n 2, 1) := by decide +kernel
theorem dX5_takeBack_23 : decode cX5_takeBack 23 = .ok (.isub, 1) := by decide +kernel
theorem dX5_takeBack_24 : decode cX5_takeBack 24 = .ok (.bipush 60, 2) := by decide +kernel
theorem dX5_takeBack_26 : decode cX5_takeBack 26 = .ok (.irem, 1) := by decide +kernel
theorem dX5_takeBack_27 : decode cX5_takeBack 27 = .ok (.putfield 24, 3) := by decide +kernel
theorem dX5_takeBack_30 : decode cX5_takeBack 30 = .ok (.aload_n 0, 1) := by decide +kernel
theorem dX5_takeBack_31 : decode cX5_takeBack 31 = .ok (.dup, 1) := by decide +kernel
theorem dX5_takeBack_32 : decode cX5_takeBack 32 = .ok (.getfield 20, 3) := by decide +kernel
theorem dX5_takeBack_35 : decode cX5_takeBack 35 = .ok (.iload_n 2, 1) := by decide +kernel
theorem dX5_takeBack_36 : decode cX5_takeBack 36 = .ok (.isub, 1) := by decide +kernel
theorem dX5_takeBack_37 : decode cX5_takeBack 37 = .ok (.putfield 20, 3) := by decide +kernel
theorem dX5_takeBack_40 : decode cX5_takeBack 40 = .ok (.aload_n 1, 1) := by decide +kernel
theorem dX5_takeBack_41 : decode cX5_takeBack 41 = .ok (.aload_n 0, 1) := by decide +kernel
theorem dX5_takeBack_42 : decode cX5_takeBack 42 = .ok (.getfield 11, 3) := by decide +kernel
theorem dX5_takeBack_45 : decode cX5_takeBack 45 = .ok (.aload_n 0, 1) := by decide +kernel
theorem dX5_takeBack_46 : decode cX5_takeBack 46 = .ok (.getfield 24, 3) := by decide +kernel
theorem dX5_takeBack_49 : decode cX5_takeBack 49 = .ok (.aaload, 1) := by decide +kernel
theorem dX5_takeBack_50 : decode cX5_takeBack 50 = .ok (.invokevirtual 27, 3) := by decide +kernel
theorem dX5_takeBack_53 : decode cX5_takeBack 53 = .ok (.return_, 1) := by decide +kernel
theorem dX6_init_0 : decode cX6_init 0 = .ok (.aload_n 0, 1) := by decide +kernel
theorem dX6_init_1 : decode cX6_init 1 = .ok (.invokespecial 3, 3) := by decide +kernel
theorem dX6_init_4 : decode cX6_init 4 = .ok (.aload_n 0, 1) := by decide +kernel
theorem dX6_init_5 : decode cX6_init 5 = .ok (.sipush 250, 3) := by decide +kernel
theorem dX6_init_8 : decode cX6_init 8 = .ok (.newarray .int, 2) := by decide +kernel
theorem dX6_init_10 : decode cX6_init 10 = .ok (.putfield 9, 3) := by decide +kernel
theorem dX6_init_13 : decode cX6_init 13 = .ok (.aload_n 0, 1) := by decide +kernel
theorem dX6_init_14 : decode cX6_init 14 = .ok (.new 15, 3) := by decide +kernel
theorem dX6_init_17 : decode cX6_init 17 = .ok (.dup, 1) := by decide +kernel
theorem dX6_init_18 : decode cX6_init 18 = .ok (.invokespecial 17, 3) := by decide +kernel
theorem dX6_init_21 : decode cX6_init 21 = .ok (.putfield 18, 3) := by decide +kernel
theorem dX6_init_24 : decode cX6_init 24 = .ok (.aload_n 0, 1) := by decide +kernel
theorem dX6_init_25 : decode cX6_init 25 = .ok (.iconst (-1), 1) := by decide +kernel
theorem dX6_init_26 : decode cX6_init 26 = .ok (.putfield 22, 3) := by decide +kernel
theorem dX6_init_29 : decode cX6_init 29 = .ok (.return_, 1) := by decide +kernel
theorem dX6_add_0 : decode cX6_add 0 = .ok (.aload_n 0, 1) := by decide +kernel
theorem dX6_add_1 : decode cX6_add 1 = .ok (.getfield 26, 3) := by decide +kernel
theorem dX6_add_4 : decode cX6_add 4 = .ok (.sipush 250, 3) := by decide +kernel
theorem dX6_add_7 : decode cX6_add 7 = .ok (.if_icmp .ge 23, 3) := by decide +kernel
theorem dX6_add_10 : decode cX6_add 10 = .ok (.aload_n 0, 1) := by decide +kernel
theorem dX6_add_11 : decode cX6_add 11 = .ok (.getfield 9, 3) := by decide +kernel
theorem dX6_add_14 : decode cX6_add 14 = .ok (.aload_n 0, 1) := by decide +kernel
theorem dX6_add_15 : decode cX6_add 15 = .ok (.getfield 26, 3) := by decide +kernel
theorem dX6_add_18 : decode cX6_add 18 = .ok (.iload_n 1, 1) := by decide +kernel
theorem dX6_add_19 : decode cX6_add 19 = .ok (.iastore, 1) := by decide +kernel
theorem dX6_add_20 : decode cX6_add 20 = .ok (.aload_n 0, 1) := by decide +kernel
theorem dX6_add_21 : decode cX6_add 21 = .ok (.dup, 1) := by decide +kernel
theorem dX6_add_22 : decode cX6_add 22 = .ok (.getfield 26, 3) := by decide +kernel
theorem dX6_add_25 : decode cX6_add 25 = .ok (.iconst 1, 1) := by decide +kernel
theorem dX6_add_26 : decode cX6_add 26 = .ok (.iadd, 1) := by decide +kernel
theorem dX6_add_27 : decode cX6_add 27 = .ok (.putfield 26, 3) := by decide +kernel
theorem dX6_add_30 : decode cX6_add 30 = .ok (.aload_n 0, 1) := by decide +kernel
theorem dX6_add_31 : decode cX6_add 31 = .ok (.getfield 26, 3) := by decide +kernel
theorem dX6_add_34 : decode cX6_add 34 = .ok (.ireturn, 1) := by decide +kernel
theorem dX6_readText_0 : decode cX6_readText 0 = .ok (.aload_n 0, 1) := by decide +kernel
theorem dX6_readText_1 : decode cX6_readText 1 = .ok (.getfield 18, 3) := by decide +kernel
theorem dX6_readText_4 : decode cX6_readText 4 = .ok (.invokevirtual 29, 3) := by decide +kernel
theorem dX6_readText_7 : decode cX6_readText 7 = .ok (.aload_n 0, 1) := by decide +kernel
theorem dX6_readText_8 : decode cX6_readText 8 = .ok (.iconst 0, 1) := by decide +kernel
theorem dX6_readText_9 : decode cX6_readText 9 = .ok (.putfield 32, 3) := by decide +kernel
theorem dX6_readText_12 : decode cX6_readText 12 = .ok (.aload_n 0, 1) := by decide +kernel
theorem dX6_readText_13 : decode cX6_readText 13 = .ok (.iconst (-1), 1) := by decide +kernel
theorem dX6_readText_14 : decode cX6_readText 14 = .ok (.putfield 22, 3) := by decide +kernel
theorem dX6_readText_17 : decode cX6_readText 17 = .ok (.aload_n 0, 1) := by decide +kernel
theorem dX6_readText_18 : decode cX6_readText 18 = .ok (.iconst 0, 1) := by decide +kernel
theorem dX6_readText_19 : decode cX6_readText 19 = .ok (.putfield 35, 3) := by decide +kernel
theorem dX6_readText_22 : decode cX6_readText 22 = .ok (.aload_n 0, 1) := by decide +kernel
theorem dX6_readText_23 : decode cX6_readText 23 = .ok (.iconst 0, 1) := by decide +kernel
theorem dX6_readText_24 : decode cX6_readText 24 = .ok (.putfield 38, 3) := by decide +kernel
theorem dX6_readText_27 : decode cX6_readText 27 = .ok (.aload_n 0, 1) := by decide +kernel
theorem dX6_readText_28 : decode cX6_readText 28 = .ok (.iconst 0, 1) := by decide +kernel
theorem dX6_readText_29 : decode cX6_readText 29 = .ok (.putfield 42, 3) := by decide +kernel
theorem dX6_readText_32 : decode cX6_readText 32 = .ok (.iconst 0, 1) := by decide +kernel
theorem dX6_readText_33 : decode cX6_readText 33 = .ok (.istore_n 1, 1) := by decide +kernel
theorem dX6_readText_34 : decode cX6_readText 34 = .ok (.iload_n 1, 1) := by decide +kernel
theorem dX6_readText_35 : decode cX6_readText 35 = .ok (.sipush 250, 3) := by decide +kernel
theorem dX6_readText_38 : decode cX6_readText 38 = .ok (.if_icmp .ge 20, 3) := by decide +kernel
theorem dX6_readText_41 : decode cX6_readText 41 = .ok (.aload_n 0, 1) := by decide +kernel
theorem dX6_readText_42 : decode cX6_readText 42 = .ok (.invokevirtual 45, 3) := by decide +kernel
theorem dX6_readText_45 : decode cX6_readText 45 = .ok (.ifCond .eq 13, 3) := by decide +kernel
theorem dX6_readText_48 : decode cX6_readText 48 = .ok (.aload_n 0, 1) := by decide +kernel
theorem dX6_readText_49 : decode cX6_readText 49 = .ok (.invokevirtual 49, 3) := by decide +kernel
theorem dX6_readText_52 : decode cX6_readText 52 = .ok (.iinc 1 1, 3) := by decide +kernel
theorem dX6_readText_55 : decode cX6_readText 55 = .ok (.goto (-21), 3) := by decide +kernel
theorem dX6_readText_58 : decode cX6_readText 58 = .ok (.aload_n 0, 1) := by decide +kernel
theorem dX6_readText_59 : decode cX6_readText 59 = .ok (.iconst 0, 1) := by decide +kernel
theorem dX6_readText_60 : decode cX6_readText 60 = .ok (.putfield 26, 3) := by decide +kernel
theorem dX6_readText_63 : decode cX6_readText 63 = .ok (.return_, 1) := by decide +kernel
theorem dX6_hasMore_0 : decode cX6_hasMore 0 = .ok (.aload_n 0, 1) := by decide +kernel
theorem dX6_hasMore_1 : decode cX6_hasMore 1 = .ok (.invokevirtual 52, 3) := by decide +kernel
theorem dX6_hasMore_4 : decode cX6_hasMore 4 = .ok (.aload_n 0, 1) := by decide +kernel
theorem dX6_hasMore_5 : decode cX6_hasMore 5 = .ok (.getfield 32, 3) := by decide +kernel
theorem dX6_hasMore_8 : decode cX6_hasMore 8 = .ok (.ifCond .ne 18, 3) := by decide +kernel
theorem dX6_hasMore_11 : decode cX6_hasMore 11 = .ok (.aload_n 0, 1) := by decide +kernel
theorem dX6_hasMore_12 : decode cX6_hasMore 12 = .ok (.getfield 35, 3) := by decide +kernel
theorem dX6_hasMore_15 : decode cX6_hasMore 15 = .ok (.aload_n 0, 1) := by decide +kernel
theorem dX6_hasMore_16 : decode cX6_hasMore 16 = .ok (.getfield 26, 3) := by decide +kernel
theorem dX6_hasMore_19 : decode cX6_hasMore 19 = .ok (.if_icmp .ge 7, 3) := by decide +kernel
theorem dX6_hasMore_22 : decode cX6_hasMore 22 = .ok (.iconst 1, 1) := by decide +kernel
theorem dX6_hasMore_23 : decode cX6_hasMore 23 = .ok (.goto 4, 3) := by decide +kernel
theorem dX6_hasMore_26 : decode cX6_hasMore 26 = .ok (.iconst 0, 1) := by decide +kernel
theorem dX6_hasMore_27 : decode cX6_hasMore 27 = .ok (.ireturn, 1) := by decide +kernel
theorem dX6_readClause_0 : decode cX6_readClause 0 = .ok (.aload_n 0, 1) := by decide +kernel
theorem dX6_readClause_1 : decode cX6_readClause 1 = .ok (.getfield 9, 3) := by decide +kernel
theorem dX6_readClause_4 : decode cX6_readClause 4 = .ok (.aload_n 0, 1) := by decide +kernel
theorem dX6_readClause_5 : decode cX6_readClause 5 = .ok (.getfield 35, 3) := by decide +kernel
theorem dX6_readClause_8 : decode cX6_readClause 8 = .ok (.iaload, 1) := by decide +kernel
theorem dX6_readClause_9 : decode cX6_readClause 9 = .ok (.istore_n 1, 1) := by decide +kernel
theorem dX6_readClause_10 : decode cX6_readClause 10 = .ok (.iload_n 1, 1) := by decide +kernel
theorem dX6_readClause_11 : decode cX6_readClause 11 = .ok (.bipush 119, 2) := by decide +kernel
theorem dX6_readClause_13 : decode cX6_readClause 13 = .ok (.if_icmp .ne 10, 3) := by decide +kernel
theorem dX6_readClause_16 : decode cX6_readClause 16 = .ok (.aload_n 0, 1) := by decide +kernel
theorem dX6_readClause_17 : decode cX6_readClause 17 = .ok (.invokevirtual 55, 3) := by decide +kernel
theorem dX6_readClause_20 : decode cX6_readClause 20 = .ok (.goto 73, 3) := by decide +kernel
theorem dX6_readClause_23 : decode cX6_readClause 23 = .ok (.aload_n 0, 1) := by decide +kernel
theorem dX6_readClause_24 : decode cX6_readClause 24 = .ok (.getfield 18, 3) := by decide +kernel
theorem dX6_readClause_27 : decode cX6_readClause 27 = .ok (.getfield 58, 3) := by decide +kernel
theorem dX6_readClause_30 : decode cX6_readClause 30 = .ok (.ifCond .ne 15, 3) := by decide +kernel
theorem dX6_readClause_33 : decode cX6_readClause 33 = .ok (.aload_n 0, 1) := by decide +kernel
theorem dX6_readClause_34 : decode cX6_readClause 34 = .ok (.iconst 1, 1) := by decide +kernel
theorem dX6_readClause_35 : decode cX6_readClause 35 = .ok (.aload_n 0, 1) := by decide +kernel
theorem dX6_readClause_36 : decode cX6_readClause 36 = .ok (.getfield 35, 3) := by decide +kernel
theorem dX6_readClause_39 : decode cX6_readClause 39 = .ok (.invokevirtual 61, 3) := by decide +kernel
theorem dX6_readClause_42 : decode cX6_readClause 42 = .ok (.goto 51, 3) := by decide +kernel
theorem dX6_readClause_45 : decode cX6_readClause 45 = .ok (.iload_n 1, 1) := by decide +kernel
theorem dX6_readClause_46 : decode cX6_readClause 46 = .ok (.bipush 112, 2) := by decide +kernel
theorem dX6_readClause_48 : decode cX6_readClause 48 = .ok (.if_icmp .ne 10, 3) := by decide +kernel
theorem dX6_readClause_51 : decode cX6_readClause 51 = .ok (.aload_n 0, 1) := by decide +kernel
theorem dX6_readClause_52 : decode cX6_readClause 52 = .ok (.invokevirtual 65, 3) := by decide +kernel
theorem dX6_readClause_55 : decode cX6_readClause 55 = .ok (.goto 38, 3) := by decide +kernel
theorem dX6_readClause_58 : decode cX6_readClause 58 = .ok (.iload_n 1, 1) := by decide +kernel
theorem dX6_readClause_59 : decode cX6_readClause 59 = .ok (.bipush 116, 2) := by decide +kernel
theorem dX6_readClause_61 : decode cX6_readClause 61 = .ok (.if_icmp .ne 10, 3) := by decide +kernel
theorem dX6_readClause_64 : decode cX6_readClause 64 = .ok (.aload_n 0, 1) := by decide +kernel
theorem dX6_readClause_65 : decode cX6_readClause 65 = .ok (.invokevirtual 68, 3) := by decide +kernel
theorem dX6_readClause_68 : decode cX6_readClause 68 = .ok (.goto 25, 3) := by decide +kernel
theorem dX6_readClause_71 : decode cX6_readClause 71 = .ok (.iload_n 1, 1) := by decide +kernel
theorem dX6_readClause_72 : decode cX6_readClause 72 = .ok (.bipush 102, 2) := by decide +kernel
theorem dX6_readClause_74 : decode cX6_readClause 74 = .ok (.if_icmp .ne 10, 3) := by decide +kernel
theorem dX6_readClause_77 : decode cX6_readClause 77 = .ok (.aload_n 0, 1) := by decide +kernel
theorem dX6_readClause_78 : decode cX6_readClause 78 = .ok (.invokevirtual 71, 3) := by decide +kernel
theorem dX6_readClause_81 : decode cX6_readClause 81 = .ok (.goto 12, 3) := by decide +kernel
theorem dX6_readClause_84 : decode cX6_readClause 84 = .ok (.aload_n 0, 1) := by decide +kernel
theorem dX6_readClause_85 : decode cX6_readClause 85 = .ok (.iconst 1, 1) := by decide +kernel
theorem dX6_readClause_86 : decode cX6_readClause 86 = .ok (.aload_n 0, 1) := by decide +kernel
theorem dX6_readClause_87 : decode cX6_readClause 87 = .ok (.getfield 35, 3) := by decide +kernel
theorem dX6_readClause_90 : decode cX6_readClause 90 = .ok (.invokevirtual 61, 3) := by decide +kernel
theorem dX6_readClause_93 : decode cX6_readClause 93 = .ok (.return_, 1) := by decide +kernel
theorem dX6_readWeights_0 : decode cX6_readWeights 0 = .ok (.aload_n 0, 1) := by decide +kernel
theorem dX6_readWeights_1 : decode cX6_readWeights 1 = .ok (.getfield 18, 3) := by decide +kernel
theorem dX6_readWeights_4 : decode cX6_readWeights 4 = .ok (.getfield 58, 3) := by decide +kernel
theorem dX6_readWeights_7 : decode cX6_readWeights 7 = .ok (.ifCond .le 13, 3) := by decide +kernel
theorem dX6_readWeights_10 : decode cX6_readWeights 10 = .ok (.aload_n 0, 1) := by decide +kernel
theorem dX6_readWeights_11 : decode cX6_readWeights 11 = .ok (.iconst 3, 1) := by decide +kernel
theorem dX6_readWeights_12 : decode cX6_readWeights 12 = .ok (.aload_n 0, 1) := by decide +kernel
theorem dX6_readWeights_13 : decode cX6_readWeights 13 = .ok (.getfield 35, 3) := by decide +kernel
theorem dX6_readWeights_16 : decode cX6_readWeights 16 = .ok (.invokevirtual 61, 3) := by decide +kernel
theorem dX6_readWeights_19 : decode cX6_readWeights 19 = .ok (.return_, 1) := by decide +kernel
theorem dX6_readWeights_20 : decode cX6_readWeights 20 = .ok (.iconst 1, 1) := by decide +kernel
theorem dX6_readWeights_21 : decode cX6_readWeights 21 = .ok (.istore_n 1, 1) := by decide +kernel
theorem dX6_readWeights_22 : decode cX6_readWeights 22 = .ok (.iconst 0, 1) := by decide +kernel
theorem dX6_readWeights_23 : decode cX6_readWeights 23 = .ok (.istore_n 2, 1) := by decide +kernel
theorem dX6_readWeights_24 : decode cX6_readWeights 24 = .ok (.iload_n 2, 1) := by decide +kernel
theorem dX6_readWeights_25 : decode cX6_readWeights 25 = .ok (.bipush 12, 2) := by decide +kernel
theorem dX6_readWeights_27 : decode cX6_readWeights 27 = .ok (.if_icmp .ge 46, 3) := by decide +kernel
theorem dX6_readWeights_30 : decode cX6_readWeights 30 = .ok (.iload_n 1, 1) := by decide +kernel
theorem dX6_readWeights_31 : decode cX6_readWeights 31 = .ok (.ifCond .eq 42, 3) := by decide +kernel
theorem dX6_readWeights_34 : decode cX6_readWeights 34 = .ok (.aload_n 0, 1) := by decide +kernel
theorem dX6_readWeights_35 : decode cX6_readWeights 35 = .ok (.dup, 1) := by decide +kernel
theorem dX6_readWeights_36 : decode cX6_readWeights 36 = .ok (.getfield 35, 3) := by decide +kernel
theorem dX6_readWeights_39 : decode cX6_readWeights 39 = .ok (.iconst 1, 1) := by decide +kernel
theorem dX6_readWeights_40 : decode cX6_readWeights 40 = .ok (.iadd, 1) := by decide +kernel
theorem dX6_readWeights_41 : decode cX6_readWeights 41 = .ok (.putfield 35, 3) := by decide +kernel
theorem dX6_readWeights_44 : decode cX6_readWeights 44 = .ok (.aload_n 0, 1) := by decide +kernel
theorem dX6_readWeights_45 : decode cX6_readWeights 45 = .ok (.iconst 0, 1) := by decide +kernel
theorem dX6_readWeights_46 : decode cX6_readWeights 46 = .ok (.bipush 30, 2) := by decide +kernel
theorem dX6_readWeights_48 : decode cX6_readWeights 48 = .ok (.invokevirtual 74, 3) := by decide +kernel
theorem dX6_readWeights_51 : decode cX6_readWeights 51 = .ok (.istore_n 3, 1) := by decide +kernel
theorem dX6_readWeights_52 : decode cX6_readWeights 52 = .ok (.aload_n 0, 1) := by decide +kernel
theorem dX6_readWeights_53 : decode cX6_readWeights 53 = .ok (.getfield 18, 3) := by decide +kernel
theorem dX6_readWeights_56 : decode cX6_readWeights 56 = .ok (.iload_n 3, 1) := by decide +kernel
theorem dX6_readWeights_57 : decode cX6_readWeights 57 = .ok (.invokevirtual 78, 3) := by decide +kernel
theorem dX6_readWeights_60 : decode cX6_readWeights 60 = .ok (.aload_n 0, 1) := by decide +kernel
theorem dX6_readWeights_61 : decode cX6_readWeights 61 = .ok (.bipush 44, 2) := by decide +kernel
theorem dX6_readWeights_63 : decode cX6_readWeights 63 = .ok (.invokevirtual 82, 3) := by decide +kernel
theorem dX6_readWeights_66 : decode cX6_readWeights 66 = .ok (.istore_n 1, 1) := by decide +kernel
theorem dX6_readWeights_67 : decode cX6_readWeights 67 = .ok (.iinc 2 1, 3) := by decide +kernel
theorem dX6_readWeights_70 : decode cX6_readWeights 70 = .ok (.goto (-46), 3) := by decide +kernel
theorem dX6_readWeights_73 : decode cX6_readWeights 73 = .ok (.aload_n 0, 1) := by decide +kernel
theorem dX6_readWeights_74 : decode cX6_readWeights 74 = .ok (.invokevirtual 86, 3) := by decide +kernel
theorem dX6_readWeights_77 : decode cX6_readWeights 77 = .ok (.return_, 1) := by decide +kernel
theorem dX6_readPerson_0 : decode cX6_readPerson 0 = .ok (.aload_n 0, 1) := by decide +kernel
theorem dX6_readPerson_1 : decode cX6_readPerson 1 = .ok (.getfield 18, 3) := by decide +kernel
theorem dX6_readPerson_4 : decode cX6_readPerson 4 = .ok (.getfield 89, 3) := by decide +kernel
theorem dX6_readPerson_7 : decode cX6_readPerson 7 = .ok (.bipush 6, 2) := by decide +kernel
theorem dX6_readPerson_9 : decode cX6_readPerson 9 = .ok (.if_icmp .lt 13, 3) := by decide +kernel
theorem dX6_readPerson_12 : decode cX6_readPerson 12 = .ok (.aload_n 0, 1) := by decide +kernel
theorem dX6_readPerson_13 : decode cX6_readPerson 13 = .ok (.iconst 3, 1) := by decide +kernel
theorem dX6_readPerson_14 : decode cX6_readPerson 14 = .ok (.aload_n 0, 1) := by decide +kernel
theorem dX6_readPerson_15 : decode cX6_readPerson 15 = .ok (.getfield 35, 3) := by decide +kernel
theorem dX6_readPerson_18 : decode cX6_readPerson 18 = .ok (.invokevirtual 61, 3) := by decide +kernel
theorem dX6_readPerson_21 : decode cX6_readPerson 21 = .ok (.return_, 1) := by decide +kernel
theorem dX6_readPerson_22 : decode cX6_readPerson 22 = .ok (.aload_n 0, 1) := by decide +kernel
theorem dX6_readPerson_23 : decode cX6_readPerson 23 = .ok (.dup, 1) := by decide +kernel
theorem dX6_readPerson_24 : decode cX6_readPerson 24 = .ok (.getfield 35, 3) := by decide +kernel
theorem dX6_readPerson_27 : decode cX6_readPerson 27 = .ok (.iconst 1, 1) := by decide +kernel
theorem dX6_readPerson_28 : decode cX6_readPerson 28 = .ok (.iadd, 1) := by decide +kernel
theorem dX6_readPerson_29 : decode cX6_readPerson 29 = .ok (.putfield 35, 3) := by decide +kernel
theorem dX6_readPerson_32 : decode cX6_readPerson 32 = .ok (.aload_n 0, 1) := by decide +kernel
theorem dX6_readPerson_33 : decode cX6_readPerson 33 = .ok (.iconst 0, 1) := by decide +kernel
theorem dX6_readPerson_34 : decode cX6_readPerson 34 = .ok (.iconst 4, 1) := by decide +kernel
theorem dX6_readPerson_35 : decode cX6_readPerson 35 = .ok (.invokevirtual 74, 3) := by decide +kernel
theorem dX6_readPerson_38 : decode cX6_readPerson 38 = .ok (.istore_n 1, 1) := by decide +kernel
theorem dX6_readPerson_39 : decode cX6_readPerson 39 = .ok (.aload_n 0, 1) := by decide +kernel
theorem dX6_readPerson_40 : decode cX6_readPerson 40 = .ok (.iconst 1, 1) := by decide +kernel
theorem dX6_readPerson_41 : decode cX6_readPerson 41 = .ok (.bipush 20, 2) := by decide +kernel
theorem dX6_readPerson_43 : decode cX6_readPerson 43 = .ok (.invokevirtual 74, 3) := by decide +kernel
theorem dX6_readPerson_46 : decode cX6_readPerson 46 = .ok (.istore_n 2, 1) := by decide +kernel
theorem dX6_readPerson_47 : decode cX6_readPerson 47 = .ok (.aload_n 0, 1) := by decide +kernel
theorem dX6_readPerson_48 : decode cX6_readPerson 48 = .ok (.iconst 1, 1) := by decide +kernel
theorem dX6_readPerson_49 : decode cX6_readPerson 49 = .ok (.bipush 9, 2) := by decide +kernel
theorem dX6_readPerson_51 : decode cX6_readPerson 51 = .ok (.invokevirtual 74, 3) := by decide +kernel
theorem dX6_readPerson_54 : decode cX6_readPerson 54 = .ok (.istore_n 3, 1) := by decide +kernel
theorem dX6_readPerson_55 : decode cX6_readPerson 55 = .ok (.aload_n 0, 1) := by decide +kernel
theorem dX6_readPerson_56 : decode cX6_readPerson 56 = .ok (.iconst 0, 1) := by decide +kernel
theorem dX6_readPerson_57 : decode cX6_readPerson 57 = .ok (.bipush 9, 2) := by decide +kernel
theorem dX6_readPerson_59 : decode cX6_readPerson 59 = .ok (.invokevirtual 74, 3) := by decide +kernel
theorem dX6_readPerson_62 : decode cX6_readPerson 62 = .ok (.istore 4, 2) := by decide +kernel
theorem dX6_readPerson_64 : decode cX6_readPerson 64 = .ok (.aload_n 0, 1) := by decide +kernel
theorem dX6_readPerson_65 : decode cX6_readPerson 65 = .ok (.invokevirtual 92, 3) := by decide +kernel
theorem dX6_readPerson_68 : decode cX6_readPerson 68 = .ok (.istore 5, 2) := by decide +kernel
theorem dX6_readPerson_70 : decode cX6_readPerson 70 = .ok (.aload_n 0, 1) := by decide +kernel
theorem dX6_readPerson_71 : decode cX6_readPerson 71 = .ok (.invokevirtual 86, 3) := by decide +kernel
theorem dX6_readPerson_74 : decode cX6_readPerson 74 = .ok (.aload_n 0, 1) := by decide +kernel
theorem dX6_readPerson_75 : decode cX6_readPerson 75 = .ok (.getfield 32, 3) := by decide +kernel
theorem dX6_readPerson_78 : decode cX6_readPerson 78 = .ok (.ifCond .ne 17, 3) := by decide +kernel
theorem dX6_readPerson_81 : decode cX6_readPerson 81 = .ok (.aload_n 0, 1) := by decide +kernel
theorem dX6_readPerson_82 : decode cX6_readPerson 82 = .ok (.getfield 18, 3) := by decide +kernel
theorem dX6_readPerson_85 : decode cX6_readPerson 85 = .ok (.iload_n 1, 1) := by decide +kernel
theorem dX6_readPerson_86 : decode cX6_readPerson 86 = .ok (.iload_n 2, 1) := by decide +kernel
theorem dX6_readPerson_87 : decode cX6_readPerson 87 = .ok (.iload_n 3, 1) := by decide +kernel
theorem dX6_readPerson_88 : decode cX6_readPerson 88 = .ok (.iload 4, 2) := by decide +kernel
theorem dX6_readPerson_90 : decode cX6_readPerson 90 = .ok (.iload 5, 2) := by decide +kernel
theorem dX6_readPerson_92 : decode cX6_readPerson 92 = .ok (.invokevirtual 96, 3) := by decide +kernel
theorem dX6_readPerson_95 : decode cX6_readPerson 95 = .ok (.return_, 1) := by decide +kernel
theorem dX6_readFather_0 : decode cX6_readFather 0 = .ok (.aload_n 0, 1) := by decide +kernel
theorem dX6_readFather_1 : decode cX6_readFather 1 = .ok (.iconst 0, 1) := by decide +kernel
theorem dX6_readFather_2 : decode cX6_readFather 2 = .ok (.bipush 9, 2) := by decide +kernel
theorem dX6_readFather_4 : decode cX6_readFather 4 = .ok (.invokevirtual 74, 3) := by decide +kernel
theorem dX6_readFather_7 : decode cX6_readFather 7 = .ok (.istore_n 1, 1) := by decide +kernel
theorem dX6_readFather_8 : decode cX6_readFather 8 = .ok (.iload_n 1, 1) := by decide +kernel
theorem dX6_readFather_9 : decode cX6_readFather 9 = .ok (.bipush 9, 2) := by decide +kernel
theorem dX6_readFather_11 : decode cX6_readFather 11 = .ok (.if_icmp .ne 5, 3) := by decide +kernel
theorem dX6_readFather_14 : decode cX6_readFather 14 = .ok (.iconst (-1), 1) := by decide +kernel
theorem dX6_readFather_15 : decode cX6_readFather 15 = .ok (.ireturn, 1) := by decide +kernel
theorem dX6_readFather_16 : decode cX6_readFather 16 = .ok (.aload_n 0, 1) := by decide +kernel
theorem dX6_readFather_17 : decode cX6_readFather 17 = .ok (.getfield 18, 3) := by decide +kernel
theorem dX6_readFather_20 : decode cX6_readFather 20 = .ok (.iload_n 1, 1) := by decide +kernel
theorem dX6_readFather_21 : decode cX6_readFather 21 = .ok (.invokevirtual 100, 3) := by decide +kernel
theorem dX6_readFather_24 : decode cX6_readFather 24 = .ok (.ifCond .ne 12, 3) := by decide +kernel
theorem dX6_readFather_27 : decode cX6_readFather 27 = .ok (.aload_n 0, 1) := by decide +kernel
theorem dX6_readFather_28 : decode cX6_readFather 28 = .ok (.iconst 2, 1) := by decide +kernel
theorem dX6_readFather_29 : decode cX6_readFather 29 = .ok (.aload_n 0, 1) := by decide +kernel
theorem dX6_readFather_30 : decode cX6_readFather 30 = .ok (.getfield 103, 3) := by decide +kernel
theorem dX6_readFather_33 : decode cX6_readFather 33 = .ok (.invokevirtual 61, 3) := by decide +kernel
theorem dX6_readFather_36 : decode cX6_readFather 36 = .ok (.iload_n 1, 1) := by decide +kernel
theorem dX6_readFather_37 : decode cX6_readFather 37 = .ok (.ireturn, 1) := by decide +kernel
theorem dX6_readGoodness_0 : decode cX6_readGoodness 0 = .ok (.aload_n 0, 1) := by decide +kernel
theorem dX6_readGoodness_1 : decode cX6_readGoodness 1 = .ok (.getfield 38, 3) := by decide +kernel
theorem dX6_readGoodness_4 : decode cX6_readGoodness 4 = .ok (.ifCond .eq 13, 3) := by decide +kernel
theorem dX6_readGoodness_7 : decode cX6_readGoodness 7 = .ok (.aload_n 0, 1) := by decide +kernel
theorem dX6_readGoodness_8 : decode cX6_readGoodness 8 = .ok (.iconst 3, 1) := by decide +kernel
theorem dX6_readGoodness_9 : decode cX6_readGoodness 9 = .ok (.aload_n 0, 1) := by decide +kernel
theorem dX6_readGoodness_10 : decode cX6_readGoodness 10 = .ok (.getfield 35, 3) := by decide +kernel
theorem dX6_readGoodness_13 : decode cX6_readGoodness 13 = .ok (.invokevirtual 61, 3) := by decide +kernel
theorem dX6_readGoodness_16 : decode cX6_readGoodness 16 = .ok (.return_, 1) := by decide +kernel
theorem dX6_readGoodness_17 : decode cX6_readGoodness 17 = .ok (.aload_n 0, 1) := by decide +kernel
theorem dX6_readGoodness_18 : decode cX6_readGoodness 18 = .ok (.dup, 1) := by decide +kernel
theorem dX6_readGoodness_19 : decode cX6_readGoodness 19 = .ok (.getfield 35, 3) := by decide +kernel
theorem dX6_readGoodness_22 : decode cX6_readGoodness 22 = .ok (.iconst 1, 1) := by decide +kernel
theorem dX6_readGoodness_23 : decode cX6_readGoodness 23 = .ok (.iadd, 1) := by decide +kernel
theorem dX6_readGoodness_24 : decode cX6_readGoodness 24 = .ok (.putfield 35, 3) := by decide +kernel
theorem dX6_readGoodness_27 : decode cX6_readGoodness 27 = .ok (.aload_n 0, 1) := by decide +kernel
theorem dX6_readGoodness_28 : decode cX6_readGoodness 28 = .ok (.iconst 1, 1) := by decide +kernel
theorem dX6_readGoodness_29 : decode cX6_readGoodness 29 = .ok (.putfield 38, 3) := by decide +kernel
theorem dX6_readGoodness_32 : decode cX6_readGoodness 32 = .ok (.aload_n 0, 1) := by decide +kernel
theorem dX6_readGoodness_33 : decode cX6_readGoodness 33 = .ok (.iconst 0, 1) := by decide +kernel
theorem dX6_readGoodness_34 : decode cX6_readGoodness 34 = .ok (.bipush 9, 2) := by decide +kernel
theorem dX6_readGoodness_36 : decode cX6_readGoodness 36 = .ok (.invokevirtual 74, 3) := by decide +kernel
theorem dX6_readGoodness_39 : decode cX6_readGoodness 39 = .ok (.istore_n 1, 1) := by decide +kernel
theorem dX6_readGoodness_40 : decode cX6_readGoodness 40 = .ok (.aload_n 0, 1) := by decide +kernel
theorem dX6_readGoodness_41 : decode cX6_readGoodness 41 = .ok (.iconst 0, 1) := by decide +kernel
theorem dX6_readGoodness_42 : decode cX6_readGoodness 42 = .ok (.bipush 9, 2) := by decide +kernel
theorem dX6_readGoodness_44 : decode cX6_readGoodness 44 = .ok (.invokevirtual 74, 3) := by decide +kernel
theorem dX6_readGoodness_47 : decode cX6_readGoodness 47 = .ok (.istore_n 2, 1) := by decide +kernel
theorem dX6_readGoodness_48 : decode cX6_readGoodness 48 = .ok (.aload_n 0, 1) := by decide +kernel
theorem dX6_readGoodness_49 : decode cX6_readGoodness 49 = .ok (.iconst 0, 1) := by decide +kernel
theorem dX6_readGoodness_50 : decode cX6_readGoodness 50 = .ok (.bipush 9, 2) := by decide +kernel
theorem dX6_readGoodness_52 : decode cX6_readGoodness 52 = .ok (.invokevirtual 74, 3) := by decide +kernel
theorem dX6_readGoodness_55 : decode cX6_readGoodness 55 = .ok (.istore_n 3, 1) := by decide +kernel
theorem dX6_readGoodness_56 : decode cX6_readGoodness 56 = .ok (.aload_n 0, 1) := by decide +kernel
theorem dX6_readGoodness_57 : decode cX6_readGoodness 57 = .ok (.invokevirtual 86, 3) := by decide +kernel
theorem dX6_readGoodness_60 : decode cX6_readGoodness 60 = .ok (.aload_n 0, 1) := by decide +kernel
theorem dX6_readGoodness_61 : decode cX6_readGoodness 61 = .ok (.getfield 18, 3) := by decide +kernel
theorem dX6_readGoodness_64 : decode cX6_readGoodness 64 = .ok (.iload_n 1, 1) := by decide +kernel
theorem dX6_readGoodness_65 : decode cX6_readGoodness 65 = .ok (.iload_n 2, 1) := by decide +kernel
theorem dX6_readGoodness_66 : decode cX6_readGoodness 66 = .ok (.iload_n 3, 1) := by decide +kernel
theorem dX6_readGoodness_67 : decode cX6_readGoodness 67 = .ok (.invokevirtual 106, 3) := by decide +kernel
theorem dX6_readGoodness_70 : decode cX6_readGoodness 70 = .ok (.return_, 1) := by decide +kernel
theorem dX6_readFruit_0 : decode cX6_readFruit 0 = .ok (.aload_n 0, 1) := by decide +kernel
theorem dX6_readFruit_1 : decode cX6_readFruit 1 = .ok (.getfield 42, 3) := by decide +kernel
theorem dX6_readFruit_4 : decode cX6_readFruit 4 = .ok (.ifCond .eq 13, 3) := by decide +kernel
theorem dX6_readFruit_7 : decode cX6_readFruit 7 = .ok (.aload_n 0, 1) := by decide +kernel
theorem dX6_readFruit_8 : decode cX6_readFruit 8 = .ok (.iconst 3, 1) := by decide +kernel
theorem dX6_readFruit_9 : decode cX6_readFruit 9 = .ok (.aload_n 0, 1) := by decide +kernel
theorem dX6_readFruit_10 : decode cX6_readFruit 10 = .ok (.getfield 35, 3) := by decide +kernel
theorem dX6_readFruit_13 : decode cX6_readFruit 13 = .ok (.invokevirtual 61, 3) := by decide +kernel
theorem dX6_readFruit_16 : decode cX6_readFruit 16 = .ok (.return_, 1) := by decide +kernel
theorem dX6_readFruit_17 : decode cX6_readFruit 17 = .ok (.aload_n 0, 1) := by decide +kernel
theorem dX6_readFruit_18 : decode cX6_readFruit 18 = .ok (.dup, 1) := by decide +kernel
theorem dX6_readFruit_19 : decode cX6_readFruit 19 = .ok (.getfield 35, 3) := by decide +kernel
theorem dX6_readFruit_22 : decode cX6_readFruit 22 = .ok (.iconst 1, 1) := by decide +kernel
theorem dX6_readFruit_23 : decode cX6_readFruit 23 = .ok (.iadd, 1) := by decide +kernel
theorem dX6_readFruit_24 : decode cX6_readFruit 24 = .ok (.putfield 35, 3) := by decide +kernel
theorem dX6_readFruit_27 : decode cX6_readFruit 27 = .ok (.aload_n 0, 1) := by decide +kernel
theorem dX6_readFruit_28 : decode cX6_readFruit 28 = .ok (.iconst 1, 1) := by decide +kernel
theorem dX6_readFruit_29 : decode cX6_readFruit 29 = .ok (.putfield 42, 3) := by decide +kernel
theorem dX6_readFruit_32 : decode cX6_readFruit 32 = .ok (.aload_n 0, 1) := by decide +kernel
theorem dX6_readFruit_33 : decode cX6_readFruit 33 = .ok (.getfield 18, 3) := by decide +kernel
theorem dX6_readFruit_36 : decode cX6_readFruit 36 = .ok (.aload_n 0, 1) := by decide +kernel
theorem dX6_readFruit_37 : decode cX6_readFruit 37 = .ok (.iconst 0, 1) := by decide +kernel
theorem dX6_readFruit_38 : decode cX6_readFruit 38 = .ok (.bipush 99, 2) := by decide +kernel
theorem dX6_readFruit_40 : decode cX6_readFruit 40 = .ok (.invokevirtual 74, 3) := by decide +kernel
theorem dX6_readFruit_43 : decode cX6_readFruit 43 = .ok (.putfield 110, 3) := by decide +kernel
theorem dX6_readFruit_46 : decode cX6_readFruit 46 = .ok (.aload_n 0, 1) := by decide +kernel
theorem dX6_readFruit_47 : decode cX6_readFruit 47 = .ok (.invokevirtual 86, 3) := by decide +kernel
theorem dX6_readFruit_50 : decode cX6_readFruit 50 = .ok (.return_, 1) := by decide +kernel
theorem dX6_readNumber_0 : decode cX6_readNumber 0 = .ok (.aload_n 0, 1) := by decide +kernel
theorem dX6_readNumber_1 : decode cX6_readNumber 1 = .ok (.invokevirtual 52, 3) := by decide +kernel
theorem dX6_readNumber_4 : decode cX6_readNumber 4 = .ok (.aload_n 0, 1) := by decide +kernel
theorem dX6_readNumber_5 : decode cX6_readNumber 5 = .ok (.getfield 32, 3) := by decide +kernel
theorem dX6_readNumber_8 : decode cX6_readNumber 8 = .ok (.ifCond .eq 5, 3) := by decide +kernel
theorem dX6_readNumber_11 : decode cX6_readNumber 11 = .ok (.iload_n 1, 1) := by decide +kernel
theorem dX6_readNumber_12 : decode cX6_readNumber 12 = .ok (.ireturn, 1) := by decide +kernel
theorem dX6_readNumber_13 : decode cX6_readNumber 13 = .ok (.aload_n 0, 1) := by decide +kernel
theorem dX6_readNumber_14 : decode cX6_readNumber 14 = .ok (.aload_n 0, 1) := by decide +kernel
theorem dX6_readNumber_15 : decode cX6_readNumber 15 = .ok (.getfield 35, 3) := by decide +kernel
theorem dX6_readNumber_18 : decode cX6_readNumber 18 = .ok (.putfield 103, 3) := by decide +kernel
theorem dX6_readNumber_21 : decode cX6_readNumber 21 = .ok (.iconst 0, 1) := by decide +kernel
theorem dX6_readNumber_22 : decode cX6_readNumber 22 = .ok (.istore_n 3, 1) := by decide +kernel
theorem dX6_readNumber_23 : decode cX6_readNumber 23 = .ok (.aload_n 0, 1) := by decide +kernel
theorem dX6_readNumber_24 : decode cX6_readNumber 24 = .ok (.getfield 35, 3) := by decide +kernel
theorem dX6_readNumber_27 : decode cX6_readNumber 27 = .ok (.aload_n 0, 1) := by decide +kernel
theorem dX6_readNumber_28 : decode cX6_readNumber 28 = .ok (.getfield 26, 3) := by decide +kernel
theorem dX6_readNumber_31 : decode cX6_readNumber 31 = .ok (.if_icmp .ge 62, 3) := by decide +kernel
theorem dX6_readNumber_34 : decode cX6_readNumber 34 = .ok (.aload_n 0, 1) := by decide +kernel
theorem dX6_readNumber_35 : decode cX6_readNumber 35 = .ok (.getfield 9, 3) := by decide +kernel
theorem dX6_readNumber_38 : decode cX6_readNumber 38 = .ok (.aload_n 0, 1) := by decide +kernel
theorem dX6_readNumber_39 : decode cX6_readNumber 39 = .ok (.getfield 35, 3) := by decide +kernel
theorem dX6_readNumber_42 : decode cX6_readNumber 42 = .ok (.iaload, 1) := by decide +kernel
theorem dX6_readNumber_43 : decode cX6_readNumber 43 = .ok (.invokestatic 113, 3) := by decide +kernel
theorem dX6_readNumber_46 : decode cX6_readNumber 46 = .ok (.ifCond .eq 47, 3) := by decide +kernel
theorem dX6_readNumber_49 : decode cX6_readNumber 49 = .ok (.aload_n 0, 1) := by decide +kernel
theorem dX6_readNumber_50 : decode cX6_readNumber 50 = .ok (.getfield 35, 3) := by decide +kernel
theorem dX6_readNumber_53 : decode cX6_readNumber 53 = .ok (.aload_n 0, 1) := by decide +kernel
theorem dX6_readNumber_54 : decode cX6_readNumber 54 = .ok (.getfield 103, 3) := by decide +kernel
theorem dX6_readNumber_57 : decode cX6_readNumber 57 = .ok (.isub, 1) := by decide +kernel
theorem dX6_readNumber_58 : decode cX6_readNumber 58 = .ok (.iconst 3, 1) := by decide +kernel
theorem dX6_readNumber_59 : decode cX6_readNumber 59 = .ok (.if_icmp .ge 21, 3) := by decide +kernel
theorem dX6_readNumber_62 : decode cX6_readNumber 62 = .ok (.iload_n 3, 1) := by decide +kernel
theorem dX6_readNumber_63 : decode cX6_readNumber 63 = .ok (.bipush 10, 2) := by decide +kernel
theorem dX6_readNumber_65 : decode cX6_readNumber 65 = .ok (.imul, 1) := by decide +kernel
theorem dX6_readNumber_66 : decode cX6_readNumber 66 = .ok (.aload_n 0, 1) := by decide +kernel
theorem dX6_readNumber_67 : decode cX6_readNumber 67 = .ok (.getfield 9, 3) := by decide +kernel
theorem dX6_readNumber_70 : decode cX6_readNumber 70 = .ok (.aload_n 0, 1) := by decide +kernel
theorem dX6_readNumber_71 : decode cX6_readNumber 71 = .ok (.getfield 35, 3) := by decide +kernel
theorem dX6_readNumber_74 : decode cX6_readNumber 74 = .ok (.iaload, 1) := by decide +kernel
theorem dX6_readNumber_75 : decode cX6_readNumber 75 = .ok (.iadd, 1) := by decide +kernel
theorem dX6_readNumber_76 : decode cX6_readNumber 76 = .ok (.bipush 48, 2) := by decide +kernel
theorem dX6_readNumber_78 : decode cX6_readNumber 78 = .ok (.isub, 1) := by decide +kernel
theorem dX6_readNumber_79 : decode cX6_readNumber 79 = .ok (.istore_n 3, 1) := by decide +kernel
theorem dX6_readNumber_80 : decode cX6_readNumber 80 = .ok (.aload_n 0, 1) := by decide +kernel
theorem dX6_readNumber_81 : decode cX6_readNumber 81 = .ok (.dup, 1) := by decide +kernel
theorem dX6_readNumber_82 : decode cX6_readNumber 82 = .ok (.getfield 35, 3) := by decide +kernel
theorem dX6_readNumber_85 : decode cX6_readNumber 85 = .ok (.iconst 1, 1) := by decide +kernel
theorem dX6_readNumber_86 : decode cX6_readNumber 86 = .ok (.iadd, 1) := by decide +kernel
theorem dX6_readNumber_87 : decode cX6_readNumber 87 = .ok (.putfield 35, 3) := by decide +kernel
theorem dX6_readNumber_90 : decode cX6_readNumber 90 = .ok (.goto (-67), 3) := by decide +kernel
theorem dX6_readNumber_93 : decode cX6_readNumber 93 = .ok (.aload_n 0, 1) := by decide +kernel
theorem dX6_readNumber_94 : decode cX6_readNumber 94 = .ok (.getfield 35, 3) := by decide +kernel
theorem dX6_readNumber_97 : decode cX6_readNumber 97 = .ok (.aload_n 0, 1) := by decide +kernel
theorem dX6_readNumber_98 : decode cX6_readNumber 98 = .ok (.getfield 103, 3) := by decide +kernel
theorem dX6_readNumber_101 : decode cX6_readNumber 101 = .ok (.isub, 1) := by decide +kernel
theorem dX6_readNumber_102 : decode cX6_readNumber 102 = .ok (.istore 4, 2) := by decide +kernel
theorem dX6_readNumber_104 : decode cX6_readNumber 104 = .ok (.iload 4, 2) := by decide +kernel
theorem dX6_readNumber_106 : decode cX6_readNumber 106 = .ok (.ifCond .ne 15, 3) := by decide +kernel
theorem dX6_readNumber_109 : decode cX6_readNumber 109 = .ok (.aload_n 0, 1) := by decide +kernel
theorem dX6_readNumber_110 : decode cX6_readNumber 110 = .ok (.iconst 1, 1) := by decide +kernel
theorem dX6_readNumber_111 : decode cX6_readNumber 111 = .ok (.aload_n 0, 1) := by decide +kernel
theorem dX6_readNumber_112 : decode cX6_readNumber 112 = .ok (.getfield 35, 3) := by decide +kernel
theorem dX6_readNumber_115 : decode cX6_readNumber 115 = .ok (.invokevirtual 61, 3) := by decide +kernel
theorem dX6_readNumber_118 : decode cX6_readNumber 118 = .ok (.goto 28, 3) := by decide +kernel
theorem dX6_readNumber_121 : decode cX6_readNumber 121 = .ok (.iload 4, 2) := by decide +kernel
theorem dX6_readNumber_123 : decode cX6_readNumber 123 = .ok (.iconst 3, 1) := by decide +kernel
theorem dX6_readNumber_124 : decode cX6_readNumber 124 = .ok (.if_icmp .gt 13, 3) := by decide +kernel
theorem dX6_readNumber_127 : decode cX6_readNumber 127 = .ok (.iload_n 3, 1) := by decide +kernel
theorem dX6_readNumber_128 : decode cX6_readNumber 128 = .ok (.iload_n 1, 1) := by decide +kernel
theorem dX6_readNumber_129 : decode cX6_readNumber 129 = .ok (.if_icmp .lt 8, 3) := by decide +kernel
theorem dX6_readNumber_132 : decode cX6_readNumber 132 = .ok (.iload_n 3, 1) := by decide +kernel
theorem dX6_readNumber_133 : decode cX6_readNumber 133 = .ok (.iload_n 2, 1) := by decide +kernel
theorem dX6_readNumber_134 : decode cX6_readNumber 134 = .ok (.if_icmp .le 12, 3) := by decide +kernel
theorem dX6_readNumber_137 : decode cX6_readNumber 137 = .ok (.aload_n 0, 1) := by decide +kernel
theorem dX6_readNumber_138 : decode cX6_readNumber 138 = .ok (.iconst 2, 1) := by decide +kernel
theorem dX6_readNumber_139 : decode cX6_readNumber 139 = .ok (.aload_n 0, 1) := by decide +kernel
theorem dX6_readNumber_140 : decode cX6_readNumber 140 = .ok (.getfield 103, 3) := by decide +kernel
theorem dX6_readNumber_143 : decode cX6_readNumber 143 = .ok (.invokevirtual 61, 3) := by decide +kernel
theorem dX6_readNumber_146 : decode cX6_readNumber 146 = .ok (.iload_n 3, 1) := by decide +kernel
theorem dX6_readNumber_147 : decode cX6_readNumber 147 = .ok (.ireturn, 1) := by decide +kernel
theorem dX6_readEnd_0 : decode cX6_readEnd 0 = .ok (.aload_n 0, 1) := by decide +kernel
theorem dX6_readEnd_1 : decode cX6_readEnd 1 = .ok (.bipush 59, 2) := by decide +kernel
theorem dX6_readEnd_3 : decode cX6_readEnd 3 = .ok (.invokevirtual 82, 3) := by decide +kernel
theorem dX6_readEnd_6 : decode cX6_readEnd 6 = .ok (.ifCond .eq 16, 3) := by decide +kernel
theorem dX6_readEnd_9 : decode cX6_readEnd 9 = .ok (.aload_n 0, 1) := by decide +kernel
theorem dX6_readEnd_10 : decode cX6_readEnd 10 = .ok (.dup, 1) := by decide +kernel
theorem dX6_readEnd_11 : decode cX6_readEnd 11 = .ok (.getfield 35, 3) := by decide +kernel
theorem dX6_readEnd_14 : decode cX6_readEnd 14 = .ok (.iconst 1, 1) := by decide +kernel
theorem dX6_readEnd_15 : decode cX6_readEnd 15 = .ok (.iadd, 1) := by decide +kernel
theorem dX6_readEnd_16 : decode cX6_readEnd 16 = .ok (.putfield 35, 3) := by decide +kernel
theorem dX6_readEnd_19 : decode cX6_readEnd 19 = .ok (.goto 12, 3) := by decide +kernel
theorem dX6_readEnd_22 : decode cX6_readEnd 22 = .ok (.aload_n 0, 1) := by decide +kernel
theorem dX6_readEnd_23 : decode cX6_readEnd 23 = .ok (.iconst 1, 1) := by decide +kernel
theorem dX6_readEnd_24 : decode cX6_readEnd 24 = .ok (.aload_n 0, 1) := by decide +kernel
theorem dX6_readEnd_25 : decode cX6_readEnd 25 = .ok (.getfield 35, 3) := by decide +kernel
theorem dX6_readEnd_28 : decode cX6_readEnd 28 = .ok (.invokevirtual 61, 3) := by decide +kernel
theorem dX6_readEnd_31 : decode cX6_readEnd 31 = .ok (.return_, 1) := by decide +kernel
theorem dX6_isNext_0 : decode cX6_isNext 0 = .ok (.aload_n 0, 1) := by decide +kernel
theorem dX6_isNext_1 : decode cX6_isNext 1 = .ok (.invokevirtual 52, 3) := by decide +kernel
theorem dX6_isNext_4 : decode cX6_isNext 4 = .ok (.aload_n 0, 1) := by decide +kernel
theorem dX6_isNext_5 : decode cX6_isNext 5 = .ok (.getfield 32, 3) := by decide +kernel
theorem dX6_isNext_8 : decode cX6_isNext 8 = .ok (.ifCond .ne 31, 3) := by decide +kernel
theorem dX6_isNext_11 : decode cX6_isNext 11 = .ok (.aload_n 0, 1) := by decide +kernel
theorem dX6_isNext_12 : decode cX6_isNext 12 = .ok (.getfield 35, 3) := by decide +kernel
theorem dX6_isNext_15 : decode cX6_isNext 15 = .ok (.aload_n 0, 1) := by decide +kernel
theorem dX6_isNext_16 : decode cX6_isNext 16 = .ok (.getfield 26, 3) := by decide +kernel
theorem dX6_isNext_19 : decode cX6_isNext 19 = .ok (.if_icmp .ge 20, 3) := by decide +kernel
theorem dX6_isNext_22 : decode cX6_isNext 22 = .ok (.aload_n 0, 1) := by decide +kernel
theorem dX6_isNext_23 : decode cX6_isNext 23 = .ok (.getfield 9, 3) := by decide +kernel
theorem dX6_isNext_26 : decode cX6_isNext 26 = .ok (.aload_n 0, 1) := by decide +kernel
theorem dX6_isNext_27 : decode cX6_isNext 27 = .ok (.getfield 35, 3) := by decide +kernel
theorem dX6_isNext_30 : decode cX6_isNext 30 = .ok (.iaload, 1) := by decide +kernel
theorem dX6_isNext_31 : decode cX6_isNext 31 = .ok (.iload_n 1, 1) := by decide +kernel
theorem dX6_isNext_32 : decode cX6_isNext 32 = .ok (.if_icmp .ne 7, 3) := by decide +kernel
theorem dX6_isNext_35 : decode cX6_isNext 35 = .ok (.iconst 1, 1) := by decide +kernel
theorem dX6_isNext_36 : decode cX6_isNext 36 = .ok (.goto 4, 3) := by decide +kernel
theorem dX6_isNext_39 : decode cX6_isNext 39 = .ok (.iconst 0, 1) := by decide +kernel
theorem dX6_isNext_40 : decode cX6_isNext 40 = .ok (.ireturn, 1) := by decide +kernel
theorem dX6_skipBlanks_0 : decode cX6_skipBlanks 0 = .ok (.aload_n 0, 1) := by decide +kernel
theorem dX6_skipBlanks_1 : decode cX6_skipBlanks 1 = .ok (.getfield 35, 3) := by decide +kernel
theorem dX6_skipBlanks_4 : decode cX6_skipBlanks 4 = .ok (.aload_n 0, 1) := by decide +kernel
theorem dX6_skipBlanks_5 : decode cX6_skipBlanks 5 = .ok (.getfield 26, 3) := by decide +kernel
theorem dX6_skipBlanks_8 : decode cX6_skipBlanks 8 = .ok (.if_icmp .ge 30, 3) := by decide +kernel
theorem dX6_skipBlanks_11 : decode cX6_skipBlanks 11 = .ok (.aload_n 0, 1) := by decide +kernel
theorem dX6_skipBlanks_12 : decode cX6_skipBlanks 12 = .ok (.getfield 9, 3) := by decide +kernel
theorem dX6_skipBlanks_15 : decode cX6_skipBlanks 15 = .ok (.aload_n 0, 1) := by decide +kernel
theorem dX6_skipBlanks_16 : decode cX6_skipBlanks 16 = .ok (.getfield 35, 3) := by decide +kernel
theorem dX6_skipBlanks_19 : decode cX6_skipBlanks 19 = .ok (.iaload, 1) := by decide +kernel
theorem dX6_skipBlanks_20 : decode cX6_skipBlanks 20 = .ok (.bipush 32, 2) := by decide +kernel
theorem dX6_skipBlanks_22 : decode cX6_skipBlanks 22 = .ok (.if_icmp .ne 16, 3) := by decide +kernel
theorem dX6_skipBlanks_25 : decode cX6_skipBlanks 25 = .ok (.aload_n 0, 1) := by decide +kernel
theorem dX6_skipBlanks_26 : decode cX6_skipBlanks 26 = .ok (.dup, 1) := by decide +kernel
theorem dX6_skipBlanks_27 : decode cX6_skipBlanks 27 = .ok (.getfield 35, 3) := by decide +kernel
theorem dX6_skipBlanks_30 : decode cX6_skipBlanks 30 = .ok (.iconst 1, 1) := by decide +kernel
theorem dX6_skipBlanks_31 : decode cX6_skipBlanks 31 = .ok (.iadd, 1) := by decide +kernel
theorem dX6_skipBlanks_32 : decode cX6_skipBlanks 32 = .ok (.putfield 35, 3) := by decide +kernel
theorem dX6_skipBlanks_35 : decode cX6_skipBlanks 35 = .ok (.goto (-35), 3) := by decide +kernel
theorem dX6_skipBlanks_38 : decode cX6_skipBlanks 38 = .ok (.return_, 1) := by decide +kernel
theorem dX6_isFigure_0 : decode cX6_isFigure 0 = .ok (.iload_n 0, 1) := by decide +kernel
theorem dX6_isFigure_1 : decode cX6_isFigure 1 = .ok (.bipush 48, 2) := by decide +kernel
theorem dX6_isFigure_3 : decode cX6_isFigure 3 = .ok (.if_icmp .lt 13, 3) := by decide +kernel
theorem dX6_isFigure_6 : decode cX6_isFigure 6 = .ok (.iload_n 0, 1) := by decide +kernel
theorem dX6_isFigure_7 : decode cX6_isFigure 7 = .ok (.bipush 57, 2) := by decide +kernel
theorem dX6_isFigure_9 : decode cX6_isFigure 9 = .ok (.if_icmp .gt 7, 3) := by decide +kernel
theorem dX6_isFigure_12 : decode cX6_isFigure 12 = .ok (.iconst 1, 1) := by decide +kernel
theorem dX6_isFigure_13 : decode cX6_isFigure 13 = .ok (.goto 4, 3) := by decide +kernel
theorem dX6_isFigure_16 : decode cX6_isFigure 16 = .ok (.iconst 0, 1) := by decide +kernel
theorem dX6_isFigure_17 : decode cX6_isFigure 17 = .ok (.ireturn, 1) := by decide +kernel
theorem dX6_fail_0 : decode cX6_fail 0 = .ok (.aload_n 0, 1) := by decide +kernel
theorem dX6_fail_1 : decode cX6_fail 1 = .ok (.getfield 32, 3) := by decide +kernel
theorem dX6_fail_4 : decode cX6_fail 4 = .ok (.ifCond .eq 4, 3) := by decide +kernel
theorem dX6_fail_7 : decode cX6_fail 7 = .ok (.return_, 1) := by decide +kernel
theorem dX6_fail_8 : decode cX6_fail 8 = .ok (.aload_n 0, 1) := by decide +kernel
theorem dX6_fail_9 : decode cX6_fail 9 = .ok (.iload_n 1, 1) := by decide +kernel
theorem dX6_fail_10 : decode cX6_fail 10 = .ok (.putfield 32, 3) := by decide +kernel
theorem dX6_fail_13 : decode cX6_fail 13 = .ok (.aload_n 0, 1) := by decide +kernel
theorem dX6_fail_14 : decode cX6_fail 14 = .ok (.iload_n 2, 1) := by decide +kernel
theorem dX6_fail_15 : decode cX6_fail 15 = .ok (.putfield 22, 3) := by decide +kernel
theorem dX6_fail_18 : decode cX6_fail 18 = .ok (.return_, 1) := by decide +kernel
theorem dX7_init_0 : decode cX7_init 0 = .ok (.aload_n 0, 1) := by decide +kernel
theorem dX7_init_1 : decode cX7_init 1 = .ok (.invokespecial 3, 3) := by decide +kernel
theorem dX7_init_4 : decode cX7_init 4 = .ok (.aload_n 0, 1) := by decide +kernel
theorem dX7_init_5 : decode cX7_init 5 = .ok (.iconst 5, 1) := by decide +kernel
theorem dX7_init_6 : decode cX7_init 6 = .ok (.newarray .int, 2) := by decide +kernel
theorem dX7_init_8 : decode cX7_init 8 = .ok (.putfield 9, 3) := by decide +kernel
theorem dX7_init_11 : decode cX7_init 11 = .ok (.aload_n 0, 1) := by decide +kernel
theorem dX7_init_12 : decode cX7_init 12 = .ok (.bipush 6, 2) := by decide +kernel
theorem dX7_init_14 : decode cX7_init 14 = .ok (.newarray .int, 2) := by decide +kernel
theorem dX7_init_16 : decode cX7_init 16 = .ok (.putfield 15, 3) := by decide +kernel
theorem dX7_init_19 : decode cX7_init 19 = .ok (.aload_n 0, 1) := by decide +kernel
theorem dX7_init_20 : decode cX7_init 20 = .ok (.aload_n 1, 1) := by decide +kernel
theorem dX7_init_21 : decode cX7_init 21 = .ok (.putfield 18, 3) := by decide +kernel
theorem dX7_init_24 : decode cX7_init 24 = .ok (.aload_n 0, 1) := by decide +kernel
theorem dX7_init_25 : decode cX7_init 25 = .ok (.aload_n 2, 1) := by decide +kernel
theorem dX7_init_26 : decode cX7_init 26 = .ok (.putfield 22, 3) := by decide +kernel
theorem dX7_init_29 : decode cX7_init 29 = .ok (.return_, 1) := by decide +kernel
theorem dX7_tryRows_0 : decode cX7_tryRows 0 = .ok (.aload_n 0, 1) := by decide +kernel
theorem dX7_tryRows_1 : decode cX7_tryRows 1 = .ok (.iconst 5, 1) := by decide +kernel
theorem dX7_tryRows_2 : decode cX7_tryRows 2 = .ok (.iload_n 2, 1) := by decide +kernel
theorem dX7_tryRows_3 : decode cX7_tryRows 3 = .ok (.invokestatic 26, 3) := by decide +kernel
theorem dX7_tryRows_6 : decode cX7_tryRows 6 = .ok (.putfield 32, 3) := by decide +kernel
theorem dX7_tryRows_9 : decode cX7_tryRows 9 = .ok (.iconst 0, 1) := by decide +kernel
theorem dX7_tryRows_10 : decode cX7_tryRows 10 = .ok (.istore_n 3, 1) := by decide +kernel
theorem dX7_tryRows_11 : decode cX7_tryRows 11 = .ok (.iload_n 3, 1) := by decide +kernel
theorem dX7_tryRows_12 : decode cX7_tryRows 12 = .ok (.bipush 6, 2) := by decide +kernel
theorem dX7_tryRows_14 : decode cX7_tryRows 14 = .ok (.if_icmp .ge 16, 3) := by decide +kernel
theorem dX7_tryRows_17 : decode cX7_tryRows 17 = .ok (.aload_n 0, 1) := by decide +kernel
theorem dX7_tryRows_18 : decode cX7_tryRows 18 = .ok (.getfield 15, 3) := by decide +kernel
theorem dX7_tryRows_21 : decode cX7_tryRows 21 = .ok (.iload_n 3, 1) := by decide +kernel
theorem dX7_tryRows_22 : decode cX7_tryRows 22 = .ok (.iconst 0, 1) := by decide +kernel
theorem dX7_tryRows_23 : decode cX7_tryRows 23 = .ok (.iastore, 1) := by decide +kernel
theorem dX7_tryRows_24 : decode cX7_tryRows 24 = .ok (.iinc 3 1, 3) := by decide +kernel
theorem dX7_tryRows_27 : decode cX7_tryRows 27 = .ok (.goto (-16), 3) := by decide +kernel
theorem dX7_tryRows_30 : decode cX7_tryRows 30 = .ok (.aload_n 0, 1) := by decide +kernel
theorem dX7_tryRows_31 : decode cX7_tryRows 31 = .ok (.getfield 22, 3) := by decide +kernel
theorem dX7_tryRows_34 : decode cX7_tryRows 34 = .ok (.iconst 0, 1) := by decide +kernel
theorem dX7_tryRows_35 : decode cX7_tryRows 35 = .ok (.aaload, 1) := by decide +kernel
theorem dX7_tryRows_36 : decode cX7_tryRows 36 = .ok (.aload_n 1, 1) := by decide +kernel
theorem dX7_tryRows_37 : decode cX7_tryRows 37 = .ok (.invokevirtual 36, 3) := by decide +kernel
theorem dX7_tryRows_40 : decode cX7_tryRows 40 = .ok (.aload_n 0, 1) := by decide +kernel
theorem dX7_tryRows_41 : decode cX7_tryRows 41 = .ok (.iconst 0, 1) := by decide +kernel
theorem dX7_tryRows_42 : decode cX7_tryRows 42 = .ok (.invokevirtual 42, 3) := by decide +kernel
theorem dX7_tryRows_45 : decode cX7_tryRows 45 = .ok (.return_, 1) := by decide +kernel
theorem dX7_goOn_0 : decode cX7_goOn 0 = .ok (.iload_n 1, 1) := by decide +kernel
theorem dX7_goOn_1 : decode cX7_goOn 1 = .ok (.aload_n 0, 1) := by decide +kernel
theorem dX7_goOn_2 : decode cX7_goOn 2 = .ok (.getfield 32, 3) := by decide +kernel
theorem dX7_goOn_5 : decode cX7_goOn 5 = .ok (.if_icmp .lt 8, 3) := by decide +kernel
theorem dX7_goOn_8 : decode cX7_goOn 8 = .ok (.aload_n 0, 1) := by decide +kernel
theorem dX7_goOn_9 : decode cX7_goOn 9 = .ok (.invokevirtual 46, 3) := by decide +kernel
theorem dX7_goOn_12 : decode cX7_goOn 12 = .ok (.return_, 1) := by decide +kernel
theorem dX7_goOn_13 : decode cX7_goOn 13 = .ok (.iconst 0, 1) := by decide +kernel
theorem dX7_goOn_14 : decode cX7_goOn 14 = .ok (.istore_n 2, 1) := by decide +kernel
theorem dX7_goOn_15 : decode cX7_goOn 15 = .ok (.iload_n 2, 1) := by decide +kernel
theorem dX7_goOn_16 : decode cX7_goOn 16 = .ok (.aload_n 0, 1) := by decide +kernel
theorem dX7_goOn_17 : decode cX7_goOn 17 = .ok (.getfield 18, 3) := by decide +kernel
theorem dX7_goOn_20 : decode cX7_goOn 20 = .ok (.getfield 49, 3) := by decide +kernel
theorem dX7_goOn_23 : decode cX7_goOn 23 = .ok (.if_icmp .ge 86, 3) := by decide +kernel
theorem dX7_goOn_26 : decode cX7_goOn 26 = .ok (.aload_n 0, 1) := by decide +kernel
theorem dX7_goOn_27 : decode cX7_goOn 27 = .ok (.getfield 22, 3) := by decide +kernel
theorem dX7_goOn_30 : decode cX7_goOn 30 = .ok (.iload_n 1, 1) := by decide +kernel
theorem dX7_goOn_31 : decode cX7_goOn 31 = .ok (.aaload, 1) := by decide +kernel
theorem dX7_goOn_32 : decode cX7_goOn 32 = .ok (.iload_n 2, 1) := by decide +kernel
theorem dX7_goOn_33 : decode cX7_goOn 33 = .ok (.iconst (-1), 1) := by decide +kernel
theorem dX7_goOn_34 : decode cX7_goOn 34 = .ok (.iconst 0, 1) := by decide +kernel
theorem dX7_goOn_35 : decode cX7_goOn 35 = .ok (.invokevirtual 54, 3) := by decide +kernel
theorem dX7_goOn_38 : decode cX7_goOn 38 = .ok (.istore_n 3, 1) := by decide +kernel
theorem dX7_goOn_39 : decode cX7_goOn 39 = .ok (.aload_n 0, 1) := by decide +kernel
theorem dX7_goOn_40 : decode cX7_goOn 40 = .ok (.iload_n 1, 1) := by decide +kernel
theorem dX7_goOn_41 : decode cX7_goOn 41 = .ok (.iload_n 2, 1) := by decide +kernel
theorem dX7_goOn_42 : decode cX7_goOn 42 = .ok (.iload_n 3, 1) := by decide +kernel
theorem dX7_goOn_43 : decode cX7_goOn 43 = .ok (.invokevirtual 58, 3) := by decide +kernel
theorem dX7_goOn_46 : decode cX7_goOn 46 = .ok (.ifCond .ne 6, 3) := by decide +kernel
theorem dX7_goOn_49 : decode cX7_goOn 49 = .ok (.goto 54, 3) := by decide +kernel
theorem dX7_goOn_52 : decode cX7_goOn 52 = .ok (.aload_n 0, 1) := by decide +kernel
theorem dX7_goOn_53 : decode cX7_goOn 53 = .ok (.getfield 9, 3) := by decide +kernel
theorem dX7_goOn_56 : decode cX7_goOn 56 = .ok (.iload_n 1, 1) := by decide +kernel
theorem dX7_goOn_57 : decode cX7_goOn 57 = .ok (.iload_n 2, 1) := by decide +kernel
theorem dX7_goOn_58 : decode cX7_goOn 58 = .ok (.iastore, 1) := by decide +kernel
theorem dX7_goOn_59 : decode cX7_goOn 59 = .ok (.aload_n 0, 1) := by decide +kernel
theorem dX7_goOn_60 : decode cX7_goOn 60 = .ok (.getfield 15, 3) := by decide +kernel
theorem dX7_goOn_63 : decode cX7_goOn 63 = .ok (.iload_n 2, 1) := by decide +kernel
theorem dX7_goOn_64 : decode cX7_goOn 64 = .ok (.dup2, 1) := by decide +kernel
theorem dX7_goOn_65 : decode cX7_goOn 65 = .ok (.iaload, 1) := by decide +kernel
theorem dX7_goOn_66 : decode cX7_goOn 66 = .ok (.iconst 1, 1) := by decide +kernel
theorem dX7_goOn_67 : decode cX7_goOn 67 = .ok (.iadd, 1) := by decide +kernel
theorem dX7_goOn_68 : decode cX7_goOn 68 = .ok (.iastore, 1) := by decide +kernel
theorem dX7_goOn_69 : decode cX7_goOn 69 = .ok (.iload_n 1, 1) := by decide +kernel
theorem dX7_goOn_70 : decode cX7_goOn 70 = .ok (.iconst 1, 1) := by decide +kernel
theorem dX7_goOn_71 : decode cX7_goOn 71 = .ok (.iadd, 1) := by decide +kernel
theorem dX7_goOn_72 : decode cX7_goOn 72 = .ok (.aload_n 0, 1) := by decide +kernel
theorem dX7_goOn_73 : decode cX7_goOn 73 = .ok (.getfield 32, 3) := by decide +kernel
theorem dX7_goOn_76 : decode cX7_goOn 76 = .ok (.if_icmp .ge 10, 3) := by decide +kernel
theorem dX7_goOn_79 : decode cX7_goOn 79 = .ok (.aload_n 0, 1) := by decide +kernel
theorem dX7_goOn_80 : decode cX7_goOn 80 = .ok (.iload_n 1, 1) := by decide +kernel
theorem dX7_goOn_81 : decode cX7_goOn 81 = .ok (.iload_n 2, 1) := by decide +kernel
theorem dX7_goOn_82 : decode cX7_goOn 82 = .ok (.iload_n 3, 1) := by decide +kernel
theorem dX7_goOn_83 : decode cX7_goOn 83 = .ok (.invokevirtual 62, 3) := by decide +kernel
theorem dX7_goOn_86 : decode cX7_goOn 86 = .ok (.aload_n 0, 1) := by decide +kernel
theorem dX7_goOn_87 : decode cX7_goOn 87 = .ok (.iload_n 1, 1) := by decide +kernel
theorem dX7_goOn_88 : decode cX7_goOn 88 = .ok (.iconst 1, 1) := by decide +kernel
theorem dX7_goOn_89 : decode cX7_goOn 89 = .ok (.iadd, 1) := by decide +kernel
theorem dX7_goOn_90 : decode cX7_goOn 90 = .ok (.invokevirtual 42, 3) := by decide +kernel
theorem dX7_goOn_93 : decode cX7_goOn 93 = .ok (.aload_n 0, 1) := by decide +kernel
theorem dX7_goOn_94 : decode cX7_goOn 94 = .ok (.getfield 15, 3) := by decide +kernel
theorem dX7_goOn_97 : decode cX7_goOn 97 = .ok (.iload_n 2, 1) := by decide +kernel
theorem dX7_goOn_98 : decode cX7_goOn 98 = .ok (.dup2, 1) := by decide +kernel
theorem dX7_goOn_99 : decode cX7_goOn 99 = .ok (.iaload, 1) := by decide +kernel
theorem dX7_goOn_100 : decode cX7_goOn 100 = .ok (.iconst 1, 1) := by decide +kernel
theorem dX7_goOn_101 : decode cX7_goOn 101 = .ok (.isub, 1) := by decide +kernel
theorem dX7_goOn_102 : decode cX7_goOn 102 = .ok (.iastore, 1) := by decide +kernel
theorem dX7_goOn_103 : decode cX7_goOn 103 = .ok (.iinc 2 1, 3) := by decide +kernel
theorem dX7_goOn_106 : decode cX7_goOn 106 = .ok (.goto (-91), 3) := by decide +kernel
theorem dX7_goOn_109 : decode cX7_goOn 109 = .ok (.return_, 1) := by decide +kernel
theorem dX7_standBehind_0 : decode cX7_standBehind 0 = .ok (.aload_n 0, 1) := by decide +kernel
theorem dX7_standBehind_1 : decode cX7_standBehind 1 = .ok (.getfield 22, 3) := by decide +kernel
theorem dX7_standBehind_4 : decode cX7_standBehind 4 = .ok (.iload_n 1, 1) := by decide +kernel
theorem dX7_standBehind_5 : decode cX7_standBehind 5 = .ok (.iconst 1, 1) := by decide +kernel
theorem dX7_standBehind_6 : decode cX7_standBehind 6 = .ok (.iadd, 1) := by decide +kernel
theorem dX7_standBehind_7 : decode cX7_standBehind 7 = .ok (.aaload, 1) := by decide +kernel
theorem dX7_standBehind_8 : decode cX7_standBehind 8 = .ok (.astore 4, 2) := by decide +kernel
theorem dX7_standBehind_10 : decode cX7_standBehind 10 = .ok (.aload 4, 2) := by decide +kernel
theorem dX7_standBehind_12 : decode cX7_standBehind 12 = .ok (.aload_n 0, 1) := by decide +kernel
theorem dX7_standBehind_13 : decode cX7_standBehind 13 = .ok (.getfield 22, 3) := by decide +kernel
theorem dX7_standBehind_16 : decode cX7_standBehind 16 = .ok (.iload_n 1, 1) := by decide +kernel
theorem dX7_standBehind_17 : decode cX7_standBehind 17 = .ok (.aaload, 1) := by decide +kernel
theorem dX7_standBehind_18 : decode cX7_standBehind 18 = .ok (.invokevirtual 36, 3) := by decide +kernel
theorem dX7_standBehind_21 : decode cX7_standBehind 21 = .ok (.aload 4, 2) := by decide +kernel
theorem dX7_standBehind_23 : decode cX7_standBehind 23 = .ok (.iload_n 2, 1) := by decide +kernel
theorem dX7_standBehind_24 : decode cX7_standBehind 24 = .ok (.invokevirtual 66, 3) := by decide +kernel
theorem dX7_standBehind_27 : decode cX7_standBehind 27 = .ok (.aload 4, 2) := by decide +kernel
theorem dX7_standBehind_29 : decode cX7_standBehind 29 = .ok (.iload_n 3, 1) := by decide +kernel
theorem dX7_standBehind_30 : decode cX7_standBehind 30 = .ok (.invokevirtual 69, 3) := by decide +kernel
theorem dX7_standBehind_33 : decode cX7_standBehind 33 = .ok (.return_, 1) := by decide +kernel
theorem dX8_init_0 : decode cX8_init 0 = .ok (.aload_n 0, 1) := by decide +kernel
theorem dX8_init_1 : decode cX8_init 1 = .ok (.aload_n 1, 1) := by decide +kernel
theorem dX8_init_2 : decode cX8_init 2 = .ok (.aload_n 2, 1) := by decide +kernel
theorem dX8_init_3 : decode cX8_init 3 = .ok (.invokespecial 3, 3) := by decide +kernel
theorem dX8_init_6 : decode cX8_init 6 = .ok (.aload_n 0, 1) := by decide +kernel
theorem dX8_init_7 : decode cX8_init 7 = .ok (.iconst 5, 1) := by decide +kernel
theorem dX8_init_8 : decode cX8_init 8 = .ok (.newarray .int, 2) := by decide +kernel
theorem dX8_init_10 : decode cX8_init 10 = .ok (.putfield 9, 3) := by decide +kernel
theorem dX8_init_13 : decode cX8_init 13 = .ok (.aload_n 0, 1) := by decide +kernel
theorem dX8_init_14 : decode cX8_init 14 = .ok (.iconst 5, 1) := by decide +kernel
theorem dX8_init_15 : decode cX8_init 15 = .ok (.newarray .int, 2) := by decide +kernel
theorem dX8_init_17 : decode cX8_init 17 = .ok (.putfield 15, 3) := by decide +kernel
theorem dX8_init_20 : decode cX8_init 20 = .ok (.return_, 1) := by decide +kernel
theorem dX8_clear_0 : decode cX8_clear 0 = .ok (.aload_n 0, 1) := by decide +kernel
theorem dX8_clear_1 : decode cX8_clear 1 = .ok (.iconst 0, 1) := by decide +kernel
theorem dX8_clear_2 : decode cX8_clear 2 = .ok (.putfield 18, 3) := by decide +kernel
theorem dX8_clear_5 : decode cX8_clear 5 = .ok (.return_, 1) := by decide +kernel
theorem dX8_add_0 : decode cX8_add 0 = .ok (.aload_n 0, 1) := by decide +kernel
theorem dX8_add_1 : decode cX8_add 1 = .ok (.getfield 18, 3) := by decide +kernel
theorem dX8_add_4 : decode cX8_add 4 = .ok (.iconst 5, 1) := by decide +kernel
theorem dX8_add_5 : decode cX8_add 5 = .ok (.if_icmp .ge 23, 3) := by decide +kernel
theorem dX8_add_8 : decode cX8_add 8 = .ok (.aload_n 0, 1) := by decide +kernel
theorem dX8_add_9 : decode cX8_add 9 = .ok (.getfield 9, 3) := by decide +kernel
theorem dX8_add_12 : decode cX8_add 12 = .ok (.aload_n 0, 1) := by decide +kernel
theorem dX8_add_13 : decode cX8_add 13 = .ok (.getfield 18, 3) := by decide +kernel
theorem dX8_add_16 : decode cX8_add 16 = .ok (.iload_n 1, 1) := by decide +kernel
theorem dX8_add_17 : decode cX8_add 17 = .ok (.iastore, 1) := by decide +kernel
theorem dX8_add_18 : decode cX8_add 18 = .ok (.aload_n 0, 1) := by decide +kernel
theorem dX8_add_19 : decode cX8_add 19 = .ok (.dup, 1) := by decide +kernel
theorem dX8_add_20 : decode cX8_add 20 = .ok (.getfield 18, 3) := by decide +kernel
theorem dX8_add_23 : decode cX8_add 23 = .ok (.iconst 1, 1) := by decide +kernel
theorem dX8_add_24 : decode cX8_add 24 = .ok (.iadd, 1) := by decide +kernel
theorem dX8_add_25 : decode cX8_add 25 = .ok (.putfield 18, 3) := by decide +kernel
theorem dX8_add_28 : decode cX8_add 28 = .ok (.aload_n 0, 1) := by decide +kernel
theorem dX8_add_29 : decode cX8_add 29 = .ok (.getfield 18, 3) := by decide +kernel
theorem dX8_add_32 : decode cX8_add 32 = .ok (.ireturn, 1) := by decide +kernel
theorem dX8_find_0 : decode cX8_find 0 = .ok (.aload_n 0, 1) := by decide +kernel
theorem dX8_find_1 : decode cX8_find 1 = .ok (.iconst 0, 1) := by decide +kernel
theorem dX8_find_2 : decode cX8_find 2 = .ok (.putfield 22, 3) := by decide +kernel
theorem dX8_find_5 : decode cX8_find 5 = .ok (.aload_n 0, 1) := by decide +kernel
theorem dX8_find_6 : decode cX8_find 6 = .ok (.iconst 0, 1) := by decide +kernel
theorem dX8_find_7 : decode cX8_find 7 = .ok (.putfield 25, 3) := by decide +kernel
theorem dX8_find_10 : decode cX8_find 10 = .ok (.aload_n 0, 1) := by decide +kernel
theorem dX8_find_11 : decode cX8_find 11 = .ok (.aload_n 1, 1) := by decide +kernel
theorem dX8_find_12 : decode cX8_find 12 = .ok (.aload_n 0, 1) := by decide +kernel
theorem dX8_find_13 : decode cX8_find 13 = .ok (.getfield 18, 3) := by decide +kernel
theorem dX8_find_16 : decode cX8_find 16 = .ok (.invokevirtual 28, 3) := by decide +kernel
theorem dX8_find_19 : decode cX8_find 19 = .ok (.return_, 1) := by decide +kernel
theorem dX8_fits_0 : decode cX8_fits 0 = .ok (.iload_n 3, 1) := by decide +kernel
theorem dX8_fits_1 : decode cX8_fits 1 = .ok (.aload_n 0, 1) := by decide +kernel
theorem dX8_fits_2 : decode cX8_fits 2 = .ok (.getfield 9, 3) := by decide +kernel
theorem dX8_fits_5 : decode cX8_fits 5 = .ok (.iload_n 1, 1) := by decide +kernel
theorem dX8_fits_6 : decode cX8_fits 6 = .ok (.iaload, 1) := by decide +kernel
theorem dX8_fits_7 : decode cX8_fits 7 = .ok (.if_icmp .ne 7, 3) := by decide +kernel
theorem dX8_fits_10 : decode cX8_fits 10 = .ok (.iconst 1, 1) := by decide +kernel
theorem dX8_fits_11 : decode cX8_fits 11 = .ok (.goto 4, 3) := by decide +kernel
theorem dX8_fits_14 : decode cX8_fits 14 = .ok (.iconst 0, 1) := by decide +kernel
theorem dX8_fits_15 : decode cX8_fits 15 = .ok (.ireturn, 1) := by decide +kernel
theorem dX8_endRow_0 : decode cX8_endRow 0 = .ok (.iconst 0, 1) := by decide +kernel
theorem dX8_endRow_1 : decode cX8_endRow 1 = .ok (.istore_n 1, 1) := by decide +kernel
theorem dX8_endRow_2 : decode cX8_endRow 2 = .ok (.iconst 0, 1) := by decide +kernel
theorem dX8_endRow_3 : decode cX8_endRow 3 = .ok (.istore_n 2, 1) := by decide +kernel
theorem dX8_endRow_4 : decode cX8_endRow 4 = .ok (.iload_n 2, 1) := by decide +kernel
theorem dX8_endRow_5 : decode cX8_endRow 5 = .ok (.bipush 6, 2) := by decide +kernel
theorem dX8_endRow_7 : decode cX8_endRow 7 = .ok (.if_icmp .ge 24, 3) := by decide +kernel
theorem dX8_endRow_10 : decode cX8_endRow 10 = .ok (.aload_n 0, 1) := by decide +kernel
theorem dX8_endRow_11 : decode cX8_endRow 11 = .ok (.getfield 32, 3) := by decide +kernel
theorem dX8_endRow_14 : decode cX8_endRow 14 = .ok (.iload_n 2, 1) := by decide +kernel
theorem dX8_endRow_15 : decode cX8_endRow 15 = .ok (.iaload, 1) := by decide +kernel
theorem dX8_endRow_16 : decode cX8_endRow 16 = .ok (.ifCond .le 9, 3) := by decide +kernel
theorem dX8_endRow_19 : decode cX8_endRow 19 = .ok (.iload_n 1, 1) := by decide +kernel
theorem dX8_endRow_20 : decode cX8_endRow 20 = .ok (.iconst 1, 1) := by decide +kernel
theorem dX8_endRow_21 : decode cX8_endRow 21 = .ok (.iload_n 2, 1) := by decide +kernel
theorem dX8_endRow_22 : decode cX8_endRow 22 = .ok (.ishl, 1) := by decide +kernel
theorem dX8_endRow_23 : decode cX8_endRow 23 = .ok (.ior, 1) := by decide +kernel
theorem dX8_endRow_24 : decode cX8_endRow 24 = .ok (.istore_n 1, 1) := by decide +kernel
theorem dX8_endRow_25 : decode cX8_endRow 25 = .ok (.iinc 2 1, 3) := by decide +kernel
theorem dX8_endRow_28 : decode cX8_endRow 28 = .ok (.goto (-24), 3) := by decide +kernel
theorem dX8_endRow_31 : decode cX8_endRow 31 = .ok (.aload_n 0, 1) := by decide +kernel
theorem dX8_endRow_32 : decode cX8_endRow 32 = .ok (.getfield 22, 3) := by decide +kernel
theorem dX8_endRow_35 : decode cX8_endRow 35 = .ok (.ifCond .ne 22, 3) := by decide +kernel
theorem dX8_endRow_38 : decode cX8_endRow 38 = .ok (.aload_n 0, 1) := by decide +kernel
theorem dX8_endRow_39 : decode cX8_endRow 39 = .ok (.iload_n 1, 1) := by decide +kernel
theorem dX8_endRow_40 : decode cX8_endRow 40 = .ok (.putfield 25, 3) := by decide +kernel
theorem dX8_endRow_43 : decode cX8_endRow 43 = .ok (.aload_n 0, 1) := by decide +kernel
theorem dX8_endRow_44 : decode cX8_endRow 44 = .ok (.getfield 35, 3) := by decide +kernel
theorem dX8_endRow_47 : decode cX8_endRow 47 = .ok (.iconst 0, 1) := by decide +kernel
theorem dX8_endRow_48 : decode cX8_endRow 48 = .ok (.aload_n 0, 1) := by decide +kernel
theorem dX8_endRow_49 : decode cX8_endRow 49 = .ok (.getfield 15, 3) := by decide +kernel
theorem dX8_endRow_52 : decode cX8_endRow 52 = .ok (.iconst 0, 1) := by decide +kernel
theorem dX8_endRow_53 : decode cX8_endRow 53 = .ok (.iconst 5, 1) := by decide +kernel
theorem dX8_endRow_54 : decode cX8_endRow 54 = .ok (.invokestatic 38, 3) := by decide +kernel
theorem dX8_endRow_57 : decode cX8_endRow 57 = .ok (.aload_n 0, 1) := by decide +kernel
theorem dX8_endRow_58 : decode cX8_endRow 58 = .ok (.dup, 1) := by decide +kernel
theorem dX8_endRow_59 : decode cX8_endRow 59 = .ok (.getfield 25, 3) := by decide +kernel
theorem dX8_endRow_62 : decode cX8_endRow 62 = .ok (.iload_n 1, 1) := by decide +kernel
theorem dX8_endRow_63 : decode cX8_endRow 63 = .ok (.iand, 1) := by decide +kernel
theorem dX8_endRow_64 : decode cX8_endRow 64 = .ok (.putfield 25, 3) := by decide +kernel
theorem dX8_endRow_67 : decode cX8_endRow 67 = .ok (.aload_n 0, 1) := by decide +kernel
theorem dX8_endRow_68 : decode cX8_endRow 68 = .ok (.dup, 1) := by decide +kernel
theorem dX8_endRow_69 : decode cX8_endRow 69 = .ok (.getfield 22, 3) := by decide +kernel
theorem dX8_endRow_72 : decode cX8_endRow 72 = .ok (.iconst 1, 1) := by decide +kernel
theorem dX8_endRow_73 : decode cX8_endRow 73 = .ok (.iadd, 1) := by decide +kernel
theorem dX8_endRow_74 : decode cX8_endRow 74 = .ok (.putfield 22, 3) := by decide +kernel
theorem dX8_endRow_77 : decode cX8_endRow 77 = .ok (.return_, 1) := by decide +kernel
theorem dX8_holderAt_0 : decode cX8_holderAt 0 = .ok (.aload_n 0, 1) := by decide +kernel
theorem dX8_holderAt_1 : decode cX8_holderAt 1 = .ok (.getfield 22, 3) := by decide +kernel
theorem dX8_holderAt_4 : decode cX8_holderAt 4 = .ok (.ifCond .le 24, 3) := by decide +kernel
theorem dX8_holderAt_7 : decode cX8_holderAt 7 = .ok (.iload_n 1, 1) := by decide +kernel
theorem dX8_holderAt_8 : decode cX8_holderAt 8 = .ok (.ifCond .lt 20, 3) := by decide +kernel
theorem dX8_holderAt_11 : decode cX8_holderAt 11 = .ok (.iload_n 1, 1) := by decide +kernel
theorem dX8_holderAt_12 : decode cX8_holderAt 12 = .ok (.aload_n 0, 1) := by decide +kernel
theorem dX8_holderAt_13 : decode cX8_holderAt 13 = .ok (.getfield 44, 3) := by decide +kernel
theorem dX8_holderAt_16 : decode cX8_holderAt 16 = .ok (.if_icmp .ge 12, 3) := by decide +kernel
theorem dX8_holderAt_19 : decode cX8_holderAt 19 = .ok (.aload_n 0, 1) := by decide +kernel
theorem dX8_holderAt_20 : decode cX8_holderAt 20 = .ok (.getfield 15, 3) := by decide +kernel
theorem dX8_holderAt_23 : decode cX8_holderAt 23 = .ok (.iload_n 1, 1) := by decide +kernel
theorem dX8_holderAt_24 : decode cX8_holderAt 24 = .ok (.iaload, 1) := by decide +kernel
theorem dX8_holderAt_25 : decode cX8_holderAt 25 = .ok (.goto 4, 3) := by decide +kernel
theorem dX8_holderAt_28 : decode cX8_holderAt 28 = .ok (.iconst (-1), 1) := by decide +kernel
theorem dX8_holderAt_29 : decode cX8_holderAt 29 = .ok (.ireturn, 1) := by decide +kernel
theorem dX9_init_0 : decode cX9_init 0 = .ok (.aload_n 0, 1) := by decide +kernel
theorem dX9_init_1 : decode cX9_init 1 = .ok (.aload_n 1, 1) := by decide +kernel
theorem dX9_init_2 : decode cX9_init 2 = .ok (.aload_n 2, 1) := by decide +kernel
theorem dX9_init_3 : decode cX9_init 3 = .ok (.invokespecial 3, 3) := by decide +kernel
theorem dX9_init_6 : decode cX9_init 6 = .ok (.aload_n 0, 1) := by decide +kernel
theorem dX9_init_7 : decode cX9_init 7 = .ok (.iconst 5, 1) := by decide +kernel
theorem dX9_init_8 : decode cX9_init 8 = .ok (.newarray .int, 2) := by decide +kernel
theorem dX9_init_10 : decode cX9_init 10 = .ok (.putfield 9, 3) := by decide +kernel
theorem dX9_init_13 : decode cX9_init 13 = .ok (.return_, 1) := by decide +kernel
theorem dX9_find_0 : decode cX9_find 0 = .ok (.aload_n 0, 1) := by decide +kernel
theorem dX9_find_1 : decode cX9_find 1 = .ok (.iload_n 3, 1) := by decide +kernel
theorem dX9_find_2 : decode cX9_find 2 = .ok (.putfield 15, 3) := by decide +kernel
theorem dX9_find_5 : decode cX9_find 5 = .ok (.aload_n 0, 1) := by decide +kernel
theorem dX9_find_6 : decode cX9_find 6 = .ok (.bipush 6, 2) := by decide +kernel
theorem dX9_find_8 : decode cX9_find 8 = .ok (.putfield 19, 3) := by decide +kernel
theorem dX9_find_11 : decode cX9_find 11 = .ok (.aload_n 0, 1) := by decide +kernel
theorem dX9_find_12 : decode cX9_find 12 = .ok (.iconst 0, 1) := by decide +kernel
theorem dX9_find_13 : decode cX9_find 13 = .ok (.putfield 22, 3) := by decide +kernel
theorem dX9_find_16 : decode cX9_find 16 = .ok (.aload_n 0, 1) := by decide +kernel
theorem dX9_find_17 : decode cX9_find 17 = .ok (.aload_n 1, 1) := by decide +kernel
theorem dX9_find_18 : decode cX9_find 18 = .ok (.iload_n 2, 1) := by decide +kernel
theorem dX9_find_19 : decode cX9_find 19 = .ok (.invokevirtual 25, 3) := by decide +kernel
theorem dX9_find_22 : decode cX9_find 22 = .ok (.return_, 1) := by decide +kernel
theorem dX9_fits_0 : decode cX9_fits 0 = .ok (.iload_n 3, 1) := by decide +kernel
theorem dX9_fits_1 : decode cX9_fits 1 = .ok (.aload_n 0, 1) := by decide +kernel
theorem dX9_fits_2 : decode cX9_fits 2 = .ok (.getfield 15, 3) := by decide +kernel
theorem dX9_fits_5 : decode cX9_fits 5 = .ok (.if_icmp .le 5, 3) := by decide +kernel
theorem dX9_fits_8 : decode cX9_fits 8 = .ok (.iconst 0, 1) := by decide +kernel
theorem dX9_fits_9 : decode cX9_fits 9 = .ok (.ireturn, 1) := by decide +kernel
theorem dX9_fits_10 : decode cX9_fits 10 = .ok (.aload_n 0, 1) := by decide +kernel
theorem dX9_fits_11 : decode cX9_fits 11 = .ok (.aload_n 0, 1) := by decide +kernel
theorem dX9_fits_12 : decode cX9_fits 12 = .ok (.getfield 22, 3) := by decide +kernel
theorem dX9_fits_15 : decode cX9_fits 15 = .ok (.iload_n 1, 1) := by decide +kernel
theorem dX9_fits_16 : decode cX9_fits 16 = .ok (.iconst 1, 1) := by decide +kernel
theorem dX9_fits_17 : decode cX9_fits 17 = .ok (.iadd, 1) := by decide +kernel
theorem dX9_fits_18 : decode cX9_fits 18 = .ok (.invokestatic 29, 3) := by decide +kernel
theorem dX9_fits_21 : decode cX9_fits 21 = .ok (.putfield 22, 3) := by decide +kernel
theorem dX9_fits_24 : decode cX9_fits 24 = .ok (.aload_n 0, 1) := by decide +kernel
theorem dX9_fits_25 : decode cX9_fits 25 = .ok (.getfield 35, 3) := by decide +kernel
theorem dX9_fits_28 : decode cX9_fits 28 = .ok (.iload_n 2, 1) := by decide +kernel
theorem dX9_fits_29 : decode cX9_fits 29 = .ok (.iaload, 1) := by decide +kernel
theorem dX9_fits_30 : decode cX9_fits 30 = .ok (.iconst 1, 1) := by decide +kernel
theorem dX9_fits_31 : decode cX9_fits 31 = .ok (.iadd, 1) := by decide +kernel
theorem dX9_fits_32 : decode cX9_fits 32 = .ok (.aload_n 0, 1) := by decide +kernel
theorem dX9_fits_33 : decode cX9_fits 33 = .ok (.getfield 19, 3) := by decide +kernel
theorem dX9_fits_36 : decode cX9_fits 36 = .ok (.if_icmp .ge 7, 3) := by decide +kernel
theorem dX9_fits_39 : decode cX9_fits 39 = .ok (.iconst 1, 1) := by decide +kernel
theorem dX9_fits_40 : decode cX9_fits 40 = .ok (.goto 4, 3) := by decide +kernel
theorem dX9_fits_43 : decode cX9_fits 43 = .ok (.iconst 0, 1) := by decide +kernel
theorem dX9_fits_44 : decode cX9_fits 44 = .ok (.ireturn, 1) := by decide +kernel
theorem dX9_endRow_0 : decode cX9_endRow 0 = .ok (.iconst 0, 1) := by decide +kernel
theorem dX9_endRow_1 : decode cX9_endRow 1 = .ok (.istore_n 1, 1) := by decide +kernel
theorem dX9_endRow_2 : decode cX9_endRow 2 = .ok (.iconst 0, 1) := by decide +kernel
theorem dX9_endRow_3 : decode cX9_endRow 3 = .ok (.istore_n 2, 1) := by decide +kernel
theorem dX9_endRow_4 : decode cX9_endRow 4 = .ok (.iload_n 2, 1) := by decide +kernel
theorem dX9_endRow_5 : decode cX9_endRow 5 = .ok (.bipush 6, 2) := by decide +kernel
theorem dX9_endRow_7 : decode cX9_endRow 7 = .ok (.if_icmp .ge 20, 3) := by decide +kernel
theorem dX9_endRow_10 : decode cX9_endRow 10 = .ok (.iload_n 1, 1) := by decide +kernel
theorem dX9_endRow_11 : decode cX9_endRow 11 = .ok (.aload_n 0, 1) := by decide +kernel
theorem dX9_endRow_12 : decode cX9_endRow 12 = .ok (.getfield 35, 3) := by decide +kernel
theorem dX9_endRow_15 : decode cX9_endRow 15 = .ok (.iload_n 2, 1) := by decide +kernel
theorem dX9_endRow_16 : decode cX9_endRow 16 = .ok (.iaload, 1) := by decide +kernel
theorem dX9_endRow_17 : decode cX9_endRow 17 = .ok (.invokestatic 29, 3) := by decide +kernel
theorem dX9_endRow_20 : decode cX9_endRow 20 = .ok (.istore_n 1, 1) := by decide +kernel
theorem dX9_endRow_21 : decode cX9_endRow 21 = .ok (.iinc 2 1, 3) := by decide +kernel
theorem dX9_endRow_24 : decode cX9_endRow 24 = .ok (.goto (-20), 3) := by decide +kernel
theorem dX9_endRow_27 : decode cX9_endRow 27 = .ok (.iload_n 1, 1) := by decide +kernel
theorem dX9_endRow_28 : decode cX9_endRow 28 = .ok (.aload_n 0, 1) := by decide +kernel
theorem dX9_endRow_29 : decode cX9_endRow 29 = .ok (.getfield 19, 3) := by decide +kernel
theorem dX9_endRow_32 : decode cX9_endRow 32 = .ok (.if_icmp .lt 4, 3) := by decide +kernel
theorem dX9_endRow_35 : decode cX9_endRow 35 = .ok (.return_, 1) := by decide +kernel
theorem dX9_endRow_36 : decode cX9_endRow 36 = .ok (.aload_n 0, 1) := by decide +kernel
theorem dX9_endRow_37 : decode cX9_endRow 37 = .ok (.iload_n 1, 1) := by decide +kernel
theorem dX9_endRow_38 : decode cX9_endRow 38 = .ok (.putfield 19, 3) := by decide +kernel
theorem dX9_endRow_41 : decode cX9_endRow 41 = .ok (.aload_n 0, 1) := by decide +kernel
theorem dX9_endRow_42 : decode cX9_endRow 42 = .ok (.getfield 38, 3) := by decide +kernel
theorem dX9_endRow_45 : decode cX9_endRow 45 = .ok (.iconst 0, 1) := by decide +kernel
theorem dX9_endRow_46 : decode cX9_endRow 46 = .ok (.aload_n 0, 1) := by decide +kernel
theorem dX9_endRow_47 : decode cX9_endRow 47 = .ok (.getfield 9, 3) := by decide +kernel
theorem dX9_endRow_50 : decode cX9_endRow 50 = .ok (.iconst 0, 1) := by decide +kernel
theorem dX9_endRow_51 : decode cX9_endRow 51 = .ok (.iconst 5, 1) := by decide +kernel
theorem dX9_endRow_52 : decode cX9_endRow 52 = .ok (.invokestatic 41, 3) := by decide +kernel
theorem dX9_endRow_55 : decode cX9_endRow 55 = .ok (.return_, 1) := by decide +kernel
theorem dX9_isFound_0 : decode cX9_isFound 0 = .ok (.aload_n 0, 1) := by decide +kernel
theorem dX9_isFound_1 : decode cX9_isFound 1 = .ok (.getfield 19, 3) := by decide +kernel
theorem dX9_isFound_4 : decode cX9_isFound 4 = .ok (.iconst 5, 1) := by decide +kernel
theorem dX9_isFound_5 : decode cX9_isFound 5 = .ok (.if_icmp .gt 7, 3) := by decide +kernel
theorem dX9_isFound_8 : decode cX9_isFound 8 = .ok (.iconst 1, 1) := by decide +kernel
theorem dX9_isFound_9 : decode cX9_isFound 9 = .ok (.goto 4, 3) := by decide +kernel
theorem dX9_isFound_12 : decode cX9_isFound 12 = .ok (.iconst 0, 1) := by decide +kernel
theorem dX9_isFound_13 : decode cX9_isFound 13 = .ok (.ireturn, 1) := by decide +kernel
theorem dX9_fewest_0 : decode cX9_fewest 0 = .ok (.aload_n 0, 1) := by decide +kernel
theorem dX9_fewest_1 : decode cX9_fewest 1 = .ok (.invokevirtual 47, 3) := by decide +kernel
theorem dX9_fewest_4 : decode cX9_fewest 4 = .ok (.ifCond .eq 10, 3) := by decide +kernel
theorem dX9_fewest_7 : decode cX9_fewest 7 = .ok (.aload_n 0, 1) := by decide +kernel
theorem dX9_fewest_8 : decode cX9_fewest 8 = .ok (.getfield 19, 3) := by decide +kernel
theorem dX9_fewest_11 : decode cX9_fewest 11 = .ok (.goto 4, 3) := by decide +kernel
theorem dX9_fewest_14 : decode cX9_fewest 14 = .ok (.iconst (-1), 1) := by decide +kernel
theorem dX9_fewest_15 : decode cX9_fewest 15 = .ok (.ireturn, 1) := by decide +kernel
theorem dX9_holderAt_0 : decode cX9_holderAt 0 = .ok (.aload_n 0, 1) := by decide +kernel
theorem dX9_holderAt_1 : decode cX9_holderAt 1 = .ok (.invokevirtual 47, 3) := by decide +kernel
theorem dX9_holderAt_4 : decode cX9_holderAt 4 = .ok (.ifCond .eq 24, 3) := by decide +kernel
theorem dX9_holderAt_7 : decode cX9_holderAt 7 = .ok (.iload_n 1, 1) := by decide +kernel
theorem dX9_holderAt_8 : decode cX9_holderAt 8 = .ok (.ifCond .lt 20, 3) := by decide +kernel
theorem dX9_holderAt_11 : decode cX9_holderAt 11 = .ok (.iload_n 1, 1) := by decide +kernel
theorem dX9_holderAt_12 : decode cX9_holderAt 12 = .ok (.aload_n 0, 1) := by decide +kernel
theorem dX9_holderAt_13 : decode cX9_holderAt 13 = .ok (.getfield 51, 3) := by decide +kernel
theorem dX9_holderAt_16 : decode cX9_holderAt 16 = .ok (.if_icmp .ge 12, 3) := by decide +kernel
theorem dX9_holderAt_19 : decode cX9_holderAt 19 = .ok (.aload_n 0, 1) := by decide +kernel
theorem dX9_holderAt_20 : decode cX9_holderAt 20 = .ok (.getfield 9, 3) := by decide +kernel
theorem dX9_holderAt_23 : decode cX9_holderAt 23 = .ok (.iload_n 1, 1) := by decide +kernel
theorem dX9_holderAt_24 : decode cX9_holderAt 24 = .ok (.iaload, 1) := by decide +kernel
theorem dX9_holderAt_25 : decode cX9_holderAt 25 = .ok (.goto 4, 3) := by decide +kernel
theorem dX9_holderAt_28 : decode cX9_holderAt 28 = .ok (.iconst (-1), 1) := by decide +kernel
theorem dX9_holderAt_29 : decode cX9_holderAt 29 = .ok (.ireturn, 1) := by decide +kernel
theorem dX9_firstSunk_0 : decode cX9_firstSunk 0 = .ok (.aload_n 0, 1) := by decide +kernel
theorem dX9_firstSunk_1 : decode cX9_firstSunk 1 = .ok (.getfield 22, 3) := by decide +kernel
theorem dX9_firstSunk_4 : decode cX9_firstSunk 4 = .ok (.aload_n 0, 1) := by decide +kernel
theorem dX9_firstSunk_5 : decode cX9_firstSunk 5 = .ok (.getfield 51, 3) := by decide +kernel
theorem dX9_firstSunk_8 : decode cX9_firstSunk 8 = .ok (.if_icmp .ge 10, 3) := by decide +kernel
theorem dX9_firstSunk_11 : decode cX9_firstSunk 11 = .ok (.aload_n 0, 1) := by decide +kernel
theorem dX9_firstSunk_12 : decode cX9_firstSunk 12 = .ok (.getfield 22, 3) := by decide +kernel
theorem dX9_firstSunk_15 : decode cX9_firstSunk 15 = .ok (.goto 4, 3) := by decide +kernel
theorem dX9_firstSunk_18 : decode cX9_firstSunk 18 = .ok (.iconst (-1), 1) := by decide +kernel
theorem dX9_firstSunk_19 : decode cX9_firstSunk 19 = .ok (.ireturn, 1) := by decide +kernel
theorem dX10_init_0 : decode cX10_init 0 = .ok (.aload_n 0, 1) := by decide +kernel
theorem dX10_init_1 : decode cX10_init 1 = .ok (.invokespecial 3, 3) := by decide +kernel
theorem dX10_init_4 : decode cX10_init 4 = .ok (.aload_n 0, 1) := by decide +kernel
theorem dX10_init_5 : decode cX10_init 5 = .ok (.bipush 6, 2) := by decide +kernel
theorem dX10_init_7 : decode cX10_init 7 = .ok (.newarray .int, 2) := by decide +kernel
theorem dX10_init_9 : decode cX10_init 9 = .ok (.putfield 9, 3) := by decide +kernel
theorem dX10_init_12 : decode cX10_init 12 = .ok (.aload_n 0, 1) := by decide +kernel
theorem dX10_init_13 : decode cX10_init 13 = .ok (.bipush 6, 2) := by decide +kernel
theorem dX10_init_15 : decode cX10_init 15 = .ok (.newarray .int, 2) := by decide +kernel
theorem dX10_init_17 : decode cX10_init 17 = .ok (.putfield 15, 3) := by decide +kernel
theorem dX10_init_20 : decode cX10_init 20 = .ok (.aload_n 0, 1) := by decide +kernel
theorem dX10_init_21 : decode cX10_init 21 = .ok (.bipush 6, 2) := by decide +kernel
theorem dX10_init_23 : decode cX10_init 23 = .ok (.newarray .int, 2) := by decide +kernel
theorem dX10_init_25 : decode cX10_init 25 = .ok (.putfield 18, 3) := by decide +kernel
theorem dX10_init_28 : decode cX10_init 28 = .ok (.aload_n 0, 1) := by decide +kernel
theorem dX10_init_29 : decode cX10_init 29 = .ok (.bipush 6, 2) := by decide +kernel
theorem dX10_init_31 : decode cX10_init 31 = .ok (.newarray .int, 2) := by decide +kernel
theorem dX10_init_33 : decode cX10_init 33 = .ok (.putfield 21, 3) := by decide +kernel
theorem dX10_init_36 : decode cX10_init 36 = .ok (.aload_n 0, 1) := by decide +kernel
theorem dX10_init_37 : decode cX10_init 37 = .ok (.aload_n 1, 1) := by decide +kernel
theorem dX10_init_38 : decode cX10_init 38 = .ok (.putfield 24, 3) := by decide +kernel
theorem dX10_init_41 : decode cX10_init 41 = .ok (.aload_n 0, 1) := by decide +kernel
theorem dX10_init_42 : decode cX10_init 42 = .ok (.invokevirtual 28, 3) := by decide +kernel
theorem dX10_init_45 : decode cX10_init 45 = .ok (.return_, 1) := by decide +kernel
theorem dX10_begin_0 : decode cX10_begin 0 = .ok (.iconst 0, 1) := by decide +kernel
theorem dX10_begin_1 : decode cX10_begin 1 = .ok (.istore_n 1, 1) := by decide +kernel
theorem dX10_begin_2 : decode cX10_begin 2 = .ok (.iload_n 1, 1) := by decide +kernel
theorem dX10_begin_3 : decode cX10_begin 3 = .ok (.bipush 6, 2) := by decide +kernel
theorem dX10_begin_5 : decode cX10_begin 5 = .ok (.if_icmp .ge 37, 3) := by decide +kernel
theorem dX10_begin_8 : decode cX10_begin 8 = .ok (.aload_n 0, 1) := by decide +kernel
theorem dX10_begin_9 : decode cX10_begin 9 = .ok (.getfield 9, 3) := by decide +kernel
theorem dX10_begin_12 : decode cX10_begin 12 = .ok (.iload_n 1, 1) := by decide +kernel
theorem dX10_begin_13 : decode cX10_begin 13 = .ok (.iconst 0, 1) := by decide +kernel
theorem dX10_begin_14 : decode cX10_begin 14 = .ok (.iastore, 1) := by decide +kernel
theorem dX10_begin_15 : decode cX10_begin 15 = .ok (.aload_n 0, 1) := by decide +kernel
theorem dX10_begin_16 : decode cX10_begin 16 = .ok (.getfield 15, 3) := by decide +kernel
theorem dX10_begin_19 : decode cX10_begin 19 = .ok (.iload_n 1, 1) := by decide +kernel
theorem dX10_begin_20 : decode cX10_begin 20 = .ok (.iconst 0, 1) := by decide +kernel
theorem dX10_begin_21 : decode cX10_begin 21 = .ok (.iastore, 1) := by decide +kernel
theorem dX10_begin_22 : decode cX10_begin 22 = .ok (.aload_n 0, 1) := by decide +kernel
theorem dX10_begin_23 : decode cX10_begin 23 = .ok (.getfield 18, 3) := by decide +kernel
theorem dX10_begin_26 : decode cX10_begin 26 = .ok (.iload_n 1, 1) := by decide +kernel
theorem dX10_begin_27 : decode cX10_begin 27 = .ok (.iconst 0, 1) := by decide +kernel
theorem dX10_begin_28 : decode cX10_begin 28 = .ok (.iastore, 1) := by decide +kernel
theorem dX10_begin_29 : decode cX10_begin 29 = .ok (.aload_n 0, 1) := by decide +kernel
theorem dX10_begin_30 : decode cX10_begin 30 = .ok (.getfield 21, 3) := by decide +kernel
theorem dX10_begin_33 : decode cX10_begin 33 = .ok (.iload_n 1, 1) := by decide +kernel
theorem dX10_begin_34 : decode cX10_begin 34 = .ok (.iconst 0, 1) := by decide +kernel
theorem dX10_begin_35 : decode cX10_begin 35 = .ok (.iastore, 1) := by decide +kernel
theorem dX10_begin_36 : decode cX10_begin 36 = .ok (.iinc 1 1, 3) := by decide +kernel
theorem dX10_begin_39 : decode cX10_begin 39 = .ok (.goto (-37), 3) := by decide +kernel
theorem dX10_begin_42 : decode cX10_begin 42 = .ok (.aload_n 0, 1) := by decide +kernel
theorem dX10_begin_43 : decode cX10_begin 43 = .ok (.iconst 0, 1) := by decide +kernel
theorem dX10_begin_44 : decode cX10_begin 44 = .ok (.putfield 31, 3) := by decide +kernel
theorem dX10_begin_47 : decode cX10_begin 47 = .ok (.aload_n 0, 1) := by decide +kernel
theorem dX10_begin_48 : decode cX10_begin 48 = .ok (.iconst 0, 1) := by decide +kernel
theorem dX10_begin_49 : decode cX10_begin 49 = .ok (.putfield 35, 3) := by decide +kernel
theorem dX10_begin_52 : decode cX10_begin 52 = .ok (.aload_n 0, 1) := by decide +kernel
theorem dX10_begin_53 : decode cX10_begin 53 = .ok (.iconst 0, 1) := by decide +kernel
theorem dX10_begin_54 : decode cX10_begin 54 = .ok (.putfield 38, 3) := by decide +kernel
theorem dX10_begin_57 : decode cX10_begin 57 = .ok (.aload_n 0, 1) := by decide +kernel
theorem dX10_begin_58 : decode cX10_begin 58 = .ok (.aload_n 0, 1) := by decide +kernel
theorem dX10_begin_59 : decode cX10_begin 59 = .ok (.getfield 24, 3) := by decide +kernel
theorem dX10_begin_62 : decode cX10_begin 62 = .ok (.getfield 41, 3) := by decide +kernel
theorem dX10_begin_65 : decode cX10_begin 65 = .ok (.putfield 46, 3) := by decide +kernel
theorem dX10_begin_68 : decode cX10_begin 68 = .ok (.aload_n 0, 1) := by decide +kernel
theorem dX10_begin_69 : decode cX10_begin 69 = .ok (.aload_n 0, 1) := by decide +kernel
theorem dX10_begin_70 : decode cX10_begin 70 = .ok (.getfield 24, 3) := by decide +kernel
theorem dX10_begin_73 : decode cX10_begin 73 = .ok (.getfield 49, 3) := by decide +kernel
theorem dX10_begin_76 : decode cX10_begin 76 = .ok (.ifCond .le 7, 3) := by decide +kernel
theorem dX10_begin_79 : decode cX10_begin 79 = .ok (.iconst 0, 1) := by decide +kernel
theorem dX10_begin_80 : decode cX10_begin 80 = .ok (.goto 4, 3) := by decide +kernel
theorem dX10_begin_83 : decode cX10_begin 83 = .ok (.iconst (-1), 1) := by decide +kernel
theorem dX10_begin_84 : decode cX10_begin 84 = .ok (.putfield 52, 3) := by decide +kernel
theorem dX10_begin_87 : decode cX10_begin 87 = .ok (.aload_n 0, 1) := by decide +kernel
theorem dX10_begin_88 : decode cX10_begin 88 = .ok (.iconst (-1), 1) := by decide +kernel
theorem dX10_begin_89 : decode cX10_begin 89 = .ok (.putfield 55, 3) := by decide +kernel
theorem dX10_begin_92 : decode cX10_begin 92 = .ok (.return_, 1) := by decide +kernel
theorem dX10_copyFrom_0 : decode cX10_copyFrom 0 = .ok (.aload_n 1, 1) := by decide +kernel
theorem dX10_copyFrom_1 : decode cX10_copyFrom 1 = .ok (.getfield 9, 3) := by decide +kernel
theorem dX10_copyFrom_4 : decode cX10_copyFrom 4 = .ok (.iconst 0, 1) := by decide +kernel
theorem dX10_copyFrom_5 : decode cX10_copyFrom 5 = .ok (.aload_n 0, 1) := by decide +kernel
theorem dX10_copyFrom_6 : decode cX10_copyFrom 6 = .ok (.getfield 9, 3) := by decide +kernel
theorem dX10_copyFrom_9 : decode cX10_copyFrom 9 = .ok (.iconst 0, 1) := by decide +kernel
theorem dX10_copyFrom_10 : decode cX10_copyFrom 10 = .ok (.bipush 6, 2) := by decide +kernel
theorem dX10_copyFrom_12 : decode cX10_copyFrom 12 = .ok (.invokestatic 58, 3) := by decide +kernel
theorem dX10_copyFrom_15 : decode cX10_copyFrom 15 = .ok (.aload_n 1, 1) := by decide +kernel
theorem dX10_copyFrom_16 : decode cX10_copyFrom 16 = .ok (.getfield 15, 3) := by decide +kernel
theorem dX10_copyFrom_19 : decode cX10_copyFrom 19 = .ok (.iconst 0, 1) := by decide +kernel
theorem dX10_copyFrom_20 : decode cX10_copyFrom 20 = .ok (.aload_n 0, 1) := by decide +kernel
theorem dX10_copyFrom_21 : decode cX10_copyFrom 21 = .ok (.getfield 15, 3) := by decide +kernel
theorem dX10_copyFrom_24 : decode cX10_copyFrom 24 = .ok (.iconst 0, 1) := by decide +kernel
theorem dX10_copyFrom_25 : decode cX10_copyFrom 25 = .ok (.bipush 6, 2) := by decide +kernel
theorem dX10_copyFrom_27 : decode cX10_copyFrom 27 = .ok (.invokestatic 58, 3) := by decide +kernel
theorem dX10_copyFrom_30 : decode cX10_copyFrom 30 = .ok (.aload_n 1, 1) := by decide +kernel
theorem dX10_copyFrom_31 : decode cX10_copyFrom 31 = .ok (.getfield 18, 3) := by decide +kernel
theorem dX10_copyFrom_34 : decode cX10_copyFrom 34 = .ok (.iconst 0, 1) := by decide +kernel
theorem dX10_copyFrom_35 : decode cX10_copyFrom 35 = .ok (.aload_n 0, 1) := by decide +kernel
theorem dX10_copyFrom_36 : decode cX10_copyFrom 36 = .ok (.getfield 18, 3) := by decide +kernel
theorem dX10_copyFrom_39 : decode cX10_copyFrom 39 = .ok (.iconst 0, 1) := by decide +kernel
theorem dX10_copyFrom_40 : decode cX10_copyFrom 40 = .ok (.bipush 6, 2) := by decide +kernel
theorem dX10_copyFrom_42 : decode cX10_copyFrom 42 = .ok (.invokestatic 58, 3) := by decide +kernel
theorem dX10_copyFrom_45 : decode cX10_copyFrom 45 = .ok (.aload_n 1, 1) := by decide +kernel
theorem dX10_copyFrom_46 : decode cX10_copyFrom 46 = .ok (.getfield 21, 3) := by decide +kernel
theorem dX10_copyFrom_49 : decode cX10_copyFrom 49 = .ok (.iconst 0, 1) := by decide +kernel
theorem dX10_copyFrom_50 : decode cX10_copyFrom 50 = .ok (.aload_n 0, 1) := by decide +kernel
theorem dX10_copyFrom_51 : decode cX10_copyFrom 51 = .ok (.getfield 21, 3) := by decide +kernel
theorem dX10_copyFrom_54 : decode cX10_copyFrom 54 = .ok (.iconst 0, 1) := by decide +kernel
theorem dX10_copyFrom_55 : decode cX10_copyFrom 55 = .ok (.bipush 6, 2) := by decide +kernel
theorem dX10_copyFrom_57 : decode cX10_copyFrom 57 = .ok (.invokestatic 58, 3) := by decide +kernel
theorem dX10_copyFrom_60 : decode cX10_copyFrom 60 = .ok (.aload_n 0, 1) := by decide +kernel
theorem dX10_copyFrom_61 : decode cX10_copyFrom 61 = .ok (.aload_n 1, 1) := by decide +kernel
theorem dX10_copyFrom_62 : decode cX10_copyFrom 62 = .ok (.getfield 31, 3) := by decide +kernel
theorem dX10_copyFrom_65 : decode cX10_copyFrom 65 = .ok (.putfield 31, 3) := by decide +kernel
theorem dX10_copyFrom_68 : decode cX10_copyFrom 68 = .ok (.aload_n 0, 1) := by decide +kernel
theorem dX10_copyFrom_69 : decode cX10_copyFrom 69 = .ok (.aload_n 1, 1) := by decide +kernel
theorem dX10_copyFrom_70 : decode cX10_copyFrom 70 = .ok (.getfield 35, 3) := by decide +kernel
theorem dX10_copyFrom_73 : decode cX10_copyFrom 73 = .ok (.putfield 35, 3) := by decide +kernel
theorem dX10_copyFrom_76 : decode cX10_copyFrom 76 = .ok (.aload_n 0, 1) := by decide +kernel
theorem dX10_copyFrom_77 : decode cX10_copyFrom 77 = .ok (.aload_n 1, 1) := by decide +kernel
theorem dX10_copyFrom_78 : decode cX10_copyFrom 78 = .ok (.getfield 38, 3) := by decide +kernel
theorem dX10_copyFrom_81 : decode cX10_copyFrom 81 = .ok (.putfield 38, 3) := by decide +kernel
theorem dX10_copyFrom_84 : decode cX10_copyFrom 84 = .ok (.aload_n 0, 1) := by decide +kernel
theorem dX10_copyFrom_85 : decode cX10_copyFrom 85 = .ok (.aload_n 1, 1) := by decide +kernel
theorem dX10_copyFrom_86 : decode cX10_copyFrom 86 = .ok (.getfield 46, 3) := by decide +kernel
theorem dX10_copyFrom_89 : decode cX10_copyFrom 89 = .ok (.putfield 46, 3) := by decide +kernel
theorem dX10_copyFrom_92 : decode cX10_copyFrom 92 = .ok (.aload_n 0, 1) := by decide +kernel
theorem dX10_copyFrom_93 : decode cX10_copyFrom 93 = .ok (.aload_n 1, 1) := by decide +kernel
theorem dX10_copyFrom_94 : decode cX10_copyFrom 94 = .ok (.getfield 52, 3) := by decide +kernel
theorem dX10_copyFrom_97 : decode cX10_copyFrom 97 = .ok (.putfield 52, 3) := by decide +kernel
theorem dX10_copyFrom_100 : decode cX10_copyFrom 100 = .ok (.aload_n 0, 1) := by decide +kernel
theorem dX10_copyFrom_101 : decode cX10_copyFrom 101 = .ok (.aload_n 1, 1) := by decide +kernel
theorem dX10_copyFrom_102 : decode cX10_copyFrom 102 = .ok (.getfield 55, 3) := by decide +kernel
theorem dX10_copyFrom_105 : decode cX10_copyFrom 105 = .ok (.putfield 55, 3) := by decide +kernel
theorem dX10_copyFrom_108 : decode cX10_copyFrom 108 = .ok (.return_, 1) := by decide +kernel
theorem dX10_isHolding_0 : decode cX10_isHolding 0 = .ok (.iload_n 1, 1) := by decide +kernel
theorem dX10_isHolding_1 : decode cX10_isHolding 1 = .ok (.iconst (-1), 1) := by decide +kernel
theorem dX10_isHolding_2 : decode cX10_isHolding 2 = .ok (.if_icmp .eq 23, 3) := by decide +kernel
theorem dX10_isHolding_5 : decode cX10_isHolding 5 = .ok (.iload_n 1, 1) := by decide +kernel
theorem dX10_isHolding_6 : decode cX10_isHolding 6 = .ok (.aload_n 0, 1) := by decide +kernel
theorem dX10_isHolding_7 : decode cX10_isHolding 7 = .ok (.getfield 52, 3) := by decide +kernel
theorem dX10_isHolding_10 : decode cX10_isHolding 10 = .ok (.if_icmp .eq 11, 3) := by decide +kernel
theorem dX10_isHolding_13 : decode cX10_isHolding 13 = .ok (.iload_n 1, 1) := by decide +kernel
theorem dX10_isHolding_14 : decode cX10_isHolding 14 = .ok (.aload_n 0, 1) := by decide +kernel
theorem dX10_isHolding_15 : decode cX10_isHolding 15 = .ok (.getfield 55, 3) := by decide +kernel
theorem dX10_isHolding_18 : decode cX10_isHolding 18 = .ok (.if_icmp .ne 7, 3) := by decide +kernel
theorem dX10_isHolding_21 : decode cX10_isHolding 21 = .ok (.iconst 1, 1) := by decide +kernel
theorem dX10_isHolding_22 : decode cX10_isHolding 22 = .ok (.goto 4, 3) := by decide +kernel
theorem dX10_isHolding_25 : decode cX10_isHolding 25 = .ok (.iconst 0, 1) := by decide +kernel
theorem dX10_isHolding_26 : decode cX10_isHolding 26 = .ok (.ireturn, 1) := by decide +kernel
theorem dX10_isFatherHolding_0 : decode cX10_isFatherHolding 0 = .ok (.aload_n 0, 1) := by decide +kernel
theorem dX10_isFatherHolding_1 : decode cX10_isFatherHolding 1 = .ok (.getfield 24, 3) := by decide +kernel
theorem dX10_isFatherHolding_4 : decode cX10_isFatherHolding 4 = .ok (.iload_n 1, 1) := by decide +kernel
theorem dX10_isFatherHolding_5 : decode cX10_isFatherHolding 5 = .ok (.aload_n 0, 1) := by decide +kernel
theorem dX10_isFatherHolding_6 : decode cX10_isFatherHolding 6 = .ok (.getfield 52, 3) := by decide +kernel
theorem dX10_isFatherHolding_9 : decode cX10_isFatherHolding 9 = .ok (.invokevirtual 64, 3) := by decide +kernel
theorem dX10_isFatherHolding_12 : decode cX10_isFatherHolding 12 = .ok (.ifCond .ne 18, 3) := by decide +kernel
theorem dX10_isFatherHolding_15 : decode cX10_isFatherHolding 15 = .ok (.aload_n 0, 1) := by decide +kernel
theorem dX10_isFatherHolding_16 : decode cX10_isFatherHolding 16 = .ok (.getfield 24, 3) := by decide +kernel
theorem dX10_isFatherHolding_19 : decode cX10_isFatherHolding 19 = .ok (.iload_n 1, 1) := by decide +kernel
theorem dX10_isFatherHolding_20 : decode cX10_isFatherHolding 20 = .ok (.aload_n 0, 1) := by decide +kernel
theorem dX10_isFatherHolding_21 : decode cX10_isFatherHolding 21 = .ok (.getfield 55, 3) := by decide +kernel
theorem dX10_isFatherHolding_24 : decode cX10_isFatherHolding 24 = .ok (.invokevirtual 64, 3) := by decide +kernel
theorem dX10_isFatherHolding_27 : decode cX10_isFatherHolding 27 = .ok (.ifCond .eq 7, 3) := by decide +kernel
theorem dX10_isFatherHolding_30 : decode cX10_isFatherHolding 30 = .ok (.iconst 1, 1) := by decide +kernel
theorem dX10_isFatherHolding_31 : decode cX10_isFatherHolding 31 = .ok (.goto 4, 3) := by decide +kernel
theorem dX10_isFatherHolding_34 : decode cX10_isFatherHolding 34 = .ok (.iconst 0, 1) := by decide +kernel
theorem dX10_isFatherHolding_35 : decode cX10_isFatherHolding 35 = .ok (.ireturn, 1) := by decide +kernel
theorem dX10_handTo_0 : decode cX10_handTo 0 = .ok (.aload_n 0, 1) := by decide +kernel
theorem dX10_handTo_1 : decode cX10_handTo 1 = .ok (.iload_n 1, 1) := by decide +kernel
theorem dX10_handTo_2 : decode cX10_handTo 2 = .ok (.putfield 52, 3) := by decide +kernel
theorem dX10_handTo_5 : decode cX10_handTo 5 = .ok (.aload_n 0, 1) := by decide +kernel
theorem dX10_handTo_6 : decode cX10_handTo 6 = .ok (.iconst (-1), 1) := by decide +kernel
theorem dX10_handTo_7 : decode cX10_handTo 7 = .ok (.putfield 55, 3) := by decide +kernel
theorem dX10_handTo_10 : decode cX10_handTo 10 = .ok (.return_, 1) := by decide +kernel
theorem dX10_isTrickedBy_0 : decode cX10_isTrickedBy 0 = .ok (.aload_n 0, 1) := by decide +kernel
theorem dX10_isTrickedBy_1 : decode cX10_isTrickedBy 1 = .ok (.getfield 24, 3) := by decide +kernel
theorem dX10_isTrickedBy_4 : decode cX10_isTrickedBy 4 = .ok (.iload_n 1, 1) := by decide +kernel
theorem dX10_isTrickedBy_5 : decode cX10_isTrickedBy 5 = .ok (.invokevirtual 68, 3) := by decide +kernel
theorem dX10_isTrickedBy_8 : decode cX10_isTrickedBy 8 = .ok (.ifCond .eq 10, 3) := by decide +kernel
theorem dX10_isTrickedBy_11 : decode cX10_isTrickedBy 11 = .ok (.iload_n 2, 1) := by decide +kernel
theorem dX10_isTrickedBy_12 : decode cX10_isTrickedBy 12 = .ok (.invokestatic 72, 3) := by decide +kernel
theorem dX10_isTrickedBy_15 : decode cX10_isTrickedBy 15 = .ok (.ifCond .ne 5, 3) := by decide +kernel
theorem dX10_isTrickedBy_18 : decode cX10_isTrickedBy 18 = .ok (.iconst 0, 1) := by decide +kernel
theorem dX10_isTrickedBy_19 : decode cX10_isTrickedBy 19 = .ok (.ireturn, 1) := by decide +kernel
theorem dX10_isTrickedBy_20 : decode cX10_isTrickedBy 20 = .ok (.aload_n 0, 1) := by decide +kernel
theorem dX10_isTrickedBy_21 : decode cX10_isTrickedBy 21 = .ok (.getfield 24, 3) := by decide +kernel
theorem dX10_isTrickedBy_24 : decode cX10_isTrickedBy 24 = .ok (.getfield 75, 3) := by decide +kernel
theorem dX10_isTrickedBy_27 : decode cX10_isTrickedBy 27 = .ok (.iload_n 2, 1) := by decide +kernel
theorem dX10_isTrickedBy_28 : decode cX10_isTrickedBy 28 = .ok (.iaload, 1) := by decide +kernel
theorem dX10_isTrickedBy_29 : decode cX10_isTrickedBy 29 = .ok (.aload_n 0, 1) := by decide +kernel
theorem dX10_isTrickedBy_30 : decode cX10_isTrickedBy 30 = .ok (.getfield 24, 3) := by decide +kernel
theorem dX10_isTrickedBy_33 : decode cX10_isTrickedBy 33 = .ok (.getfield 78, 3) := by decide +kernel
theorem dX10_isTrickedBy_36 : decode cX10_isTrickedBy 36 = .ok (.iload_n 1, 1) := by decide +kernel
theorem dX10_isTrickedBy_37 : decode cX10_isTrickedBy 37 = .ok (.iaload, 1) := by decide +kernel
theorem dX10_isTrickedBy_38 : decode cX10_isTrickedBy 38 = .ok (.if_icmp .le 20, 3) := by decide +kernel
theorem dX10_isTrickedBy_41 : decode cX10_isTrickedBy 41 = .ok (.aload_n 0, 1) := by decide +kernel
theorem dX10_isTrickedBy_42 : decode cX10_isTrickedBy 42 = .ok (.getfield 21, 3) := by decide +kernel
theorem dX10_isTrickedBy_45 : decode cX10_isTrickedBy 45 = .ok (.iload_n 1, 1) := by decide +kernel
theorem dX10_isTrickedBy_46 : decode cX10_isTrickedBy 46 = .ok (.iaload, 1) := by decide +kernel
theorem dX10_isTrickedBy_47 : decode cX10_isTrickedBy 47 = .ok (.iconst 1, 1) := by decide +kernel
theorem dX10_isTrickedBy_48 : decode cX10_isTrickedBy 48 = .ok (.iload_n 2, 1) := by decide +kernel
theorem dX10_isTrickedBy_49 : decode cX10_isTrickedBy 49 = .ok (.ishl, 1) := by decide +kernel
theorem dX10_isTrickedBy_50 : decode cX10_isTrickedBy 50 = .ok (.iand, 1) := by decide +kernel
theorem dX10_isTrickedBy_51 : decode cX10_isTrickedBy 51 = .ok (.ifCond .ne 7, 3) := by decide +kernel
theorem dX10_isTrickedBy_54 : decode cX10_isTrickedBy 54 = .ok (.iconst 1, 1) := by decide +kernel
theorem dX10_isTrickedBy_55 : decode cX10_isTrickedBy 55 = .ok (.goto 4, 3) := by decide +kernel
theorem dX10_isTrickedBy_58 : decode cX10_isTrickedBy 58 = .ok (.iconst 0, 1) := by decide +kernel
theorem dX10_isTrickedBy_59 : decode cX10_isTrickedBy 59 = .ok (.ireturn, 1) := by decide +kernel
theorem dX10_isTrickedBySome_0 : decode cX10_isTrickedBySome 0 = .ok (.iconst 0, 1) := by decide +kernel
theorem dX10_isTrickedBySome_1 : decode cX10_isTrickedBySome 1 = .ok (.istore_n 2, 1) := by decide +kernel
theorem dX10_isTrickedBySome_2 : decode cX10_isTrickedBySome 2 = .ok (.iload_n 2, 1) := by decide +kernel
theorem dX10_isTrickedBySome_3 : decode cX10_isTrickedBySome 3 = .ok (.iconst 3, 1) := by decide +kernel
theorem dX10_isTrickedBySome_4 : decode cX10_isTrickedBySome 4 = .ok (.if_icmp .ge 20, 3) := by decide +kernel
theorem dX10_isTrickedBySome_7 : decode cX10_isTrickedBySome 7 = .ok (.aload_n 0, 1) := by decide +kernel
theorem dX10_isTrickedBySome_8 : decode cX10_isTrickedBySome 8 = .ok (.iload_n 1, 1) := by decide +kernel
theorem dX10_isTrickedBySome_9 : decode cX10_isTrickedBySome 9 = .ok (.iload_n 2, 1) := by decide +kernel
theorem dX10_isTrickedBySome_10 : decode cX10_isTrickedBySome 10 = .ok (.invokevirtual 81, 3) := by decide +kernel
theorem dX10_isTrickedBySome_13 : decode cX10_isTrickedBySome 13 = .ok (.ifCond .eq 5, 3) := by decide +kernel
theorem dX10_isTrickedBySome_16 : decode cX10_isTrickedBySome 16 = .ok (.iconst 1, 1) := by decide +kernel
theorem dX10_isTrickedBySome_17 : decode cX10_isTrickedBySome 17 = .ok (.ireturn, 1) := by decide +kernel
theorem dX10_isTrickedBySome_18 : decode cX10_isTrickedBySome 18 = .ok (.iinc 2 1, 3) := by decide +kernel
theorem dX10_isTrickedBySome_21 : decode cX10_isTrickedBySome 21 = .ok (.goto (-19), 3) := by decide +kernel
theorem dX10_isTrickedBySome_24 : decode cX10_isTrickedBySome 24 = .ok (.iconst 0, 1) := by decide +kernel
theorem dX10_isTrickedBySome_25 : decode cX10_isTrickedBySome 25 = .ok (.ireturn, 1) := by decide +kernel
theorem dX10_trick_0 : decode cX10_trick 0 = .ok (.aload_n 0, 1) := by decide +kernel
theorem dX10_trick_1 : decode cX10_trick 1 = .ok (.iload_n 1, 1) := by decide +kernel
theorem dX10_trick_2 : decode cX10_trick 2 = .ok (.iload_n 2, 1) := by decide +kernel
theorem dX10_trick_3 : decode cX10_trick 3 = .ok (.invokevirtual 81, 3) := by decide +kernel
theorem dX10_trick_6 : decode cX10_trick 6 = .ok (.ifCond .ne 5, 3) := by decide +kernel
theorem dX10_trick_9 : decode cX10_trick 9 = .ok (.iconst 0, 1) := by decide +kernel
theorem dX10_trick_10 : decode cX10_trick 10 = .ok (.ireturn, 1) := by decide +kernel
theorem dX10_trick_11 : decode cX10_trick 11 = .ok (.aload_n 0, 1) := by decide +kernel
theorem dX10_trick_12 : decode cX10_trick 12 = .ok (.getfield 21, 3) := by decide +kernel
theorem dX10_trick_15 : decode cX10_trick 15 = .ok (.iload_n 1, 1) := by decide +kernel
theorem dX10_trick_16 : decode cX10_trick 16 = .ok (.dup2, 1) := by decide +kernel
theorem dX10_trick_17 : decode cX10_trick 17 = .ok (.iaload, 1) := by decide +kernel
theorem dX10_trick_18 : decode cX10_trick 18 = .ok (.iconst 1, 1) := by decide +kernel
theorem dX10_trick_19 : decode cX10_trick 19 = .ok (.iload_n 2, 1) := by decide +kernel
theorem dX10_trick_20 : decode cX10_trick 20 = .ok (.ishl, 1) := by decide +kernel
theorem dX10_trick_21 : decode cX10_trick 21 = .ok (.ior, 1) := by decide +kernel
theorem dX10_trick_22 : decode cX10_trick 22 = .ok (.iastore, 1) := by decide +kernel
theorem dX10_trick_23 : decode cX10_trick 23 = .ok (.aload_n 0, 1) := by decide +kernel
theorem dX10_trick_24 : decode cX10_trick 24 = .ok (.iload_n 1, 1) := by decide +kernel
theorem dX10_trick_25 : decode cX10_trick 25 = .ok (.invokevirtual 84, 3) := by decide +kernel
theorem dX10_trick_28 : decode cX10_trick 28 = .ok (.iconst 1, 1) := by decide +kernel
theorem dX10_trick_29 : decode cX10_trick 29 = .ok (.ireturn, 1) := by decide +kernel
theorem dX10_forceOf_0 : decode cX10_forceOf 0 = .ok (.aload_n 0, 1) := by decide +kernel
theorem dX10_forceOf_1 : decode cX10_forceOf 1 = .ok (.getfield 24, 3) := by decide +kernel
theorem dX10_forceOf_4 : decode cX10_forceOf 4 = .ok (.iload_n 1, 1) := by decide +kernel
theorem dX10_forceOf_5 : decode cX10_forceOf 5 = .ok (.invokevirtual 68, 3) := by decide +kernel
theorem dX10_forceOf_8 : decode cX10_forceOf 8 = .ok (.ifCond .ne 5, 3) := by decide +kernel
theorem dX10_forceOf_11 : decode cX10_forceOf 11 = .ok (.iconst 0, 1) := by decide +kernel
theorem dX10_forceOf_12 : decode cX10_forceOf 12 = .ok (.ireturn, 1) := by decide +kernel
theorem dX10_forceOf_13 : decode cX10_forceOf 13 = .ok (.aload_n 0, 1) := by decide +kernel
theorem dX10_forceOf_14 : decode cX10_forceOf 14 = .ok (.getfield 24, 3) := by decide +kernel
theorem dX10_forceOf_17 : decode cX10_forceOf 17 = .ok (.getfield 88, 3) := by decide +kernel
theorem dX10_forceOf_20 : decode cX10_forceOf 20 = .ok (.iload_n 1, 1) := by decide +kernel
theorem dX10_forceOf_21 : decode cX10_forceOf 21 = .ok (.iaload, 1) := by decide +kernel
theorem dX10_forceOf_22 : decode cX10_forceOf 22 = .ok (.istore_n 2, 1) := by decide +kernel
theorem dX10_forceOf_23 : decode cX10_forceOf 23 = .ok (.iload_n 2, 1) := by decide +kernel
theorem dX10_forceOf_24 : decode cX10_forceOf 24 = .ok (.iconst 2, 1) := by decide +kernel
theorem dX10_forceOf_25 : decode cX10_forceOf 25 = .ok (.if_icmp .ne 26, 3) := by decide +kernel
theorem dX10_forceOf_28 : decode cX10_forceOf 28 = .ok (.aload_n 0, 1) := by decide +kernel
theorem dX10_forceOf_29 : decode cX10_forceOf 29 = .ok (.getfield 18, 3) := by decide +kernel
theorem dX10_forceOf_32 : decode cX10_forceOf 32 = .ok (.iload_n 1, 1) := by decide +kernel
theorem dX10_forceOf_33 : decode cX10_forceOf 33 = .ok (.iaload, 1) := by decide +kernel
theorem dX10_forceOf_34 : decode cX10_forceOf 34 = .ok (.ifCond .le 7, 3) := by decide +kernel
theorem dX10_forceOf_37 : decode cX10_forceOf 37 = .ok (.iconst 0, 1) := by decide +kernel
theorem dX10_forceOf_38 : decode cX10_forceOf 38 = .ok (.goto 12, 3) := by decide +kernel
theorem dX10_forceOf_41 : decode cX10_forceOf 41 = .ok (.aload_n 0, 1) := by decide +kernel
theorem dX10_forceOf_42 : decode cX10_forceOf 42 = .ok (.getfield 24, 3) := by decide +kernel
theorem dX10_forceOf_45 : decode cX10_forceOf 45 = .ok (.getfield 91, 3) := by decide +kernel
theorem dX10_forceOf_48 : decode cX10_forceOf 48 = .ok (.iload_n 1, 1) := by decide +kernel
theorem dX10_forceOf_49 : decode cX10_forceOf 49 = .ok (.iaload, 1) := by decide +kernel
theorem dX10_forceOf_50 : decode cX10_forceOf 50 = .ok (.ireturn, 1) := by decide +kernel
theorem dX10_forceOf_51 : decode cX10_forceOf 51 = .ok (.iload_n 2, 1) := by decide +kernel
theorem dX10_forceOf_52 : decode cX10_forceOf 52 = .ok (.iconst 4, 1) := by decide +kernel
theorem dX10_forceOf_53 : decode cX10_forceOf 53 = .ok (.if_icmp .ne 13, 3) := by decide +kernel
theorem dX10_forceOf_56 : decode cX10_forceOf 56 = .ok (.aload_n 0, 1) := by decide +kernel
theorem dX10_forceOf_57 : decode cX10_forceOf 57 = .ok (.getfield 46, 3) := by decide +kernel
theorem dX10_forceOf_60 : decode cX10_forceOf 60 = .ok (.iconst 1, 1) := by decide +kernel
theorem dX10_forceOf_61 : decode cX10_forceOf 61 = .ok (.if_icmp .ge 5, 3) := by decide +kernel
theorem dX10_forceOf_64 : decode cX10_forceOf 64 = .ok (.iconst 0, 1) := by decide +kernel
theorem dX10_forceOf_65 : decode cX10_forceOf 65 = .ok (.ireturn, 1) := by decide +kernel
theorem dX10_forceOf_66 : decode cX10_forceOf 66 = .ok (.iconst 0, 1) := by decide +kernel
theorem dX10_forceOf_67 : decode cX10_forceOf 67 = .ok (.aload_n 0, 1) := by decide +kernel
theorem dX10_forceOf_68 : decode cX10_forceOf 68 = .ok (.getfield 24, 3) := by decide +kernel
theorem dX10_forceOf_71 : decode cX10_forceOf 71 = .ok (.getfield 91, 3) := by decide +kernel
theorem dX10_forceOf_74 : decode cX10_forceOf 74 = .ok (.iload_n 1, 1) := by decide +kernel
theorem dX10_forceOf_75 : decode cX10_forceOf 75 = .ok (.iaload, 1) := by decide +kernel
theorem dX10_forceOf_76 : decode cX10_forceOf 76 = .ok (.aload_n 0, 1) := by decide +kernel
theorem dX10_forceOf_77 : decode cX10_forceOf 77 = .ok (.getfield 9, 3) := by decide +kernel
theorem dX10_forceOf_80 : decode cX10_forceOf 80 = .ok (.iload_n 1, 1) := by decide +kernel
theorem dX10_forceOf_81 : decode cX10_forceOf 81 = .ok (.iaload, 1) := by decide +kernel
theorem dX10_forceOf_82 : decode cX10_forceOf 82 = .ok (.iconst 2, 1) := by decide +kernel
theorem dX10_forceOf_83 : decode cX10_forceOf 83 = .ok (.idiv, 1) := by decide +kernel
theorem dX10_forceOf_84 : decode cX10_forceOf 84 = .ok (.isub, 1) := by decide +kernel
theorem dX10_forceOf_85 : decode cX10_forceOf 85 = .ok (.invokestatic 94, 3) := by decide +kernel
theorem dX10_forceOf_88 : decode cX10_forceOf 88 = .ok (.istore_n 3, 1) := by decide +kernel
theorem dX10_forceOf_89 : decode cX10_forceOf 89 = .ok (.iload_n 2, 1) := by decide +kernel
theorem dX10_forceOf_90 : decode cX10_forceOf 90 = .ok (.iconst 3, 1) := by decide +kernel
theorem dX10_forceOf_91 : decode cX10_forceOf 91 = .ok (.if_icmp .eq 8, 3) := by decide +kernel
theorem dX10_forceOf_94 : decode cX10_forceOf 94 = .ok (.iload_n 2, 1) := by decide +kernel
theorem dX10_forceOf_95 : decode cX10_forceOf 95 = .ok (.iconst 4, 1) := by decide +kernel
theorem dX10_forceOf_96 : decode cX10_forceOf 96 = .ok (.if_icmp .ne 17, 3) := by decide +kernel
theorem dX10_forceOf_99 : decode cX10_forceOf 99 = .ok (.aload_n 0, 1) := by decide +kernel
theorem dX10_forceOf_100 : decode cX10_forceOf 100 = .ok (.getfield 31, 3) := by decide +kernel
theorem dX10_forceOf_103 : decode cX10_forceOf 103 = .ok (.iconst 3, 1) := by decide +kernel
theorem dX10_forceOf_104 : decode cX10_forceOf 104 = .ok (.irem, 1) := by decide +kernel
theorem dX10_forceOf_105 : decode cX10_forceOf 105 = .ok (.iconst 2, 1) := by decide +kernel
theorem dX10_forceOf_106 : decode cX10_forceOf 106 = .ok (.if_icmp .ne 7, 3) := by decide +kernel
theorem dX10_forceOf_109 : decode cX10_forceOf 109 = .ok (.iconst 1, 1) := by decide +kernel
theorem dX10_forceOf_110 : decode cX10_forceOf 110 = .ok (.goto 4, 3) := by decide +kernel
theorem dX10_forceOf_113 : decode cX10_forceOf 113 = .ok (.iconst 0, 1) := by decide +kernel
theorem dX10_forceOf_114 : decode cX10_forceOf 114 = .ok (.istore 4, 2) := by decide +kernel
theorem dX10_forceOf_116 : decode cX10_forceOf 116 = .ok (.iload 4, 2) := by decide +kernel
theorem dX10_forceOf_118 : decode cX10_forceOf 118 = .ok (.ifCond .eq 7, 3) := by decide +kernel
theorem dX10_forceOf_121 : decode cX10_forceOf 121 = .ok (.iload_n 3, 1) := by decide +kernel
theorem dX10_forceOf_122 : decode cX10_forceOf 122 = .ok (.iconst 2, 1) := by decide +kernel
theorem dX10_forceOf_123 : decode cX10_forceOf 123 = .ok (.idiv, 1) := by decide +kernel
theorem dX10_forceOf_124 : decode cX10_forceOf 124 = .ok (.istore_n 3, 1) := by decide +kernel
theorem dX10_forceOf_125 : decode cX10_forceOf 125 = .ok (.iload_n 2, 1) := by decide +kernel
theorem dX10_forceOf_126 : decode cX10_forceOf 126 = .ok (.iconst 4, 1) := by decide +kernel
theorem dX10_forceOf_127 : decode cX10_forceOf 127 = .ok (.if_icmp .ne 9, 3) := by decide +kernel
theorem dX10_forceOf_130 : decode cX10_forceOf 130 = .ok (.iload_n 3, 1) := by decide +kernel
theorem dX10_forceOf_131 : decode cX10_forceOf 131 = .ok (.iconst 2, 1) := by decide +kernel
theorem dX10_forceOf_132 : decode cX10_forceOf 132 = .ok (.iadd, 1) := by decide +kernel
theorem dX10_forceOf_133 : decode cX10_forceOf 133 = .ok (.goto 4, 3) := by decide +kernel
theorem dX10_forceOf_136 : decode cX10_forceOf 136 = .ok (.iload_n 3, 1) := by decide +kernel
theorem dX10_forceOf_137 : decode cX10_forceOf 137 = .ok (.ireturn, 1) := by decide +kernel
theorem dX10_forceHeld_0 : decode cX10_forceHeld 0 = .ok (.aload_n 0, 1) := by decide +kernel
theorem dX10_forceHeld_1 : decode cX10_forceHeld 1 = .ok (.aload_n 0, 1) := by decide +kernel
theorem dX10_forceHeld_2 : decode cX10_forceHeld 2 = .ok (.getfield 52, 3) := by decide +kernel
theorem dX10_forceHeld_5 : decode cX10_forceHeld 5 = .ok (.invokevirtual 100, 3) := by decide +kernel
theorem dX10_forceHeld_8 : decode cX10_forceHeld 8 = .ok (.aload_n 0, 1) := by decide +kernel
theorem dX10_forceHeld_9 : decode cX10_forceHeld 9 = .ok (.aload_n 0, 1) := by decide +kernel
theorem dX10_forceHeld_10 : decode cX10_forceHeld 10 = .ok (.getfield 55, 3) := by decide +kernel
theorem dX10_forceHeld_13 : decode cX10_forceHeld 13 = .ok (.invokevirtual 100, 3) := by decide +kernel
theorem dX10_forceHeld_16 : decode cX10_forceHeld 16 = .ok (.iadd, 1) := by decide +kernel
theorem dX10_forceHeld_17 : decode cX10_forceHeld 17 = .ok (.ireturn, 1) := by decide +kernel
theorem dX10_lowBehind_0 : decode cX10_lowBehind 0 = .ok (.iconst 0, 1) := by decide +kernel
theorem dX10_lowBehind_1 : decode cX10_lowBehind 1 = .ok (.aload_n 0, 1) := by decide +kernel
theorem dX10_lowBehind_2 : decode cX10_lowBehind 2 = .ok (.getfield 24, 3) := by decide +kernel
theorem dX10_lowBehind_5 : decode cX10_lowBehind 5 = .ok (.aload_n 0, 1) := by decide +kernel
theorem dX10_lowBehind_6 : decode cX10_lowBehind 6 = .ok (.getfield 31, 3) := by decide +kernel
theorem dX10_lowBehind_9 : decode cX10_lowBehind 9 = .ok (.invokevirtual 104, 3) := by decide +kernel
theorem dX10_lowBehind_12 : decode cX10_lowBehind 12 = .ok (.iload_n 3, 1) := by decide +kernel
theorem dX10_lowBehind_13 : decode cX10_lowBehind 13 = .ok (.isub, 1) := by decide +kernel
theorem dX10_lowBehind_14 : decode cX10_lowBehind 14 = .ok (.invokestatic 94, 3) := by decide +kernel
theorem dX10_lowBehind_17 : decode cX10_lowBehind 17 = .ok (.istore 4, 2) := by decide +kernel
theorem dX10_lowBehind_19 : decode cX10_lowBehind 19 = .ok (.aload_n 0, 1) := by decide +kernel
theorem dX10_lowBehind_20 : decode cX10_lowBehind 20 = .ok (.iload_n 1, 1) := by decide +kernel
theorem dX10_lowBehind_21 : decode cX10_lowBehind 21 = .ok (.invokevirtual 100, 3) := by decide +kernel
theorem dX10_lowBehind_24 : decode cX10_lowBehind 24 = .ok (.aload_n 0, 1) := by decide +kernel
theorem dX10_lowBehind_25 : decode cX10_lowBehind 25 = .ok (.iload_n 2, 1) := by decide +kernel
theorem dX10_lowBehind_26 : decode cX10_lowBehind 26 = .ok (.invokevirtual 100, 3) := by decide +kernel
theorem dX10_lowBehind_29 : decode cX10_lowBehind 29 = .ok (.iadd, 1) := by decide +kernel
theorem dX10_lowBehind_30 : decode cX10_lowBehind 30 = .ok (.istore 5, 2) := by decide +kernel
theorem dX10_lowBehind_32 : decode cX10_lowBehind 32 = .ok (.aload_n 0, 1) := by decide +kernel
theorem dX10_lowBehind_33 : decode cX10_lowBehind 33 = .ok (.getfield 35, 3) := by decide +kernel
theorem dX10_lowBehind_36 : decode cX10_lowBehind 36 = .ok (.istore 6, 2) := by decide +kernel
theorem dX10_lowBehind_38 : decode cX10_lowBehind 38 = .ok (.iload 5, 2) := by decide +kernel
theorem dX10_lowBehind_40 : decode cX10_lowBehind 40 = .ok (.iload 4, 2) := by decide +kernel
theorem dX10_lowBehind_42 : decode cX10_lowBehind 42 = .ok (.if_icmp .ge 23, 3) := by decide +kernel
theorem dX10_lowBehind_45 : decode cX10_lowBehind 45 = .ok (.bipush 99, 2) := by decide +kernel
theorem dX10_lowBehind_47 : decode cX10_lowBehind 47 = .ok (.aload_n 0, 1) := by decide +kernel
theorem dX10_lowBehind_48 : decode cX10_lowBehind 48 = .ok (.getfield 35, 3) := by decide +kernel
theorem dX10_lowBehind_51 : decode cX10_lowBehind 51 = .ok (.iload 4, 2) := by decide +kernel
theorem dX10_lowBehind_53 : decode cX10_lowBehind 53 = .ok (.iadd, 1) := by decide +kernel
theorem dX10_lowBehind_54 : decode cX10_lowBehind 54 = .ok (.iload 5, 2) := by decide +kernel
theorem dX10_lowBehind_56 : decode cX10_lowBehind 56 = .ok (.isub, 1) := by decide +kernel
theorem dX10_lowBehind_57 : decode cX10_lowBehind 57 = .ok (.invokestatic 107, 3) := by decide +kernel
theorem dX10_lowBehind_60 : decode cX10_lowBehind 60 = .ok (.istore 6, 2) := by decide +kernel
theorem dX10_lowBehind_62 : decode cX10_lowBehind 62 = .ok (.goto 22, 3) := by decide +kernel
theorem dX10_lowBehind_65 : decode cX10_lowBehind 65 = .ok (.iload 5, 2) := by decide +kernel
theorem dX10_lowBehind_67 : decode cX10_lowBehind 67 = .ok (.iload 4, 2) := by decide +kernel
theorem dX10_lowBehind_69 : decode cX10_lowBehind 69 = .ok (.if_icmp .le 15, 3) := by decide +kernel
theorem dX10_lowBehind_72 : decode cX10_lowBehind 72 = .ok (.iconst 0, 1) := by decide +kernel
theorem dX10_lowBehind_73 : decode cX10_lowBehind 73 = .ok (.aload_n 0, 1) := by decide +kernel
theorem dX10_lowBehind_74 : decode cX10_lowBehind 74 = .ok (.getfield 35, 3) := by decide +kernel
theorem dX10_lowBehind_77 : decode cX10_lowBehind 77 = .ok (.iconst 1, 1) := by decide +kernel
theorem dX10_lowBehind_78 : decode cX10_lowBehind 78 = .ok (.isub, 1) := by decide +kernel
theorem dX10_lowBehind_79 : decode cX10_lowBehind 79 = .ok (.invokestatic 94, 3) := by decide +kernel
theorem dX10_lowBehind_82 : decode cX10_lowBehind 82 = .ok (.istore 6, 2) := by decide +kernel
theorem dX10_lowBehind_84 : decode cX10_lowBehind 84 = .ok (.iload_n 2, 1) := by decide +kernel
theorem dX10_lowBehind_85 : decode cX10_lowBehind 85 = .ok (.iconst (-1), 1) := by decide +kernel
theorem dX10_lowBehind_86 : decode cX10_lowBehind 86 = .ok (.if_icmp .ne 31, 3) := by decide +kernel
theorem dX10_lowBehind_89 : decode cX10_lowBehind 89 = .ok (.aload_n 0, 1) := by decide +kernel
theorem dX10_lowBehind_90 : decode cX10_lowBehind 90 = .ok (.getfield 24, 3) := by decide +kernel
theorem dX10_lowBehind_93 : decode cX10_lowBehind 93 = .ok (.iload_n 1, 1) := by decide +kernel
theorem dX10_lowBehind_94 : decode cX10_lowBehind 94 = .ok (.invokevirtual 68, 3) := by decide +kernel
theorem dX10_lowBehind_97 : decode cX10_lowBehind 97 = .ok (.ifCond .eq 20, 3) := by decide +kernel
theorem dX10_lowBehind_100 : decode cX10_lowBehind 100 = .ok (.aload_n 0, 1) := by decide +kernel
theorem dX10_lowBehind_101 : decode cX10_lowBehind 101 = .ok (.getfield 24, 3) := by decide +kernel
theorem dX10_lowBehind_104 : decode cX10_lowBehind 104 = .ok (.getfield 88, 3) := by decide +kernel
theorem dX10_lowBehind_107 : decode cX10_lowBehind 107 = .ok (.iload_n 1, 1) := by decide +kernel
theorem dX10_lowBehind_108 : decode cX10_lowBehind 108 = .ok (.iaload, 1) := by decide +kernel
theorem dX10_lowBehind_109 : decode cX10_lowBehind 109 = .ok (.iconst 1, 1) := by decide +kernel
theorem dX10_lowBehind_110 : decode cX10_lowBehind 110 = .ok (.if_icmp .ne 7, 3) := by decide +kernel
theorem dX10_lowBehind_113 : decode cX10_lowBehind 113 = .ok (.iconst 1, 1) := by decide +kernel
theorem dX10_lowBehind_114 : decode cX10_lowBehind 114 = .ok (.goto 4, 3) := by decide +kernel
theorem dX10_lowBehind_117 : decode cX10_lowBehind 117 = .ok (.iconst 0, 1) := by decide +kernel
theorem dX10_lowBehind_118 : decode cX10_lowBehind 118 = .ok (.istore 7, 2) := by decide +kernel
theorem dX10_lowBehind_120 : decode cX10_lowBehind 120 = .ok (.iload 7, 2) := by decide +kernel
theorem dX10_lowBehind_122 : decode cX10_lowBehind 122 = .ok (.ifCond .eq 12, 3) := by decide +kernel
theorem dX10_lowBehind_125 : decode cX10_lowBehind 125 = .ok (.iconst 2, 1) := by decide +kernel
theorem dX10_lowBehind_126 : decode cX10_lowBehind 126 = .ok (.iload 6, 2) := by decide +kernel
theorem dX10_lowBehind_128 : decode cX10_lowBehind 128 = .ok (.invokestatic 94, 3) := by decide +kernel
theorem dX10_lowBehind_131 : decode cX10_lowBehind 131 = .ok (.goto 5, 3) := by decide +kernel
theorem dX10_lowBehind_134 : decode cX10_lowBehind 134 = .ok (.iload 6, 2) := by decide +kernel
theorem dX10_lowBehind_136 : decode cX10_lowBehind 136 = .ok (.ireturn, 1) := by decide +kernel
theorem dX10_passHour_0 : decode cX10_passHour 0 = .ok (.aload_n 0, 1) := by decide +kernel
theorem dX10_passHour_1 : decode cX10_passHour 1 = .ok (.aload_n 0, 1) := by decide +kernel
theorem dX10_passHour_2 : decode cX10_passHour 2 = .ok (.aload_n 0, 1) := by decide +kernel
theorem dX10_passHour_3 : decode cX10_passHour 3 = .ok (.getfield 52, 3) := by decide +kernel
theorem dX10_passHour_6 : decode cX10_passHour 6 = .ok (.aload_n 0, 1) := by decide +kernel
theorem dX10_passHour_7 : decode cX10_passHour 7 = .ok (.getfield 55, 3) := by decide +kernel
theorem dX10_passHour_10 : decode cX10_passHour 10 = .ok (.iload_n 1, 1) := by decide +kernel
theorem dX10_passHour_11 : decode cX10_passHour 11 = .ok (.invokevirtual 110, 3) := by decide +kernel
theorem dX10_passHour_14 : decode cX10_passHour 14 = .ok (.invokevirtual 114, 3) := by decide +kernel
end
section
theorem dX10_passHour_17 : decode cX10_passHour 17 = .ok (.return_, 1) := by decide +kernel
theorem dX10_endHour_0 : decode cX10_endHour 0 = .ok (.aload_n 0, 1) := by decide +kernel
theorem dX10_endHour_1 : decode cX10_endHour 1 = .ok (.iload_n 1, 1) := by decide +kernel
theorem dX10_endHour_2 : decode cX10_endHour 2 = .ok (.putfield 35, 3) := by decide +kernel
theorem dX10_endHour_5 : decode cX10_endHour 5 = .ok (.aload_n 0, 1) := by decide +kernel
theorem dX10_endHour_6 : decode cX10_endHour 6 = .ok (.ldc 117, 2) := by decide +kernel
theorem dX10_endHour_8 : decode cX10_endHour 8 = .ok (.aload_n 0, 1) := by decide +kernel
theorem dX10_endHour_9 : decode cX10_endHour 9 = .ok (.getfield 38, 3) := by decide +kernel
theorem dX10_endHour_12 : decode cX10_endHour 12 = .ok (.aload_n 0, 1) := by decide +kernel
theorem dX10_endHour_13 : decode cX10_endHour 13 = .ok (.getfield 35, 3) := by decide +kernel
theorem dX10_endHour_16 : decode cX10_endHour 16 = .ok (.iadd, 1) := by decide +kernel
theorem dX10_endHour_17 : decode cX10_endHour 17 = .ok (.invokestatic 107, 3) := by decide +kernel
theorem dX10_endHour_20 : decode cX10_endHour 20 = .ok (.putfield 38, 3) := by decide +kernel
theorem dX10_endHour_23 : decode cX10_endHour 23 = .ok (.iconst 0, 1) := by decide +kernel
theorem dX10_endHour_24 : decode cX10_endHour 24 = .ok (.istore_n 2, 1) := by decide +kernel
theorem dX10_endHour_25 : decode cX10_endHour 25 = .ok (.iload_n 2, 1) := by decide +kernel
theorem dX10_endHour_26 : decode cX10_endHour 26 = .ok (.aload_n 0, 1) := by decide +kernel
theorem dX10_endHour_27 : decode cX10_endHour 27 = .ok (.getfield 24, 3) := by decide +kernel
theorem dX10_endHour_30 : decode cX10_endHour 30 = .ok (.getfield 49, 3) := by decide +kernel
theorem dX10_endHour_33 : decode cX10_endHour 33 = .ok (.if_icmp .ge 30, 3) := by decide +kernel
theorem dX10_endHour_36 : decode cX10_endHour 36 = .ok (.aload_n 0, 1) := by decide +kernel
theorem dX10_endHour_37 : decode cX10_endHour 37 = .ok (.iload_n 2, 1) := by decide +kernel
theorem dX10_endHour_38 : decode cX10_endHour 38 = .ok (.invokevirtual 118, 3) := by decide +kernel
theorem dX10_endHour_41 : decode cX10_endHour 41 = .ok (.ifCond .eq 11, 3) := by decide +kernel
theorem dX10_endHour_44 : decode cX10_endHour 44 = .ok (.aload_n 0, 1) := by decide +kernel
theorem dX10_endHour_45 : decode cX10_endHour 45 = .ok (.iload_n 2, 1) := by decide +kernel
theorem dX10_endHour_46 : decode cX10_endHour 46 = .ok (.invokevirtual 121, 3) := by decide +kernel
theorem dX10_endHour_49 : decode cX10_endHour 49 = .ok (.goto 8, 3) := by decide +kernel
theorem dX10_endHour_52 : decode cX10_endHour 52 = .ok (.aload_n 0, 1) := by decide +kernel
theorem dX10_endHour_53 : decode cX10_endHour 53 = .ok (.iload_n 2, 1) := by decide +kernel
theorem dX10_endHour_54 : decode cX10_endHour 54 = .ok (.invokevirtual 124, 3) := by decide +kernel
theorem dX10_endHour_57 : decode cX10_endHour 57 = .ok (.iinc 2 1, 3) := by decide +kernel
theorem dX10_endHour_60 : decode cX10_endHour 60 = .ok (.goto (-35), 3) := by decide +kernel
theorem dX10_endHour_63 : decode cX10_endHour 63 = .ok (.aload_n 0, 1) := by decide +kernel
theorem dX10_endHour_64 : decode cX10_endHour 64 = .ok (.dup, 1) := by decide +kernel
theorem dX10_endHour_65 : decode cX10_endHour 65 = .ok (.getfield 31, 3) := by decide +kernel
theorem dX10_endHour_68 : decode cX10_endHour 68 = .ok (.iconst 1, 1) := by decide +kernel
theorem dX10_endHour_69 : decode cX10_endHour 69 = .ok (.iadd, 1) := by decide +kernel
theorem dX10_endHour_70 : decode cX10_endHour 70 = .ok (.putfield 31, 3) := by decide +kernel
theorem dX10_endHour_73 : decode cX10_endHour 73 = .ok (.return_, 1) := by decide +kernel
theorem dX10_bear_0 : decode cX10_bear 0 = .ok (.aload_n 0, 1) := by decide +kernel
theorem dX10_bear_1 : decode cX10_bear 1 = .ok (.getfield 9, 3) := by decide +kernel
theorem dX10_bear_4 : decode cX10_bear 4 = .ok (.iload_n 1, 1) := by decide +kernel
theorem dX10_bear_5 : decode cX10_bear 5 = .ok (.bipush 20, 2) := by decide +kernel
theorem dX10_bear_7 : decode cX10_bear 7 = .ok (.aload_n 0, 1) := by decide +kernel
theorem dX10_bear_8 : decode cX10_bear 8 = .ok (.getfield 9, 3) := by decide +kernel
theorem dX10_bear_11 : decode cX10_bear 11 = .ok (.iload_n 1, 1) := by decide +kernel
theorem dX10_bear_12 : decode cX10_bear 12 = .ok (.iaload, 1) := by decide +kernel
theorem dX10_bear_13 : decode cX10_bear 13 = .ok (.iconst 1, 1) := by decide +kernel
theorem dX10_bear_14 : decode cX10_bear 14 = .ok (.iadd, 1) := by decide +kernel
theorem dX10_bear_15 : decode cX10_bear 15 = .ok (.invokestatic 107, 3) := by decide +kernel
theorem dX10_bear_18 : decode cX10_bear 18 = .ok (.iastore, 1) := by decide +kernel
theorem dX10_bear_19 : decode cX10_bear 19 = .ok (.aload_n 0, 1) := by decide +kernel
theorem dX10_bear_20 : decode cX10_bear 20 = .ok (.getfield 15, 3) := by decide +kernel
theorem dX10_bear_23 : decode cX10_bear 23 = .ok (.iload_n 1, 1) := by decide +kernel
theorem dX10_bear_24 : decode cX10_bear 24 = .ok (.dup2, 1) := by decide +kernel
theorem dX10_bear_25 : decode cX10_bear 25 = .ok (.iaload, 1) := by decide +kernel
theorem dX10_bear_26 : decode cX10_bear 26 = .ok (.iconst 1, 1) := by decide +kernel
theorem dX10_bear_27 : decode cX10_bear 27 = .ok (.iadd, 1) := by decide +kernel
theorem dX10_bear_28 : decode cX10_bear 28 = .ok (.iastore, 1) := by decide +kernel
theorem dX10_bear_29 : decode cX10_bear 29 = .ok (.aload_n 0, 1) := by decide +kernel
theorem dX10_bear_30 : decode cX10_bear 30 = .ok (.getfield 18, 3) := by decide +kernel
theorem dX10_bear_33 : decode cX10_bear 33 = .ok (.iload_n 1, 1) := by decide +kernel
theorem dX10_bear_34 : decode cX10_bear 34 = .ok (.dup2, 1) := by decide +kernel
theorem dX10_bear_35 : decode cX10_bear 35 = .ok (.iaload, 1) := by decide +kernel
theorem dX10_bear_36 : decode cX10_bear 36 = .ok (.iconst 1, 1) := by decide +kernel
theorem dX10_bear_37 : decode cX10_bear 37 = .ok (.iadd, 1) := by decide +kernel
theorem dX10_bear_38 : decode cX10_bear 38 = .ok (.iastore, 1) := by decide +kernel
theorem dX10_bear_39 : decode cX10_bear 39 = .ok (.aload_n 0, 1) := by decide +kernel
theorem dX10_bear_40 : decode cX10_bear 40 = .ok (.getfield 24, 3) := by decide +kernel
theorem dX10_bear_43 : decode cX10_bear 43 = .ok (.getfield 88, 3) := by decide +kernel
theorem dX10_bear_46 : decode cX10_bear 46 = .ok (.iload_n 1, 1) := by decide +kernel
theorem dX10_bear_47 : decode cX10_bear 47 = .ok (.iaload, 1) := by decide +kernel
theorem dX10_bear_48 : decode cX10_bear 48 = .ok (.iconst 4, 1) := by decide +kernel
theorem dX10_bear_49 : decode cX10_bear 49 = .ok (.if_icmp .ne 20, 3) := by decide +kernel
theorem dX10_bear_52 : decode cX10_bear 52 = .ok (.aload_n 0, 1) := by decide +kernel
theorem dX10_bear_53 : decode cX10_bear 53 = .ok (.getfield 46, 3) := by decide +kernel
theorem dX10_bear_56 : decode cX10_bear 56 = .ok (.ifCond .le 13, 3) := by decide +kernel
theorem dX10_bear_59 : decode cX10_bear 59 = .ok (.aload_n 0, 1) := by decide +kernel
theorem dX10_bear_60 : decode cX10_bear 60 = .ok (.dup, 1) := by decide +kernel
theorem dX10_bear_61 : decode cX10_bear 61 = .ok (.getfield 46, 3) := by decide +kernel
theorem dX10_bear_64 : decode cX10_bear 64 = .ok (.iconst 1, 1) := by decide +kernel
theorem dX10_bear_65 : decode cX10_bear 65 = .ok (.isub, 1) := by decide +kernel
theorem dX10_bear_66 : decode cX10_bear 66 = .ok (.putfield 46, 3) := by decide +kernel
theorem dX10_bear_69 : decode cX10_bear 69 = .ok (.return_, 1) := by decide +kernel
theorem dX10_rest_0 : decode cX10_rest 0 = .ok (.aload_n 0, 1) := by decide +kernel
theorem dX10_rest_1 : decode cX10_rest 1 = .ok (.getfield 9, 3) := by decide +kernel
theorem dX10_rest_4 : decode cX10_rest 4 = .ok (.iload_n 1, 1) := by decide +kernel
theorem dX10_rest_5 : decode cX10_rest 5 = .ok (.iconst 0, 1) := by decide +kernel
theorem dX10_rest_6 : decode cX10_rest 6 = .ok (.aload_n 0, 1) := by decide +kernel
theorem dX10_rest_7 : decode cX10_rest 7 = .ok (.getfield 9, 3) := by decide +kernel
theorem dX10_rest_10 : decode cX10_rest 10 = .ok (.iload_n 1, 1) := by decide +kernel
theorem dX10_rest_11 : decode cX10_rest 11 = .ok (.iaload, 1) := by decide +kernel
theorem dX10_rest_12 : decode cX10_rest 12 = .ok (.iconst 1, 1) := by decide +kernel
theorem dX10_rest_13 : decode cX10_rest 13 = .ok (.isub, 1) := by decide +kernel
theorem dX10_rest_14 : decode cX10_rest 14 = .ok (.invokestatic 94, 3) := by decide +kernel
theorem dX10_rest_17 : decode cX10_rest 17 = .ok (.iastore, 1) := by decide +kernel
theorem dX10_rest_18 : decode cX10_rest 18 = .ok (.aload_n 0, 1) := by decide +kernel
theorem dX10_rest_19 : decode cX10_rest 19 = .ok (.getfield 18, 3) := by decide +kernel
theorem dX10_rest_22 : decode cX10_rest 22 = .ok (.iload_n 1, 1) := by decide +kernel
theorem dX10_rest_23 : decode cX10_rest 23 = .ok (.iconst 0, 1) := by decide +kernel
theorem dX10_rest_24 : decode cX10_rest 24 = .ok (.iastore, 1) := by decide +kernel
theorem dX10_rest_25 : decode cX10_rest 25 = .ok (.return_, 1) := by decide +kernel
theorem dX11_init_0 : decode cX11_init 0 = .ok (.aload_n 0, 1) := by decide +kernel
theorem dX11_init_1 : decode cX11_init 1 = .ok (.invokespecial 1, 3) := by decide +kernel
theorem dX11_init_4 : decode cX11_init 4 = .ok (.new 7, 3) := by decide +kernel
theorem dX11_init_7 : decode cX11_init 7 = .ok (.dup, 1) := by decide +kernel
theorem dX11_init_8 : decode cX11_init 8 = .ok (.invokespecial 9, 3) := by decide +kernel
theorem dX11_init_11 : decode cX11_init 11 = .ok (.astore_n 1, 1) := by decide +kernel
theorem dX11_init_12 : decode cX11_init 12 = .ok (.iconst 5, 1) := by decide +kernel
theorem dX11_init_13 : decode cX11_init 13 = .ok (.anewarray 12, 3) := by decide +kernel
theorem dX11_init_16 : decode cX11_init 16 = .ok (.astore_n 2, 1) := by decide +kernel
theorem dX11_init_17 : decode cX11_init 17 = .ok (.iconst 0, 1) := by decide +kernel
theorem dX11_init_18 : decode cX11_init 18 = .ok (.istore_n 3, 1) := by decide +kernel
theorem dX11_init_19 : decode cX11_init 19 = .ok (.iload_n 3, 1) := by decide +kernel
theorem dX11_init_20 : decode cX11_init 20 = .ok (.iconst 5, 1) := by decide +kernel
theorem dX11_init_21 : decode cX11_init 21 = .ok (.if_icmp .ge 20, 3) := by decide +kernel
theorem dX11_init_24 : decode cX11_init 24 = .ok (.aload_n 2, 1) := by decide +kernel
theorem dX11_init_25 : decode cX11_init 25 = .ok (.iload_n 3, 1) := by decide +kernel
theorem dX11_init_26 : decode cX11_init 26 = .ok (.new 12, 3) := by decide +kernel
theorem dX11_init_29 : decode cX11_init 29 = .ok (.dup, 1) := by decide +kernel
theorem dX11_init_30 : decode cX11_init 30 = .ok (.aload_n 1, 1) := by decide +kernel
theorem dX11_init_31 : decode cX11_init 31 = .ok (.invokespecial 14, 3) := by decide +kernel
theorem dX11_init_34 : decode cX11_init 34 = .ok (.aastore, 1) := by decide +kernel
theorem dX11_init_35 : decode cX11_init 35 = .ok (.iinc 3 1, 3) := by decide +kernel
theorem dX11_init_38 : decode cX11_init 38 = .ok (.goto (-19), 3) := by decide +kernel
theorem dX11_init_41 : decode cX11_init 41 = .ok (.aload_n 0, 1) := by decide +kernel
theorem dX11_init_42 : decode cX11_init 42 = .ok (.aload_n 1, 1) := by decide +kernel
theorem dX11_init_43 : decode cX11_init 43 = .ok (.putfield 17, 3) := by decide +kernel
theorem dX11_init_46 : decode cX11_init 46 = .ok (.aload_n 0, 1) := by decide +kernel
theorem dX11_init_47 : decode cX11_init 47 = .ok (.new 21, 3) := by decide +kernel
theorem dX11_init_50 : decode cX11_init 50 = .ok (.dup, 1) := by decide +kernel
theorem dX11_init_51 : decode cX11_init 51 = .ok (.invokespecial 23, 3) := by decide +kernel
theorem dX11_init_54 : decode cX11_init 54 = .ok (.putfield 24, 3) := by decide +kernel
theorem dX11_init_57 : decode cX11_init 57 = .ok (.aload_n 0, 1) := by decide +kernel
theorem dX11_init_58 : decode cX11_init 58 = .ok (.new 12, 3) := by decide +kernel
theorem dX11_init_61 : decode cX11_init 61 = .ok (.dup, 1) := by decide +kernel
theorem dX11_init_62 : decode cX11_init 62 = .ok (.aload_n 1, 1) := by decide +kernel
theorem dX11_init_63 : decode cX11_init 63 = .ok (.invokespecial 14, 3) := by decide +kernel
theorem dX11_init_66 : decode cX11_init 66 = .ok (.putfield 28, 3) := by decide +kernel
theorem dX11_init_69 : decode cX11_init 69 = .ok (.aload_n 0, 1) := by decide +kernel
theorem dX11_init_70 : decode cX11_init 70 = .ok (.new 12, 3) := by decide +kernel
theorem dX11_init_73 : decode cX11_init 73 = .ok (.dup, 1) := by decide +kernel
theorem dX11_init_74 : decode cX11_init 74 = .ok (.aload_n 1, 1) := by decide +kernel
theorem dX11_init_75 : decode cX11_init 75 = .ok (.invokespecial 14, 3) := by decide +kernel
theorem dX11_init_78 : decode cX11_init 78 = .ok (.putfield 32, 3) := by decide +kernel
theorem dX11_init_81 : decode cX11_init 81 = .ok (.aload_n 0, 1) := by decide +kernel
theorem dX11_init_82 : decode cX11_init 82 = .ok (.new 35, 3) := by decide +kernel
theorem dX11_init_85 : decode cX11_init 85 = .ok (.dup, 1) := by decide +kernel
theorem dX11_init_86 : decode cX11_init 86 = .ok (.aload_n 1, 1) := by decide +kernel
theorem dX11_init_87 : decode cX11_init 87 = .ok (.invokespecial 37, 3) := by decide +kernel
theorem dX11_init_90 : decode cX11_init 90 = .ok (.putfield 38, 3) := by decide +kernel
theorem dX11_init_93 : decode cX11_init 93 = .ok (.aload_n 0, 1) := by decide +kernel
theorem dX11_init_94 : decode cX11_init 94 = .ok (.iconst 2, 1) := by decide +kernel
theorem dX11_init_95 : decode cX11_init 95 = .ok (.anewarray 12, 3) := by decide +kernel
theorem dX11_init_98 : decode cX11_init 98 = .ok (.putfield 42, 3) := by decide +kernel
theorem dX11_init_101 : decode cX11_init 101 = .ok (.iconst 0, 1) := by decide +kernel
theorem dX11_init_102 : decode cX11_init 102 = .ok (.istore_n 3, 1) := by decide +kernel
theorem dX11_init_103 : decode cX11_init 103 = .ok (.iload_n 3, 1) := by decide +kernel
theorem dX11_init_104 : decode cX11_init 104 = .ok (.iconst 2, 1) := by decide +kernel
theorem dX11_init_105 : decode cX11_init 105 = .ok (.if_icmp .ge 23, 3) := by decide +kernel
theorem dX11_init_108 : decode cX11_init 108 = .ok (.aload_n 0, 1) := by decide +kernel
theorem dX11_init_109 : decode cX11_init 109 = .ok (.getfield 42, 3) := by decide +kernel
theorem dX11_init_112 : decode cX11_init 112 = .ok (.iload_n 3, 1) := by decide +kernel
theorem dX11_init_113 : decode cX11_init 113 = .ok (.new 12, 3) := by decide +kernel
theorem dX11_init_116 : decode cX11_init 116 = .ok (.dup, 1) := by decide +kernel
theorem dX11_init_117 : decode cX11_init 117 = .ok (.aload_n 1, 1) := by decide +kernel
theorem dX11_init_118 : decode cX11_init 118 = .ok (.invokespecial 14, 3) := by decide +kernel
theorem dX11_init_121 : decode cX11_init 121 = .ok (.aastore, 1) := by decide +kernel
theorem dX11_init_122 : decode cX11_init 122 = .ok (.iinc 3 1, 3) := by decide +kernel
theorem dX11_init_125 : decode cX11_init 125 = .ok (.goto (-22), 3) := by decide +kernel
theorem dX11_init_128 : decode cX11_init 128 = .ok (.aload_n 0, 1) := by decide +kernel
theorem dX11_init_129 : decode cX11_init 129 = .ok (.iconst 2, 1) := by decide +kernel
theorem dX11_init_130 : decode cX11_init 130 = .ok (.newarray .boolean, 2) := by decide +kernel
theorem dX11_init_132 : decode cX11_init 132 = .ok (.putfield 46, 3) := by decide +kernel
theorem dX11_init_135 : decode cX11_init 135 = .ok (.aload_n 0, 1) := by decide +kernel
theorem dX11_init_136 : decode cX11_init 136 = .ok (.iconst 2, 1) := by decide +kernel
theorem dX11_init_137 : decode cX11_init 137 = .ok (.newarray .int, 2) := by decide +kernel
theorem dX11_init_139 : decode cX11_init 139 = .ok (.putfield 50, 3) := by decide +kernel
theorem dX11_init_142 : decode cX11_init 142 = .ok (.aload_n 0, 1) := by decide +kernel
theorem dX11_init_143 : decode cX11_init 143 = .ok (.new 54, 3) := by decide +kernel
theorem dX11_init_146 : decode cX11_init 146 = .ok (.dup, 1) := by decide +kernel
theorem dX11_init_147 : decode cX11_init 147 = .ok (.aload_n 1, 1) := by decide +kernel
theorem dX11_init_148 : decode cX11_init 148 = .ok (.aload_n 2, 1) := by decide +kernel
theorem dX11_init_149 : decode cX11_init 149 = .ok (.invokespecial 56, 3) := by decide +kernel
theorem dX11_init_152 : decode cX11_init 152 = .ok (.putfield 59, 3) := by decide +kernel
theorem dX11_init_155 : decode cX11_init 155 = .ok (.aload_n 0, 1) := by decide +kernel
theorem dX11_init_156 : decode cX11_init 156 = .ok (.new 63, 3) := by decide +kernel
theorem dX11_init_159 : decode cX11_init 159 = .ok (.dup, 1) := by decide +kernel
theorem dX11_init_160 : decode cX11_init 160 = .ok (.aload_n 1, 1) := by decide +kernel
theorem dX11_init_161 : decode cX11_init 161 = .ok (.aload_n 2, 1) := by decide +kernel
theorem dX11_init_162 : decode cX11_init 162 = .ok (.invokespecial 65, 3) := by decide +kernel
theorem dX11_init_165 : decode cX11_init 165 = .ok (.putfield 66, 3) := by decide +kernel
theorem dX11_init_168 : decode cX11_init 168 = .ok (.aload_n 0, 1) := by decide +kernel
theorem dX11_init_169 : decode cX11_init 169 = .ok (.new 70, 3) := by decide +kernel
theorem dX11_init_172 : decode cX11_init 172 = .ok (.dup, 1) := by decide +kernel
theorem dX11_init_173 : decode cX11_init 173 = .ok (.aload_n 1, 1) := by decide +kernel
theorem dX11_init_174 : decode cX11_init 174 = .ok (.invokespecial 72, 3) := by decide +kernel
theorem dX11_init_177 : decode cX11_init 177 = .ok (.putfield 73, 3) := by decide +kernel
theorem dX11_init_180 : decode cX11_init 180 = .ok (.aload_n 0, 1) := by decide +kernel
theorem dX11_init_181 : decode cX11_init 181 = .ok (.new 77, 3) := by decide +kernel
theorem dX11_init_184 : decode cX11_init 184 = .ok (.dup, 1) := by decide +kernel
theorem dX11_init_185 : decode cX11_init 185 = .ok (.invokespecial 79, 3) := by decide +kernel
theorem dX11_init_188 : decode cX11_init 188 = .ok (.putfield 80, 3) := by decide +kernel
theorem dX11_init_191 : decode cX11_init 191 = .ok (.aload_n 0, 1) := by decide +kernel
theorem dX11_init_192 : decode cX11_init 192 = .ok (.new 84, 3) := by decide +kernel
theorem dX11_init_195 : decode cX11_init 195 = .ok (.dup, 1) := by decide +kernel
theorem dX11_init_196 : decode cX11_init 196 = .ok (.aload_n 1, 1) := by decide +kernel
theorem dX11_init_197 : decode cX11_init 197 = .ok (.invokespecial 86, 3) := by decide +kernel
theorem dX11_init_200 : decode cX11_init 200 = .ok (.putfield 87, 3) := by decide +kernel
theorem dX11_init_203 : decode cX11_init 203 = .ok (.aload_n 0, 1) := by decide +kernel
theorem dX11_init_204 : decode cX11_init 204 = .ok (.new 91, 3) := by decide +kernel
theorem dX11_init_207 : decode cX11_init 207 = .ok (.dup, 1) := by decide +kernel
theorem dX11_init_208 : decode cX11_init 208 = .ok (.invokespecial 93, 3) := by decide +kernel
theorem dX11_init_211 : decode cX11_init 211 = .ok (.putfield 94, 3) := by decide +kernel
theorem dX11_init_214 : decode cX11_init 214 = .ok (.aload_n 0, 1) := by decide +kernel
theorem dX11_init_215 : decode cX11_init 215 = .ok (.iconst (-1), 1) := by decide +kernel
theorem dX11_init_216 : decode cX11_init 216 = .ok (.putfield 98, 3) := by decide +kernel
theorem dX11_init_219 : decode cX11_init 219 = .ok (.aload_n 0, 1) := by decide +kernel
theorem dX11_init_220 : decode cX11_init 220 = .ok (.iconst 0, 1) := by decide +kernel
theorem dX11_init_221 : decode cX11_init 221 = .ok (.putfield 102, 3) := by decide +kernel
theorem dX11_init_224 : decode cX11_init 224 = .ok (.return_, 1) := by decide +kernel
theorem dX11_feed_0 : decode cX11_feed 0 = .ok (.iload_n 1, 1) := by decide +kernel
theorem dX11_feed_1 : decode cX11_feed 1 = .ok (.ifCond .lt 10, 3) := by decide +kernel
theorem dX11_feed_4 : decode cX11_feed 4 = .ok (.iload_n 1, 1) := by decide +kernel
theorem dX11_feed_5 : decode cX11_feed 5 = .ok (.sipush 255, 3) := by decide +kernel
theorem dX11_feed_8 : decode cX11_feed 8 = .ok (.if_icmp .le 6, 3) := by decide +kernel
theorem dX11_feed_11 : decode cX11_feed 11 = .ok (.ldc 105, 2) := by decide +kernel
theorem dX11_feed_13 : decode cX11_feed 13 = .ok (.ireturn, 1) := by decide +kernel
theorem dX11_feed_14 : decode cX11_feed 14 = .ok (.aload_n 0, 1) := by decide +kernel
theorem dX11_feed_15 : decode cX11_feed 15 = .ok (.getfield 24, 3) := by decide +kernel
theorem dX11_feed_18 : decode cX11_feed 18 = .ok (.getfield 106, 3) := by decide +kernel
theorem dX11_feed_21 : decode cX11_feed 21 = .ok (.sipush 250, 3) := by decide +kernel
theorem dX11_feed_24 : decode cX11_feed 24 = .ok (.if_icmp .lt 6, 3) := by decide +kernel
theorem dX11_feed_27 : decode cX11_feed 27 = .ok (.ldc 109, 2) := by decide +kernel
theorem dX11_feed_29 : decode cX11_feed 29 = .ok (.ireturn, 1) := by decide +kernel
theorem dX11_feed_30 : decode cX11_feed 30 = .ok (.aload_n 0, 1) := by decide +kernel
theorem dX11_feed_31 : decode cX11_feed 31 = .ok (.getfield 24, 3) := by decide +kernel
theorem dX11_feed_34 : decode cX11_feed 34 = .ok (.iload_n 1, 1) := by decide +kernel
theorem dX11_feed_35 : decode cX11_feed 35 = .ok (.invokevirtual 110, 3) := by decide +kernel
theorem dX11_feed_38 : decode cX11_feed 38 = .ok (.ireturn, 1) := by decide +kernel
theorem dX11_edge_0 : decode cX11_edge 0 = .ok (.aload_n 0, 1) := by decide +kernel
theorem dX11_edge_1 : decode cX11_edge 1 = .ok (.getfield 24, 3) := by decide +kernel
theorem dX11_edge_4 : decode cX11_edge 4 = .ok (.invokevirtual 114, 3) := by decide +kernel
theorem dX11_edge_7 : decode cX11_edge 7 = .ok (.aload_n 0, 1) := by decide +kernel
theorem dX11_edge_8 : decode cX11_edge 8 = .ok (.aload_n 0, 1) := by decide +kernel
theorem dX11_edge_9 : decode cX11_edge 9 = .ok (.getfield 24, 3) := by decide +kernel
theorem dX11_edge_12 : decode cX11_edge 12 = .ok (.getfield 117, 3) := by decide +kernel
theorem dX11_edge_15 : decode cX11_edge 15 = .ok (.putfield 98, 3) := by decide +kernel
theorem dX11_edge_18 : decode cX11_edge 18 = .ok (.aload_n 0, 1) := by decide +kernel
theorem dX11_edge_19 : decode cX11_edge 19 = .ok (.getfield 24, 3) := by decide +kernel
theorem dX11_edge_22 : decode cX11_edge 22 = .ok (.getfield 120, 3) := by decide +kernel
theorem dX11_edge_25 : decode cX11_edge 25 = .ok (.ifCond .eq 14, 3) := by decide +kernel
theorem dX11_edge_28 : decode cX11_edge 28 = .ok (.bipush (-10), 2) := by decide +kernel
theorem dX11_edge_30 : decode cX11_edge 30 = .ok (.aload_n 0, 1) := by decide +kernel
theorem dX11_edge_31 : decode cX11_edge 31 = .ok (.getfield 24, 3) := by decide +kernel
theorem dX11_edge_34 : decode cX11_edge 34 = .ok (.getfield 120, 3) := by decide +kernel
theorem dX11_edge_37 : decode cX11_edge 37 = .ok (.isub, 1) := by decide +kernel
theorem dX11_edge_38 : decode cX11_edge 38 = .ok (.ireturn, 1) := by decide +kernel
theorem dX11_edge_39 : decode cX11_edge 39 = .ok (.aload_n 0, 1) := by decide +kernel
theorem dX11_edge_40 : decode cX11_edge 40 = .ok (.getfield 17, 3) := by decide +kernel
theorem dX11_edge_43 : decode cX11_edge 43 = .ok (.aload_n 0, 1) := by decide +kernel
theorem dX11_edge_44 : decode cX11_edge 44 = .ok (.getfield 24, 3) := by decide +kernel
theorem dX11_edge_47 : decode cX11_edge 47 = .ok (.getfield 123, 3) := by decide +kernel
theorem dX11_edge_50 : decode cX11_edge 50 = .ok (.invokevirtual 126, 3) := by decide +kernel
theorem dX11_edge_53 : decode cX11_edge 53 = .ok (.aload_n 0, 1) := by decide +kernel
theorem dX11_edge_54 : decode cX11_edge 54 = .ok (.getfield 28, 3) := by decide +kernel
theorem dX11_edge_57 : decode cX11_edge 57 = .ok (.invokevirtual 129, 3) := by decide +kernel
theorem dX11_edge_60 : decode cX11_edge 60 = .ok (.aload_n 0, 1) := by decide +kernel
theorem dX11_edge_61 : decode cX11_edge 61 = .ok (.getfield 38, 3) := by decide +kernel
theorem dX11_edge_64 : decode cX11_edge 64 = .ok (.invokevirtual 132, 3) := by decide +kernel
theorem dX11_edge_67 : decode cX11_edge 67 = .ok (.aload_n 0, 1) := by decide +kernel
theorem dX11_edge_68 : decode cX11_edge 68 = .ok (.getfield 66, 3) := by decide +kernel
theorem dX11_edge_71 : decode cX11_edge 71 = .ok (.invokevirtual 135, 3) := by decide +kernel
theorem dX11_edge_74 : decode cX11_edge 74 = .ok (.aload_n 0, 1) := by decide +kernel
theorem dX11_edge_75 : decode cX11_edge 75 = .ok (.getfield 80, 3) := by decide +kernel
theorem dX11_edge_78 : decode cX11_edge 78 = .ok (.invokevirtual 138, 3) := by decide +kernel
theorem dX11_edge_81 : decode cX11_edge 81 = .ok (.iconst 0, 1) := by decide +kernel
theorem dX11_edge_82 : decode cX11_edge 82 = .ok (.istore_n 1, 1) := by decide +kernel
theorem dX11_edge_83 : decode cX11_edge 83 = .ok (.iload_n 1, 1) := by decide +kernel
theorem dX11_edge_84 : decode cX11_edge 84 = .ok (.iconst 2, 1) := by decide +kernel
theorem dX11_edge_85 : decode cX11_edge 85 = .ok (.if_icmp .ge 16, 3) := by decide +kernel
theorem dX11_edge_88 : decode cX11_edge 88 = .ok (.aload_n 0, 1) := by decide +kernel
theorem dX11_edge_89 : decode cX11_edge 89 = .ok (.getfield 46, 3) := by decide +kernel
theorem dX11_edge_92 : decode cX11_edge 92 = .ok (.iload_n 1, 1) := by decide +kernel
theorem dX11_edge_93 : decode cX11_edge 93 = .ok (.iconst 0, 1) := by decide +kernel
theorem dX11_edge_94 : decode cX11_edge 94 = .ok (.bastore, 1) := by decide +kernel
theorem dX11_edge_95 : decode cX11_edge 95 = .ok (.iinc 1 1, 3) := by decide +kernel
theorem dX11_edge_98 : decode cX11_edge 98 = .ok (.goto (-15), 3) := by decide +kernel
theorem dX11_edge_101 : decode cX11_edge 101 = .ok (.aload_n 0, 1) := by decide +kernel
theorem dX11_edge_102 : decode cX11_edge 102 = .ok (.getfield 17, 3) := by decide +kernel
theorem dX11_edge_105 : decode cX11_edge 105 = .ok (.getfield 139, 3) := by decide +kernel
theorem dX11_edge_108 : decode cX11_edge 108 = .ok (.ireturn, 1) := by decide +kernel
theorem dX11_fault_0 : decode cX11_fault 0 = .ok (.aload_n 0, 1) := by decide +kernel
theorem dX11_fault_1 : decode cX11_fault 1 = .ok (.getfield 98, 3) := by decide +kernel
theorem dX11_fault_4 : decode cX11_fault 4 = .ok (.ireturn, 1) := by decide +kernel
theorem dX11_told_0 : decode cX11_told 0 = .ok (.iload_n 1, 1) := by decide +kernel
theorem dX11_told_1 : decode cX11_told 1 = .ok (.tableswitch 190 0 13 #[71, 79, 87, 95, 103, 111, 119, 127, 135, 143, 158, 166, 174, 182], 71) := by decide +kernel
theorem dX11_told_72 : decode cX11_told 72 = .ok (.aload_n 0, 1) := by decide +kernel
theorem dX11_told_73 : decode cX11_told 73 = .ok (.getfield 17, 3) := by decide +kernel
theorem dX11_told_76 : decode cX11_told 76 = .ok (.getfield 142, 3) := by decide +kernel
theorem dX11_told_79 : decode cX11_told 79 = .ok (.ireturn, 1) := by decide +kernel
theorem dX11_told_80 : decode cX11_told 80 = .ok (.aload_n 0, 1) := by decide +kernel
theorem dX11_told_81 : decode cX11_told 81 = .ok (.getfield 17, 3) := by decide +kernel
theorem dX11_told_84 : decode cX11_told 84 = .ok (.getfield 139, 3) := by decide +kernel
theorem dX11_told_87 : decode cX11_told 87 = .ok (.ireturn, 1) := by decide +kernel
theorem dX11_told_88 : decode cX11_told 88 = .ok (.aload_n 0, 1) := by decide +kernel
theorem dX11_told_89 : decode cX11_told 89 = .ok (.getfield 24, 3) := by decide +kernel
theorem dX11_told_92 : decode cX11_told 92 = .ok (.getfield 106, 3) := by decide +kernel
theorem dX11_told_95 : decode cX11_told 95 = .ok (.ireturn, 1) := by decide +kernel
theorem dX11_told_96 : decode cX11_told 96 = .ok (.aload_n 0, 1) := by decide +kernel
theorem dX11_told_97 : decode cX11_told 97 = .ok (.getfield 28, 3) := by decide +kernel
theorem dX11_told_100 : decode cX11_told 100 = .ok (.getfield 145, 3) := by decide +kernel
theorem dX11_told_103 : decode cX11_told 103 = .ok (.ireturn, 1) := by decide +kernel
theorem dX11_told_104 : decode cX11_told 104 = .ok (.aload_n 0, 1) := by decide +kernel
theorem dX11_told_105 : decode cX11_told 105 = .ok (.getfield 28, 3) := by decide +kernel
theorem dX11_told_108 : decode cX11_told 108 = .ok (.getfield 148, 3) := by decide +kernel
theorem dX11_told_111 : decode cX11_told 111 = .ok (.ireturn, 1) := by decide +kernel
theorem dX11_told_112 : decode cX11_told 112 = .ok (.aload_n 0, 1) := by decide +kernel
theorem dX11_told_113 : decode cX11_told 113 = .ok (.getfield 28, 3) := by decide +kernel
theorem dX11_told_116 : decode cX11_told 116 = .ok (.getfield 151, 3) := by decide +kernel
theorem dX11_told_119 : decode cX11_told 119 = .ok (.ireturn, 1) := by decide +kernel
theorem dX11_told_120 : decode cX11_told 120 = .ok (.aload_n 0, 1) := by decide +kernel
theorem dX11_told_121 : decode cX11_told 121 = .ok (.getfield 28, 3) := by decide +kernel
theorem dX11_told_124 : decode cX11_told 124 = .ok (.getfield 154, 3) := by decide +kernel
theorem dX11_told_127 : decode cX11_told 127 = .ok (.ireturn, 1) := by decide +kernel
theorem dX11_told_128 : decode cX11_told 128 = .ok (.aload_n 0, 1) := by decide +kernel
theorem dX11_told_129 : decode cX11_told 129 = .ok (.getfield 28, 3) := by decide +kernel
theorem dX11_told_132 : decode cX11_told 132 = .ok (.getfield 157, 3) := by decide +kernel
theorem dX11_told_135 : decode cX11_told 135 = .ok (.ireturn, 1) := by decide +kernel
theorem dX11_told_136 : decode cX11_told 136 = .ok (.aload_n 0, 1) := by decide +kernel
theorem dX11_told_137 : decode cX11_told 137 = .ok (.getfield 28, 3) := by decide +kernel
theorem dX11_told_140 : decode cX11_told 140 = .ok (.getfield 160, 3) := by decide +kernel
theorem dX11_told_143 : decode cX11_told 143 = .ok (.ireturn, 1) := by decide +kernel
theorem dX11_told_144 : decode cX11_told 144 = .ok (.aload_n 0, 1) := by decide +kernel
theorem dX11_told_145 : decode cX11_told 145 = .ok (.getfield 17, 3) := by decide +kernel
theorem dX11_told_148 : decode cX11_told 148 = .ok (.aload_n 0, 1) := by decide +kernel
theorem dX11_told_149 : decode cX11_told 149 = .ok (.getfield 28, 3) := by decide +kernel
theorem dX11_told_152 : decode cX11_told 152 = .ok (.getfield 145, 3) := by decide +kernel
theorem dX11_told_155 : decode cX11_told 155 = .ok (.invokevirtual 163, 3) := by decide +kernel
theorem dX11_told_158 : decode cX11_told 158 = .ok (.ireturn, 1) := by decide +kernel
theorem dX11_told_159 : decode cX11_told 159 = .ok (.aload_n 0, 1) := by decide +kernel
theorem dX11_told_160 : decode cX11_told 160 = .ok (.getfield 28, 3) := by decide +kernel
theorem dX11_told_163 : decode cX11_told 163 = .ok (.invokevirtual 166, 3) := by decide +kernel
theorem dX11_told_166 : decode cX11_told 166 = .ok (.ireturn, 1) := by decide +kernel
theorem dX11_told_167 : decode cX11_told 167 = .ok (.aload_n 0, 1) := by decide +kernel
theorem dX11_told_168 : decode cX11_told 168 = .ok (.getfield 66, 3) := by decide +kernel
theorem dX11_told_171 : decode cX11_told 171 = .ok (.getfield 170, 3) := by decide +kernel
theorem dX11_told_174 : decode cX11_told 174 = .ok (.ireturn, 1) := by decide +kernel
theorem dX11_told_175 : decode cX11_told 175 = .ok (.aload_n 0, 1) := by decide +kernel
theorem dX11_told_176 : decode cX11_told 176 = .ok (.getfield 80, 3) := by decide +kernel
theorem dX11_told_179 : decode cX11_told 179 = .ok (.getfield 173, 3) := by decide +kernel
theorem dX11_told_182 : decode cX11_told 182 = .ok (.ireturn, 1) := by decide +kernel
theorem dX11_told_183 : decode cX11_told 183 = .ok (.aload_n 0, 1) := by decide +kernel
theorem dX11_told_184 : decode cX11_told 184 = .ok (.getfield 38, 3) := by decide +kernel
theorem dX11_told_187 : decode cX11_told 187 = .ok (.getfield 176, 3) := by decide +kernel
theorem dX11_told_190 : decode cX11_told 190 = .ok (.ireturn, 1) := by decide +kernel
theorem dX11_told_191 : decode cX11_told 191 = .ok (.ldc 105, 2) := by decide +kernel
theorem dX11_told_193 : decode cX11_told 193 = .ok (.ireturn, 1) := by decide +kernel
theorem dX11_person_0 : decode cX11_person 0 = .ok (.aload_n 0, 1) := by decide +kernel
theorem dX11_person_1 : decode cX11_person 1 = .ok (.getfield 17, 3) := by decide +kernel
theorem dX11_person_4 : decode cX11_person 4 = .ok (.iload_n 1, 1) := by decide +kernel
theorem dX11_person_5 : decode cX11_person 5 = .ok (.invokevirtual 179, 3) := by decide +kernel
theorem dX11_person_8 : decode cX11_person 8 = .ok (.ifCond .ne 6, 3) := by decide +kernel
theorem dX11_person_11 : decode cX11_person 11 = .ok (.ldc 183, 2) := by decide +kernel
theorem dX11_person_13 : decode cX11_person 13 = .ok (.ireturn, 1) := by decide +kernel
theorem dX11_person_14 : decode cX11_person 14 = .ok (.iload_n 2, 1) := by decide +kernel
theorem dX11_person_15 : decode cX11_person 15 = .ok (.tableswitch 152 0 9 #[53, 63, 73, 83, 93, 103, 113, 123, 133, 142], 53) := by decide +kernel
theorem dX11_person_68 : decode cX11_person 68 = .ok (.aload_n 0, 1) := by decide +kernel
theorem dX11_person_69 : decode cX11_person 69 = .ok (.getfield 17, 3) := by decide +kernel
theorem dX11_person_72 : decode cX11_person 72 = .ok (.getfield 184, 3) := by decide +kernel
theorem dX11_person_75 : decode cX11_person 75 = .ok (.iload_n 1, 1) := by decide +kernel
theorem dX11_person_76 : decode cX11_person 76 = .ok (.iaload, 1) := by decide +kernel
theorem dX11_person_77 : decode cX11_person 77 = .ok (.ireturn, 1) := by decide +kernel
theorem dX11_person_78 : decode cX11_person 78 = .ok (.aload_n 0, 1) := by decide +kernel
theorem dX11_person_79 : decode cX11_person 79 = .ok (.getfield 17, 3) := by decide +kernel
theorem dX11_person_82 : decode cX11_person 82 = .ok (.getfield 187, 3) := by decide +kernel
theorem dX11_person_85 : decode cX11_person 85 = .ok (.iload_n 1, 1) := by decide +kernel
theorem dX11_person_86 : decode cX11_person 86 = .ok (.iaload, 1) := by decide +kernel
theorem dX11_person_87 : decode cX11_person 87 = .ok (.ireturn, 1) := by decide +kernel
theorem dX11_person_88 : decode cX11_person 88 = .ok (.aload_n 0, 1) := by decide +kernel
theorem dX11_person_89 : decode cX11_person 89 = .ok (.getfield 17, 3) := by decide +kernel
theorem dX11_person_92 : decode cX11_person 92 = .ok (.getfield 190, 3) := by decide +kernel
theorem dX11_person_95 : decode cX11_person 95 = .ok (.iload_n 1, 1) := by decide +kernel
theorem dX11_person_96 : decode cX11_person 96 = .ok (.iaload, 1) := by decide +kernel
theorem dX11_person_97 : decode cX11_person 97 = .ok (.ireturn, 1) := by decide +kernel
theorem dX11_person_98 : decode cX11_person 98 = .ok (.aload_n 0, 1) := by decide +kernel
theorem dX11_person_99 : decode cX11_person 99 = .ok (.getfield 17, 3) := by decide +kernel
theorem dX11_person_102 : decode cX11_person 102 = .ok (.getfield 193, 3) := by decide +kernel
theorem dX11_person_105 : decode cX11_person 105 = .ok (.iload_n 1, 1) := by decide +kernel
theorem dX11_person_106 : decode cX11_person 106 = .ok (.iaload, 1) := by decide +kernel
theorem dX11_person_107 : decode cX11_person 107 = .ok (.ireturn, 1) := by decide +kernel
theorem dX11_person_108 : decode cX11_person 108 = .ok (.aload_n 0, 1) := by decide +kernel
theorem dX11_person_109 : decode cX11_person 109 = .ok (.getfield 17, 3) := by decide +kernel
theorem dX11_person_112 : decode cX11_person 112 = .ok (.getfield 196, 3) := by decide +kernel
theorem dX11_person_115 : decode cX11_person 115 = .ok (.iload_n 1, 1) := by decide +kernel
theorem dX11_person_116 : decode cX11_person 116 = .ok (.iaload, 1) := by decide +kernel
theorem dX11_person_117 : decode cX11_person 117 = .ok (.ireturn, 1) := by decide +kernel
theorem dX11_person_118 : decode cX11_person 118 = .ok (.aload_n 0, 1) := by decide +kernel
theorem dX11_person_119 : decode cX11_person 119 = .ok (.getfield 28, 3) := by decide +kernel
theorem dX11_person_122 : decode cX11_person 122 = .ok (.getfield 199, 3) := by decide +kernel
theorem dX11_person_125 : decode cX11_person 125 = .ok (.iload_n 1, 1) := by decide +kernel
theorem dX11_person_126 : decode cX11_person 126 = .ok (.iaload, 1) := by decide +kernel
theorem dX11_person_127 : decode cX11_person 127 = .ok (.ireturn, 1) := by decide +kernel
theorem dX11_person_128 : decode cX11_person 128 = .ok (.aload_n 0, 1) := by decide +kernel
theorem dX11_person_129 : decode cX11_person 129 = .ok (.getfield 28, 3) := by decide +kernel
theorem dX11_person_132 : decode cX11_person 132 = .ok (.getfield 202, 3) := by decide +kernel
theorem dX11_person_135 : decode cX11_person 135 = .ok (.iload_n 1, 1) := by decide +kernel
theorem dX11_person_136 : decode cX11_person 136 = .ok (.iaload, 1) := by decide +kernel
theorem dX11_person_137 : decode cX11_person 137 = .ok (.ireturn, 1) := by decide +kernel
theorem dX11_person_138 : decode cX11_person 138 = .ok (.aload_n 0, 1) := by decide +kernel
theorem dX11_person_139 : decode cX11_person 139 = .ok (.getfield 28, 3) := by decide +kernel
theorem dX11_person_142 : decode cX11_person 142 = .ok (.getfield 205, 3) := by decide +kernel
theorem dX11_person_145 : decode cX11_person 145 = .ok (.iload_n 1, 1) := by decide +kernel
theorem dX11_person_146 : decode cX11_person 146 = .ok (.iaload, 1) := by decide +kernel
theorem dX11_person_147 : decode cX11_person 147 = .ok (.ireturn, 1) := by decide +kernel
theorem dX11_person_148 : decode cX11_person 148 = .ok (.aload_n 0, 1) := by decide +kernel
theorem dX11_person_149 : decode cX11_person 149 = .ok (.getfield 28, 3) := by decide +kernel
theorem dX11_person_152 : decode cX11_person 152 = .ok (.iload_n 1, 1) := by decide +kernel
theorem dX11_person_153 : decode cX11_person 153 = .ok (.invokevirtual 208, 3) := by decide +kernel
theorem dX11_person_156 : decode cX11_person 156 = .ok (.ireturn, 1) := by decide +kernel
theorem dX11_person_157 : decode cX11_person 157 = .ok (.aload_n 0, 1) := by decide +kernel
theorem dX11_person_158 : decode cX11_person 158 = .ok (.getfield 28, 3) := by decide +kernel
theorem dX11_person_161 : decode cX11_person 161 = .ok (.getfield 211, 3) := by decide +kernel
theorem dX11_person_164 : decode cX11_person 164 = .ok (.iload_n 1, 1) := by decide +kernel
theorem dX11_person_165 : decode cX11_person 165 = .ok (.iaload, 1) := by decide +kernel
theorem dX11_person_166 : decode cX11_person 166 = .ok (.ireturn, 1) := by decide +kernel
theorem dX11_person_167 : decode cX11_person 167 = .ok (.ldc 105, 2) := by decide +kernel
theorem dX11_person_169 : decode cX11_person 169 = .ok (.ireturn, 1) := by decide +kernel
theorem dX11_word_0 : decode cX11_word 0 = .ok (.iload_n 1, 1) := by decide +kernel
theorem dX11_word_1 : decode cX11_word 1 = .ok (.invokestatic 214, 3) := by decide +kernel
theorem dX11_word_4 : decode cX11_word 4 = .ok (.ifCond .eq 15, 3) := by decide +kernel
theorem dX11_word_7 : decode cX11_word 7 = .ok (.aload_n 0, 1) := by decide +kernel
theorem dX11_word_8 : decode cX11_word 8 = .ok (.getfield 17, 3) := by decide +kernel
theorem dX11_word_11 : decode cX11_word 11 = .ok (.getfield 217, 3) := by decide +kernel
theorem dX11_word_14 : decode cX11_word 14 = .ok (.iload_n 1, 1) := by decide +kernel
theorem dX11_word_15 : decode cX11_word 15 = .ok (.iaload, 1) := by decide +kernel
theorem dX11_word_16 : decode cX11_word 16 = .ok (.goto 5, 3) := by decide +kernel
theorem dX11_word_19 : decode cX11_word 19 = .ok (.ldc 105, 2) := by decide +kernel
theorem dX11_word_21 : decode cX11_word 21 = .ok (.ireturn, 1) := by decide +kernel
theorem dX11_hour_0 : decode cX11_hour 0 = .ok (.iload_n 1, 1) := by decide +kernel
theorem dX11_hour_1 : decode cX11_hour 1 = .ok (.iconst 1, 1) := by decide +kernel
theorem dX11_hour_2 : decode cX11_hour 2 = .ok (.if_icmp .lt 9, 3) := by decide +kernel
theorem dX11_hour_5 : decode cX11_hour 5 = .ok (.iload_n 1, 1) := by decide +kernel
theorem dX11_hour_6 : decode cX11_hour 6 = .ok (.bipush 99, 2) := by decide +kernel
theorem dX11_hour_8 : decode cX11_hour 8 = .ok (.if_icmp .le 6, 3) := by decide +kernel
theorem dX11_hour_11 : decode cX11_hour 11 = .ok (.ldc 105, 2) := by decide +kernel
theorem dX11_hour_13 : decode cX11_hour 13 = .ok (.ireturn, 1) := by decide +kernel
theorem dX11_hour_14 : decode cX11_hour 14 = .ok (.aload_n 0, 1) := by decide +kernel
theorem dX11_hour_15 : decode cX11_hour 15 = .ok (.getfield 17, 3) := by decide +kernel
theorem dX11_hour_18 : decode cX11_hour 18 = .ok (.invokevirtual 220, 3) := by decide +kernel
theorem dX11_hour_21 : decode cX11_hour 21 = .ok (.ifCond .ne 6, 3) := by decide +kernel
theorem dX11_hour_24 : decode cX11_hour 24 = .ok (.ldc 224, 2) := by decide +kernel
theorem dX11_hour_26 : decode cX11_hour 26 = .ok (.ireturn, 1) := by decide +kernel
theorem dX11_hour_27 : decode cX11_hour 27 = .ok (.iconst 0, 1) := by decide +kernel
theorem dX11_hour_28 : decode cX11_hour 28 = .ok (.istore_n 2, 1) := by decide +kernel
theorem dX11_hour_29 : decode cX11_hour 29 = .ok (.iload_n 2, 1) := by decide +kernel
theorem dX11_hour_30 : decode cX11_hour 30 = .ok (.iload_n 1, 1) := by decide +kernel
theorem dX11_hour_31 : decode cX11_hour 31 = .ok (.if_icmp .ge 13, 3) := by decide +kernel
theorem dX11_hour_34 : decode cX11_hour 34 = .ok (.aload_n 0, 1) := by decide +kernel
theorem dX11_hour_35 : decode cX11_hour 35 = .ok (.invokevirtual 225, 3) := by decide +kernel
theorem dX11_hour_38 : decode cX11_hour 38 = .ok (.iinc 2 1, 3) := by decide +kernel
theorem dX11_hour_41 : decode cX11_hour 41 = .ok (.goto (-12), 3) := by decide +kernel
theorem dX11_hour_44 : decode cX11_hour 44 = .ok (.aload_n 0, 1) := by decide +kernel
theorem dX11_hour_45 : decode cX11_hour 45 = .ok (.getfield 28, 3) := by decide +kernel
theorem dX11_hour_48 : decode cX11_hour 48 = .ok (.getfield 148, 3) := by decide +kernel
theorem dX11_hour_51 : decode cX11_hour 51 = .ok (.ireturn, 1) := by decide +kernel
theorem dX11_offer_0 : decode cX11_offer 0 = .ok (.aload_n 0, 1) := by decide +kernel
theorem dX11_offer_1 : decode cX11_offer 1 = .ok (.getfield 17, 3) := by decide +kernel
theorem dX11_offer_4 : decode cX11_offer 4 = .ok (.iload_n 1, 1) := by decide +kernel
theorem dX11_offer_5 : decode cX11_offer 5 = .ok (.invokevirtual 179, 3) := by decide +kernel
theorem dX11_offer_8 : decode cX11_offer 8 = .ok (.ifCond .ne 6, 3) := by decide +kernel
theorem dX11_offer_11 : decode cX11_offer 11 = .ok (.ldc 183, 2) := by decide +kernel
theorem dX11_offer_13 : decode cX11_offer 13 = .ok (.ireturn, 1) := by decide +kernel
theorem dX11_offer_14 : decode cX11_offer 14 = .ok (.iload_n 2, 1) := by decide +kernel
theorem dX11_offer_15 : decode cX11_offer 15 = .ok (.invokestatic 214, 3) := by decide +kernel
theorem dX11_offer_18 : decode cX11_offer 18 = .ok (.ifCond .ne 6, 3) := by decide +kernel
theorem dX11_offer_21 : decode cX11_offer 21 = .ok (.ldc 105, 2) := by decide +kernel
theorem dX11_offer_23 : decode cX11_offer 23 = .ok (.ireturn, 1) := by decide +kernel
theorem dX11_offer_24 : decode cX11_offer 24 = .ok (.aload_n 0, 1) := by decide +kernel
theorem dX11_offer_25 : decode cX11_offer 25 = .ok (.getfield 28, 3) := by decide +kernel
theorem dX11_offer_28 : decode cX11_offer 28 = .ok (.iload_n 1, 1) := by decide +kernel
theorem dX11_offer_29 : decode cX11_offer 29 = .ok (.invokevirtual 228, 3) := by decide +kernel
theorem dX11_offer_32 : decode cX11_offer 32 = .ok (.ifCond .eq 6, 3) := by decide +kernel
theorem dX11_offer_35 : decode cX11_offer 35 = .ok (.ldc 224, 2) := by decide +kernel
theorem dX11_offer_37 : decode cX11_offer 37 = .ok (.ireturn, 1) := by decide +kernel
theorem dX11_offer_38 : decode cX11_offer 38 = .ok (.aload_n 0, 1) := by decide +kernel
theorem dX11_offer_39 : decode cX11_offer 39 = .ok (.getfield 28, 3) := by decide +kernel
theorem dX11_offer_42 : decode cX11_offer 42 = .ok (.iload_n 1, 1) := by decide +kernel
theorem dX11_offer_43 : decode cX11_offer 43 = .ok (.iload_n 2, 1) := by decide +kernel
theorem dX11_offer_44 : decode cX11_offer 44 = .ok (.invokevirtual 231, 3) := by decide +kernel
theorem dX11_offer_47 : decode cX11_offer 47 = .ok (.ifCond .eq 7, 3) := by decide +kernel
theorem dX11_offer_50 : decode cX11_offer 50 = .ok (.iconst 1, 1) := by decide +kernel
theorem dX11_offer_51 : decode cX11_offer 51 = .ok (.goto 4, 3) := by decide +kernel
theorem dX11_offer_54 : decode cX11_offer 54 = .ok (.iconst 0, 1) := by decide +kernel
theorem dX11_offer_55 : decode cX11_offer 55 = .ok (.ireturn, 1) := by decide +kernel
theorem dX11_take_0 : decode cX11_take 0 = .ok (.aload_n 0, 1) := by decide +kernel
theorem dX11_take_1 : decode cX11_take 1 = .ok (.getfield 17, 3) := by decide +kernel
theorem dX11_take_4 : decode cX11_take 4 = .ok (.iload_n 1, 1) := by decide +kernel
theorem dX11_take_5 : decode cX11_take 5 = .ok (.invokevirtual 179, 3) := by decide +kernel
theorem dX11_take_8 : decode cX11_take 8 = .ok (.ifCond .ne 6, 3) := by decide +kernel
theorem dX11_take_11 : decode cX11_take 11 = .ok (.ldc 183, 2) := by decide +kernel
theorem dX11_take_13 : decode cX11_take 13 = .ok (.ireturn, 1) := by decide +kernel
theorem dX11_take_14 : decode cX11_take 14 = .ok (.aload_n 0, 1) := by decide +kernel
theorem dX11_take_15 : decode cX11_take 15 = .ok (.getfield 28, 3) := by decide +kernel
theorem dX11_take_18 : decode cX11_take 18 = .ok (.iload_n 1, 1) := by decide +kernel
theorem dX11_take_19 : decode cX11_take 19 = .ok (.invokevirtual 228, 3) := by decide +kernel
theorem dX11_take_22 : decode cX11_take 22 = .ok (.ifCond .ne 14, 3) := by decide +kernel
theorem dX11_take_25 : decode cX11_take 25 = .ok (.aload_n 0, 1) := by decide +kernel
theorem dX11_take_26 : decode cX11_take 26 = .ok (.getfield 28, 3) := by decide +kernel
theorem dX11_take_29 : decode cX11_take 29 = .ok (.iload_n 1, 1) := by decide +kernel
theorem dX11_take_30 : decode cX11_take 30 = .ok (.invokevirtual 235, 3) := by decide +kernel
theorem dX11_take_33 : decode cX11_take 33 = .ok (.ifCond .ne 6, 3) := by decide +kernel
theorem dX11_take_36 : decode cX11_take 36 = .ok (.ldc 224, 2) := by decide +kernel
theorem dX11_take_38 : decode cX11_take 38 = .ok (.ireturn, 1) := by decide +kernel
theorem dX11_take_39 : decode cX11_take 39 = .ok (.aload_n 0, 1) := by decide +kernel
theorem dX11_take_40 : decode cX11_take 40 = .ok (.getfield 28, 3) := by decide +kernel
theorem dX11_take_43 : decode cX11_take 43 = .ok (.iload_n 1, 1) := by decide +kernel
theorem dX11_take_44 : decode cX11_take 44 = .ok (.invokevirtual 238, 3) := by decide +kernel
theorem dX11_take_47 : decode cX11_take 47 = .ok (.aload_n 0, 1) := by decide +kernel
theorem dX11_take_48 : decode cX11_take 48 = .ok (.getfield 17, 3) := by decide +kernel
theorem dX11_take_51 : decode cX11_take 51 = .ok (.getfield 196, 3) := by decide +kernel
theorem dX11_take_54 : decode cX11_take 54 = .ok (.iload_n 1, 1) := by decide +kernel
theorem dX11_take_55 : decode cX11_take 55 = .ok (.iaload, 1) := by decide +kernel
theorem dX11_take_56 : decode cX11_take 56 = .ok (.ireturn, 1) := by decide +kernel
theorem dX11_join_0 : decode cX11_join 0 = .ok (.aload_n 0, 1) := by decide +kernel
theorem dX11_join_1 : decode cX11_join 1 = .ok (.getfield 17, 3) := by decide +kernel
theorem dX11_join_4 : decode cX11_join 4 = .ok (.iload_n 1, 1) := by decide +kernel
theorem dX11_join_5 : decode cX11_join 5 = .ok (.invokevirtual 179, 3) := by decide +kernel
theorem dX11_join_8 : decode cX11_join 8 = .ok (.ifCond .ne 6, 3) := by decide +kernel
theorem dX11_join_11 : decode cX11_join 11 = .ok (.ldc 183, 2) := by decide +kernel
theorem dX11_join_13 : decode cX11_join 13 = .ok (.ireturn, 1) := by decide +kernel
theorem dX11_join_14 : decode cX11_join 14 = .ok (.aload_n 0, 1) := by decide +kernel
theorem dX11_join_15 : decode cX11_join 15 = .ok (.getfield 28, 3) := by decide +kernel
theorem dX11_join_18 : decode cX11_join 18 = .ok (.getfield 160, 3) := by decide +kernel
theorem dX11_join_21 : decode cX11_join 21 = .ok (.iconst (-1), 1) := by decide +kernel
theorem dX11_join_22 : decode cX11_join 22 = .ok (.if_icmp .ne 32, 3) := by decide +kernel
theorem dX11_join_25 : decode cX11_join 25 = .ok (.aload_n 0, 1) := by decide +kernel
theorem dX11_join_26 : decode cX11_join 26 = .ok (.getfield 28, 3) := by decide +kernel
theorem dX11_join_29 : decode cX11_join 29 = .ok (.iload_n 1, 1) := by decide +kernel
theorem dX11_join_30 : decode cX11_join 30 = .ok (.invokevirtual 228, 3) := by decide +kernel
theorem dX11_join_33 : decode cX11_join 33 = .ok (.ifCond .ne 21, 3) := by decide +kernel
theorem dX11_join_36 : decode cX11_join 36 = .ok (.aload_n 0, 1) := by decide +kernel
theorem dX11_join_37 : decode cX11_join 37 = .ok (.getfield 17, 3) := by decide +kernel
theorem dX11_join_40 : decode cX11_join 40 = .ok (.aload_n 0, 1) := by decide +kernel
theorem dX11_join_41 : decode cX11_join 41 = .ok (.getfield 28, 3) := by decide +kernel
theorem dX11_join_44 : decode cX11_join 44 = .ok (.getfield 157, 3) := by decide +kernel
theorem dX11_join_47 : decode cX11_join 47 = .ok (.iload_n 1, 1) := by decide +kernel
theorem dX11_join_48 : decode cX11_join 48 = .ok (.invokevirtual 242, 3) := by decide +kernel
theorem dX11_join_51 : decode cX11_join 51 = .ok (.ifCond .ne 6, 3) := by decide +kernel
theorem dX11_join_54 : decode cX11_join 54 = .ok (.ldc 224, 2) := by decide +kernel
theorem dX11_join_56 : decode cX11_join 56 = .ok (.ireturn, 1) := by decide +kernel
theorem dX11_join_57 : decode cX11_join 57 = .ok (.aload_n 0, 1) := by decide +kernel
theorem dX11_join_58 : decode cX11_join 58 = .ok (.getfield 28, 3) := by decide +kernel
theorem dX11_join_61 : decode cX11_join 61 = .ok (.iload_n 1, 1) := by decide +kernel
theorem dX11_join_62 : decode cX11_join 62 = .ok (.putfield 160, 3) := by decide +kernel
theorem dX11_join_65 : decode cX11_join 65 = .ok (.aload_n 0, 1) := by decide +kernel
theorem dX11_join_66 : decode cX11_join 66 = .ok (.getfield 28, 3) := by decide +kernel
theorem dX11_join_69 : decode cX11_join 69 = .ok (.invokevirtual 166, 3) := by decide +kernel
theorem dX11_join_72 : decode cX11_join 72 = .ok (.ireturn, 1) := by decide +kernel
theorem dX11_fruit_0 : decode cX11_fruit 0 = .ok (.iload_n 1, 1) := by decide +kernel
theorem dX11_fruit_1 : decode cX11_fruit 1 = .ok (.ifCond .lt 9, 3) := by decide +kernel
theorem dX11_fruit_4 : decode cX11_fruit 4 = .ok (.iload_n 1, 1) := by decide +kernel
theorem dX11_fruit_5 : decode cX11_fruit 5 = .ok (.bipush 99, 2) := by decide +kernel
theorem dX11_fruit_7 : decode cX11_fruit 7 = .ok (.if_icmp .le 6, 3) := by decide +kernel
theorem dX11_fruit_10 : decode cX11_fruit 10 = .ok (.ldc 105, 2) := by decide +kernel
theorem dX11_fruit_12 : decode cX11_fruit 12 = .ok (.ireturn, 1) := by decide +kernel
theorem dX11_fruit_13 : decode cX11_fruit 13 = .ok (.aload_n 0, 1) := by decide +kernel
theorem dX11_fruit_14 : decode cX11_fruit 14 = .ok (.getfield 28, 3) := by decide +kernel
theorem dX11_fruit_17 : decode cX11_fruit 17 = .ok (.sipush 999, 3) := by decide +kernel
theorem dX11_fruit_20 : decode cX11_fruit 20 = .ok (.aload_n 0, 1) := by decide +kernel
theorem dX11_fruit_21 : decode cX11_fruit 21 = .ok (.getfield 28, 3) := by decide +kernel
theorem dX11_fruit_24 : decode cX11_fruit 24 = .ok (.getfield 154, 3) := by decide +kernel
theorem dX11_fruit_27 : decode cX11_fruit 27 = .ok (.iload_n 1, 1) := by decide +kernel
theorem dX11_fruit_28 : decode cX11_fruit 28 = .ok (.iadd, 1) := by decide +kernel
theorem dX11_fruit_29 : decode cX11_fruit 29 = .ok (.invokestatic 245, 3) := by decide +kernel
theorem dX11_fruit_32 : decode cX11_fruit 32 = .ok (.putfield 154, 3) := by decide +kernel
theorem dX11_fruit_35 : decode cX11_fruit 35 = .ok (.aload_n 0, 1) := by decide +kernel
theorem dX11_fruit_36 : decode cX11_fruit 36 = .ok (.getfield 28, 3) := by decide +kernel
theorem dX11_fruit_39 : decode cX11_fruit 39 = .ok (.getfield 154, 3) := by decide +kernel
theorem dX11_fruit_42 : decode cX11_fruit 42 = .ok (.ireturn, 1) := by decide +kernel
theorem dX11_drift_0 : decode cX11_drift 0 = .ok (.iload_n 1, 1) := by decide +kernel
theorem dX11_drift_1 : decode cX11_drift 1 = .ok (.iconst 1, 1) := by decide +kernel
theorem dX11_drift_2 : decode cX11_drift 2 = .ok (.if_icmp .lt 9, 3) := by decide +kernel
theorem dX11_drift_5 : decode cX11_drift 5 = .ok (.iload_n 1, 1) := by decide +kernel
theorem dX11_drift_6 : decode cX11_drift 6 = .ok (.bipush 99, 2) := by decide +kernel
theorem dX11_drift_8 : decode cX11_drift 8 = .ok (.if_icmp .le 6, 3) := by decide +kernel
theorem dX11_drift_11 : decode cX11_drift 11 = .ok (.ldc 105, 2) := by decide +kernel
theorem dX11_drift_13 : decode cX11_drift 13 = .ok (.ireturn, 1) := by decide +kernel
theorem dX11_drift_14 : decode cX11_drift 14 = .ok (.aload_n 0, 1) := by decide +kernel
theorem dX11_drift_15 : decode cX11_drift 15 = .ok (.getfield 17, 3) := by decide +kernel
theorem dX11_drift_18 : decode cX11_drift 18 = .ok (.invokevirtual 220, 3) := by decide +kernel
theorem dX11_drift_21 : decode cX11_drift 21 = .ok (.ifCond .ne 6, 3) := by decide +kernel
theorem dX11_drift_24 : decode cX11_drift 24 = .ok (.ldc 224, 2) := by decide +kernel
theorem dX11_drift_26 : decode cX11_drift 26 = .ok (.ireturn, 1) := by decide +kernel
theorem dX11_drift_27 : decode cX11_drift 27 = .ok (.aload_n 0, 1) := by decide +kernel
theorem dX11_drift_28 : decode cX11_drift 28 = .ok (.getfield 28, 3) := by decide +kernel
theorem dX11_drift_31 : decode cX11_drift 31 = .ok (.getfield 151, 3) := by decide +kernel
theorem dX11_drift_34 : decode cX11_drift 34 = .ok (.istore_n 2, 1) := by decide +kernel
theorem dX11_drift_35 : decode cX11_drift 35 = .ok (.iconst 0, 1) := by decide +kernel
theorem dX11_drift_36 : decode cX11_drift 36 = .ok (.istore_n 3, 1) := by decide +kernel
theorem dX11_drift_37 : decode cX11_drift 37 = .ok (.iload_n 3, 1) := by decide +kernel
theorem dX11_drift_38 : decode cX11_drift 38 = .ok (.iload_n 1, 1) := by decide +kernel
theorem dX11_drift_39 : decode cX11_drift 39 = .ok (.if_icmp .ge 17, 3) := by decide +kernel
theorem dX11_drift_42 : decode cX11_drift 42 = .ok (.aload_n 0, 1) := by decide +kernel
theorem dX11_drift_43 : decode cX11_drift 43 = .ok (.invokevirtual 251, 3) := by decide +kernel
theorem dX11_drift_46 : decode cX11_drift 46 = .ok (.aload_n 0, 1) := by decide +kernel
theorem dX11_drift_47 : decode cX11_drift 47 = .ok (.invokevirtual 225, 3) := by decide +kernel
theorem dX11_drift_50 : decode cX11_drift 50 = .ok (.iinc 3 1, 3) := by decide +kernel
theorem dX11_drift_53 : decode cX11_drift 53 = .ok (.goto (-16), 3) := by decide +kernel
theorem dX11_drift_56 : decode cX11_drift 56 = .ok (.aload_n 0, 1) := by decide +kernel
theorem dX11_drift_57 : decode cX11_drift 57 = .ok (.getfield 28, 3) := by decide +kernel
theorem dX11_drift_60 : decode cX11_drift 60 = .ok (.getfield 151, 3) := by decide +kernel
theorem dX11_drift_63 : decode cX11_drift 63 = .ok (.iload_n 2, 1) := by decide +kernel
theorem dX11_drift_64 : decode cX11_drift 64 = .ok (.isub, 1) := by decide +kernel
theorem dX11_drift_65 : decode cX11_drift 65 = .ok (.ireturn, 1) := by decide +kernel
theorem dX11_undo_0 : decode cX11_undo 0 = .ok (.iload_n 1, 1) := by decide +kernel
theorem dX11_undo_1 : decode cX11_undo 1 = .ok (.iconst 1, 1) := by decide +kernel
theorem dX11_undo_2 : decode cX11_undo 2 = .ok (.if_icmp .lt 9, 3) := by decide +kernel
theorem dX11_undo_5 : decode cX11_undo 5 = .ok (.iload_n 1, 1) := by decide +kernel
theorem dX11_undo_6 : decode cX11_undo 6 = .ok (.bipush 60, 2) := by decide +kernel
theorem dX11_undo_8 : decode cX11_undo 8 = .ok (.if_icmp .le 6, 3) := by decide +kernel
theorem dX11_undo_11 : decode cX11_undo 11 = .ok (.ldc 105, 2) := by decide +kernel
theorem dX11_undo_13 : decode cX11_undo 13 = .ok (.ireturn, 1) := by decide +kernel
theorem dX11_undo_14 : decode cX11_undo 14 = .ok (.iload_n 1, 1) := by decide +kernel
theorem dX11_undo_15 : decode cX11_undo 15 = .ok (.aload_n 0, 1) := by decide +kernel
theorem dX11_undo_16 : decode cX11_undo 16 = .ok (.getfield 38, 3) := by decide +kernel
theorem dX11_undo_19 : decode cX11_undo 19 = .ok (.getfield 176, 3) := by decide +kernel
theorem dX11_undo_22 : decode cX11_undo 22 = .ok (.if_icmp .le 6, 3) := by decide +kernel
theorem dX11_undo_25 : decode cX11_undo 25 = .ok (.ldc 224, 2) := by decide +kernel
theorem dX11_undo_27 : decode cX11_undo 27 = .ok (.ireturn, 1) := by decide +kernel
theorem dX11_undo_28 : decode cX11_undo 28 = .ok (.aload_n 0, 1) := by decide +kernel
theorem dX11_undo_29 : decode cX11_undo 29 = .ok (.getfield 38, 3) := by decide +kernel
theorem dX11_undo_32 : decode cX11_undo 32 = .ok (.aload_n 0, 1) := by decide +kernel
theorem dX11_undo_33 : decode cX11_undo 33 = .ok (.getfield 28, 3) := by decide +kernel
theorem dX11_undo_36 : decode cX11_undo 36 = .ok (.iload_n 1, 1) := by decide +kernel
theorem dX11_undo_37 : decode cX11_undo 37 = .ok (.invokevirtual 254, 3) := by decide +kernel
theorem dX11_undo_40 : decode cX11_undo 40 = .ok (.aload_n 0, 1) := by decide +kernel
theorem dX11_undo_41 : decode cX11_undo 41 = .ok (.getfield 28, 3) := by decide +kernel
theorem dX11_undo_44 : decode cX11_undo 44 = .ok (.getfield 145, 3) := by decide +kernel
theorem dX11_undo_47 : decode cX11_undo 47 = .ok (.ireturn, 1) := by decide +kernel
theorem dX11_shifts_0 : decode cX11_shifts 0 = .ok (.iload_n 1, 1) := by decide +kernel
theorem dX11_shifts_1 : decode cX11_shifts 1 = .ok (.iload_n 2, 1) := by decide +kernel
theorem dX11_shifts_2 : decode cX11_shifts 2 = .ok (.invokestatic 258, 3) := by decide +kernel
theorem dX11_shifts_5 : decode cX11_shifts 5 = .ok (.ifCond .eq 6, 3) := by decide +kernel
theorem dX11_shifts_8 : decode cX11_shifts 8 = .ok (.ldc 105, 2) := by decide +kernel
theorem dX11_shifts_10 : decode cX11_shifts 10 = .ok (.ireturn, 1) := by decide +kernel
theorem dX11_shifts_11 : decode cX11_shifts 11 = .ok (.aload_n 0, 1) := by decide +kernel
theorem dX11_shifts_12 : decode cX11_shifts 12 = .ok (.getfield 17, 3) := by decide +kernel
theorem dX11_shifts_15 : decode cX11_shifts 15 = .ok (.invokevirtual 220, 3) := by decide +kernel
theorem dX11_shifts_18 : decode cX11_shifts 18 = .ok (.ifCond .ne 6, 3) := by decide +kernel
theorem dX11_shifts_21 : decode cX11_shifts 21 = .ok (.ldc 224, 2) := by decide +kernel
theorem dX11_shifts_23 : decode cX11_shifts 23 = .ok (.ireturn, 1) := by decide +kernel
theorem dX11_shifts_24 : decode cX11_shifts 24 = .ok (.aload_n 0, 1) := by decide +kernel
theorem dX11_shifts_25 : decode cX11_shifts 25 = .ok (.getfield 59, 3) := by decide +kernel
theorem dX11_shifts_28 : decode cX11_shifts 28 = .ok (.aload_n 0, 1) := by decide +kernel
theorem dX11_shifts_29 : decode cX11_shifts 29 = .ok (.getfield 28, 3) := by decide +kernel
theorem dX11_shifts_32 : decode cX11_shifts 32 = .ok (.iload_n 1, 1) := by decide +kernel
theorem dX11_shifts_33 : decode cX11_shifts 33 = .ok (.iload_n 2, 1) := by decide +kernel
theorem dX11_shifts_34 : decode cX11_shifts 34 = .ok (.invokevirtual 261, 3) := by decide +kernel
theorem dX11_shifts_37 : decode cX11_shifts 37 = .ok (.iload_n 3, 1) := by decide +kernel
theorem dX11_shifts_38 : decode cX11_shifts 38 = .ok (.iconst (-1), 1) := by decide +kernel
theorem dX11_shifts_39 : decode cX11_shifts 39 = .ok (.if_icmp .ne 13, 3) := by decide +kernel
theorem dX11_shifts_42 : decode cX11_shifts 42 = .ok (.aload_n 0, 1) := by decide +kernel
theorem dX11_shifts_43 : decode cX11_shifts 43 = .ok (.getfield 59, 3) := by decide +kernel
theorem dX11_shifts_46 : decode cX11_shifts 46 = .ok (.invokevirtual 265, 3) := by decide +kernel
theorem dX11_shifts_49 : decode cX11_shifts 49 = .ok (.goto 11, 3) := by decide +kernel
theorem dX11_shifts_52 : decode cX11_shifts 52 = .ok (.aload_n 0, 1) := by decide +kernel
theorem dX11_shifts_53 : decode cX11_shifts 53 = .ok (.getfield 59, 3) := by decide +kernel
theorem dX11_shifts_56 : decode cX11_shifts 56 = .ok (.iload_n 3, 1) := by decide +kernel
theorem dX11_shifts_57 : decode cX11_shifts 57 = .ok (.invokevirtual 268, 3) := by decide +kernel
theorem dX11_shifts_60 : decode cX11_shifts 60 = .ok (.ireturn, 1) := by decide +kernel
theorem dX11_sinks_0 : decode cX11_sinks 0 = .ok (.iload_n 1, 1) := by decide +kernel
theorem dX11_sinks_1 : decode cX11_sinks 1 = .ok (.iload_n 2, 1) := by decide +kernel
theorem dX11_sinks_2 : decode cX11_sinks 2 = .ok (.invokestatic 258, 3) := by decide +kernel
theorem dX11_sinks_5 : decode cX11_sinks 5 = .ok (.ifCond .eq 6, 3) := by decide +kernel
theorem dX11_sinks_8 : decode cX11_sinks 8 = .ok (.ldc 105, 2) := by decide +kernel
theorem dX11_sinks_10 : decode cX11_sinks 10 = .ok (.ireturn, 1) := by decide +kernel
theorem dX11_sinks_11 : decode cX11_sinks 11 = .ok (.aload_n 0, 1) := by decide +kernel
theorem dX11_sinks_12 : decode cX11_sinks 12 = .ok (.getfield 17, 3) := by decide +kernel
theorem dX11_sinks_15 : decode cX11_sinks 15 = .ok (.invokevirtual 220, 3) := by decide +kernel
theorem dX11_sinks_18 : decode cX11_sinks 18 = .ok (.ifCond .ne 6, 3) := by decide +kernel
theorem dX11_sinks_21 : decode cX11_sinks 21 = .ok (.ldc 224, 2) := by decide +kernel
theorem dX11_sinks_23 : decode cX11_sinks 23 = .ok (.ireturn, 1) := by decide +kernel
theorem dX11_sinks_24 : decode cX11_sinks 24 = .ok (.aload_n 0, 1) := by decide +kernel
theorem dX11_sinks_25 : decode cX11_sinks 25 = .ok (.getfield 59, 3) := by decide +kernel
theorem dX11_sinks_28 : decode cX11_sinks 28 = .ok (.aload_n 0, 1) := by decide +kernel
theorem dX11_sinks_29 : decode cX11_sinks 29 = .ok (.getfield 28, 3) := by decide +kernel
theorem dX11_sinks_32 : decode cX11_sinks 32 = .ok (.iload_n 1, 1) := by decide +kernel
theorem dX11_sinks_33 : decode cX11_sinks 33 = .ok (.iload_n 2, 1) := by decide +kernel
theorem dX11_sinks_34 : decode cX11_sinks 34 = .ok (.invokevirtual 261, 3) := by decide +kernel
theorem dX11_sinks_37 : decode cX11_sinks 37 = .ok (.aload_n 0, 1) := by decide +kernel
theorem dX11_sinks_38 : decode cX11_sinks 38 = .ok (.getfield 59, 3) := by decide +kernel
theorem dX11_sinks_41 : decode cX11_sinks 41 = .ok (.invokevirtual 271, 3) := by decide +kernel
theorem dX11_sinks_44 : decode cX11_sinks 44 = .ok (.ireturn, 1) := by decide +kernel
theorem dX11_chain_0 : decode cX11_chain 0 = .ok (.aload_n 0, 1) := by decide +kernel
theorem dX11_chain_1 : decode cX11_chain 1 = .ok (.getfield 17, 3) := by decide +kernel
theorem dX11_chain_4 : decode cX11_chain 4 = .ok (.iload_n 1, 1) := by decide +kernel
theorem dX11_chain_5 : decode cX11_chain 5 = .ok (.invokevirtual 179, 3) := by decide +kernel
theorem dX11_chain_8 : decode cX11_chain 8 = .ok (.ifCond .ne 6, 3) := by decide +kernel
theorem dX11_chain_11 : decode cX11_chain 11 = .ok (.ldc 183, 2) := by decide +kernel
theorem dX11_chain_13 : decode cX11_chain 13 = .ok (.ireturn, 1) := by decide +kernel
theorem dX11_chain_14 : decode cX11_chain 14 = .ok (.aload_n 0, 1) := by decide +kernel
theorem dX11_chain_15 : decode cX11_chain 15 = .ok (.getfield 73, 3) := by decide +kernel
theorem dX11_chain_18 : decode cX11_chain 18 = .ok (.aload_n 0, 1) := by decide +kernel
theorem dX11_chain_19 : decode cX11_chain 19 = .ok (.getfield 28, 3) := by decide +kernel
theorem dX11_chain_22 : decode cX11_chain 22 = .ok (.iload_n 1, 1) := by decide +kernel
theorem dX11_chain_23 : decode cX11_chain 23 = .ok (.invokevirtual 274, 3) := by decide +kernel
theorem dX11_chain_26 : decode cX11_chain 26 = .ok (.iload_n 2, 1) := by decide +kernel
theorem dX11_chain_27 : decode cX11_chain 27 = .ok (.iconst (-1), 1) := by decide +kernel
theorem dX11_chain_28 : decode cX11_chain 28 = .ok (.if_icmp .ne 13, 3) := by decide +kernel
theorem dX11_chain_31 : decode cX11_chain 31 = .ok (.aload_n 0, 1) := by decide +kernel
theorem dX11_chain_32 : decode cX11_chain 32 = .ok (.getfield 73, 3) := by decide +kernel
theorem dX11_chain_35 : decode cX11_chain 35 = .ok (.getfield 276, 3) := by decide +kernel
theorem dX11_chain_38 : decode cX11_chain 38 = .ok (.goto 11, 3) := by decide +kernel
theorem dX11_chain_41 : decode cX11_chain 41 = .ok (.aload_n 0, 1) := by decide +kernel
theorem dX11_chain_42 : decode cX11_chain 42 = .ok (.getfield 73, 3) := by decide +kernel
theorem dX11_chain_45 : decode cX11_chain 45 = .ok (.iload_n 2, 1) := by decide +kernel
theorem dX11_chain_46 : decode cX11_chain 46 = .ok (.invokevirtual 277, 3) := by decide +kernel
theorem dX11_chain_49 : decode cX11_chain 49 = .ok (.ireturn, 1) := by decide +kernel
theorem dX11_pair_0 : decode cX11_pair 0 = .ok (.iload_n 1, 1) := by decide +kernel
theorem dX11_pair_1 : decode cX11_pair 1 = .ok (.ifCond .lt 8, 3) := by decide +kernel
theorem dX11_pair_4 : decode cX11_pair 4 = .ok (.iload_n 1, 1) := by decide +kernel
theorem dX11_pair_5 : decode cX11_pair 5 = .ok (.iconst 2, 1) := by decide +kernel
theorem dX11_pair_6 : decode cX11_pair 6 = .ok (.if_icmp .le 6, 3) := by decide +kernel
theorem dX11_pair_9 : decode cX11_pair 9 = .ok (.ldc 105, 2) := by decide +kernel
theorem dX11_pair_11 : decode cX11_pair 11 = .ok (.ireturn, 1) := by decide +kernel
theorem dX11_pair_12 : decode cX11_pair 12 = .ok (.iconst (-1), 1) := by decide +kernel
theorem dX11_pair_13 : decode cX11_pair 13 = .ok (.istore_n 2, 1) := by decide +kernel
theorem dX11_pair_14 : decode cX11_pair 14 = .ok (.iconst (-1), 1) := by decide +kernel
theorem dX11_pair_15 : decode cX11_pair 15 = .ok (.istore_n 3, 1) := by decide +kernel
theorem dX11_pair_16 : decode cX11_pair 16 = .ok (.iconst (-1), 1) := by decide +kernel
theorem dX11_pair_17 : decode cX11_pair 17 = .ok (.istore 4, 2) := by decide +kernel
theorem dX11_pair_19 : decode cX11_pair 19 = .ok (.iconst 0, 1) := by decide +kernel
theorem dX11_pair_20 : decode cX11_pair 20 = .ok (.istore 5, 2) := by decide +kernel
theorem dX11_pair_22 : decode cX11_pair 22 = .ok (.iload 5, 2) := by decide +kernel
theorem dX11_pair_24 : decode cX11_pair 24 = .ok (.aload_n 0, 1) := by decide +kernel
theorem dX11_pair_25 : decode cX11_pair 25 = .ok (.getfield 17, 3) := by decide +kernel
theorem dX11_pair_28 : decode cX11_pair 28 = .ok (.getfield 139, 3) := by decide +kernel
theorem dX11_pair_31 : decode cX11_pair 31 = .ok (.if_icmp .ge 88, 3) := by decide +kernel
theorem dX11_pair_34 : decode cX11_pair 34 = .ok (.iload 5, 2) := by decide +kernel
theorem dX11_pair_36 : decode cX11_pair 36 = .ok (.iconst 1, 1) := by decide +kernel
theorem dX11_pair_37 : decode cX11_pair 37 = .ok (.iadd, 1) := by decide +kernel
theorem dX11_pair_38 : decode cX11_pair 38 = .ok (.istore 6, 2) := by decide +kernel
theorem dX11_pair_40 : decode cX11_pair 40 = .ok (.iload 6, 2) := by decide +kernel
theorem dX11_pair_42 : decode cX11_pair 42 = .ok (.aload_n 0, 1) := by decide +kernel
theorem dX11_pair_43 : decode cX11_pair 43 = .ok (.getfield 17, 3) := by decide +kernel
theorem dX11_pair_46 : decode cX11_pair 46 = .ok (.getfield 139, 3) := by decide +kernel
theorem dX11_pair_49 : decode cX11_pair 49 = .ok (.if_icmp .ge 64, 3) := by decide +kernel
theorem dX11_pair_52 : decode cX11_pair 52 = .ok (.aload_n 0, 1) := by decide +kernel
theorem dX11_pair_53 : decode cX11_pair 53 = .ok (.getfield 28, 3) := by decide +kernel
theorem dX11_pair_56 : decode cX11_pair 56 = .ok (.iload 5, 2) := by decide +kernel
theorem dX11_pair_58 : decode cX11_pair 58 = .ok (.invokevirtual 208, 3) := by decide +kernel
theorem dX11_pair_61 : decode cX11_pair 61 = .ok (.aload_n 0, 1) := by decide +kernel
theorem dX11_pair_62 : decode cX11_pair 62 = .ok (.getfield 28, 3) := by decide +kernel
theorem dX11_pair_65 : decode cX11_pair 65 = .ok (.iload 6, 2) := by decide +kernel
theorem dX11_pair_67 : decode cX11_pair 67 = .ok (.invokevirtual 208, 3) := by decide +kernel
theorem dX11_pair_70 : decode cX11_pair 70 = .ok (.iadd, 1) := by decide +kernel
theorem dX11_pair_71 : decode cX11_pair 71 = .ok (.istore 7, 2) := by decide +kernel
theorem dX11_pair_73 : decode cX11_pair 73 = .ok (.aload_n 0, 1) := by decide +kernel
theorem dX11_pair_74 : decode cX11_pair 74 = .ok (.getfield 17, 3) := by decide +kernel
theorem dX11_pair_77 : decode cX11_pair 77 = .ok (.iload 5, 2) := by decide +kernel
theorem dX11_pair_79 : decode cX11_pair 79 = .ok (.iload 6, 2) := by decide +kernel
theorem dX11_pair_81 : decode cX11_pair 81 = .ok (.invokevirtual 242, 3) := by decide +kernel
theorem dX11_pair_84 : decode cX11_pair 84 = .ok (.ifCond .eq 23, 3) := by decide +kernel
theorem dX11_pair_87 : decode cX11_pair 87 = .ok (.iload 7, 2) := by decide +kernel
theorem dX11_pair_89 : decode cX11_pair 89 = .ok (.iload 4, 2) := by decide +kernel
theorem dX11_pair_91 : decode cX11_pair 91 = .ok (.if_icmp .gt 6, 3) := by decide +kernel
theorem dX11_pair_94 : decode cX11_pair 94 = .ok (.goto 13, 3) := by decide +kernel
theorem dX11_pair_97 : decode cX11_pair 97 = .ok (.iload 5, 2) := by decide +kernel
theorem dX11_pair_99 : decode cX11_pair 99 = .ok (.istore_n 2, 1) := by decide +kernel
theorem dX11_pair_100 : decode cX11_pair 100 = .ok (.iload 6, 2) := by decide +kernel
theorem dX11_pair_102 : decode cX11_pair 102 = .ok (.istore_n 3, 1) := by decide +kernel
theorem dX11_pair_103 : decode cX11_pair 103 = .ok (.iload 7, 2) := by decide +kernel
theorem dX11_pair_105 : decode cX11_pair 105 = .ok (.istore 4, 2) := by decide +kernel
theorem dX11_pair_107 : decode cX11_pair 107 = .ok (.iinc 6 1, 3) := by decide +kernel
theorem dX11_pair_110 : decode cX11_pair 110 = .ok (.goto (-70), 3) := by decide +kernel
theorem dX11_pair_113 : decode cX11_pair 113 = .ok (.iinc 5 1, 3) := by decide +kernel
theorem dX11_pair_116 : decode cX11_pair 116 = .ok (.goto (-94), 3) := by decide +kernel
theorem dX11_pair_119 : decode cX11_pair 119 = .ok (.iload_n 1, 1) := by decide +kernel
theorem dX11_pair_120 : decode cX11_pair 120 = .ok (.ifCond .ne 5, 3) := by decide +kernel
theorem dX11_pair_123 : decode cX11_pair 123 = .ok (.iload_n 2, 1) := by decide +kernel
theorem dX11_pair_124 : decode cX11_pair 124 = .ok (.ireturn, 1) := by decide +kernel
theorem dX11_pair_125 : decode cX11_pair 125 = .ok (.iload_n 1, 1) := by decide +kernel
theorem dX11_pair_126 : decode cX11_pair 126 = .ok (.iconst 1, 1) := by decide +kernel
theorem dX11_pair_127 : decode cX11_pair 127 = .ok (.if_icmp .ne 7, 3) := by decide +kernel
theorem dX11_pair_130 : decode cX11_pair 130 = .ok (.iload_n 3, 1) := by decide +kernel
theorem dX11_pair_131 : decode cX11_pair 131 = .ok (.goto 5, 3) := by decide +kernel
theorem dX11_pair_134 : decode cX11_pair 134 = .ok (.iload 4, 2) := by decide +kernel
theorem dX11_pair_136 : decode cX11_pair 136 = .ok (.ireturn, 1) := by decide +kernel
theorem dX11_owes_0 : decode cX11_owes 0 = .ok (.aload_n 0, 1) := by decide +kernel
theorem dX11_owes_1 : decode cX11_owes 1 = .ok (.getfield 17, 3) := by decide +kernel
theorem dX11_owes_4 : decode cX11_owes 4 = .ok (.iload_n 1, 1) := by decide +kernel
theorem dX11_owes_5 : decode cX11_owes 5 = .ok (.invokevirtual 179, 3) := by decide +kernel
theorem dX11_owes_8 : decode cX11_owes 8 = .ok (.ifCond .eq 18, 3) := by decide +kernel
theorem dX11_owes_11 : decode cX11_owes 11 = .ok (.aload_n 0, 1) := by decide +kernel
theorem dX11_owes_12 : decode cX11_owes 12 = .ok (.getfield 87, 3) := by decide +kernel
theorem dX11_owes_15 : decode cX11_owes 15 = .ok (.aload_n 0, 1) := by decide +kernel
theorem dX11_owes_16 : decode cX11_owes 16 = .ok (.getfield 28, 3) := by decide +kernel
theorem dX11_owes_19 : decode cX11_owes 19 = .ok (.iload_n 1, 1) := by decide +kernel
theorem dX11_owes_20 : decode cX11_owes 20 = .ok (.invokevirtual 278, 3) := by decide +kernel
theorem dX11_owes_23 : decode cX11_owes 23 = .ok (.goto 5, 3) := by decide +kernel
theorem dX11_owes_26 : decode cX11_owes 26 = .ok (.ldc 183, 2) := by decide +kernel
theorem dX11_owes_28 : decode cX11_owes 28 = .ok (.ireturn, 1) := by decide +kernel
theorem dX11_payments_0 : decode cX11_payments 0 = .ok (.aload_n 0, 1) := by decide +kernel
theorem dX11_payments_1 : decode cX11_payments 1 = .ok (.getfield 87, 3) := by decide +kernel
theorem dX11_payments_4 : decode cX11_payments 4 = .ok (.aload_n 0, 1) := by decide +kernel
theorem dX11_payments_5 : decode cX11_payments 5 = .ok (.getfield 28, 3) := by decide +kernel
theorem dX11_payments_8 : decode cX11_payments 8 = .ok (.invokevirtual 282, 3) := by decide +kernel
theorem dX11_payments_11 : decode cX11_payments 11 = .ok (.ireturn, 1) := by decide +kernel
theorem dX11_sons_0 : decode cX11_sons 0 = .ok (.aload_n 0, 1) := by decide +kernel
theorem dX11_sons_1 : decode cX11_sons 1 = .ok (.getfield 17, 3) := by decide +kernel
theorem dX11_sons_4 : decode cX11_sons 4 = .ok (.iload_n 1, 1) := by decide +kernel
theorem dX11_sons_5 : decode cX11_sons 5 = .ok (.invokevirtual 179, 3) := by decide +kernel
theorem dX11_sons_8 : decode cX11_sons 8 = .ok (.ifCond .eq 18, 3) := by decide +kernel
theorem dX11_sons_11 : decode cX11_sons 11 = .ok (.aload_n 0, 1) := by decide +kernel
theorem dX11_sons_12 : decode cX11_sons 12 = .ok (.getfield 87, 3) := by decide +kernel
theorem dX11_sons_15 : decode cX11_sons 15 = .ok (.aload_n 0, 1) := by decide +kernel
theorem dX11_sons_16 : decode cX11_sons 16 = .ok (.getfield 28, 3) := by decide +kernel
theorem dX11_sons_19 : decode cX11_sons 19 = .ok (.iload_n 1, 1) := by decide +kernel
theorem dX11_sons_20 : decode cX11_sons 20 = .ok (.invokevirtual 286, 3) := by decide +kernel
theorem dX11_sons_23 : decode cX11_sons 23 = .ok (.goto 5, 3) := by decide +kernel
theorem dX11_sons_26 : decode cX11_sons 26 = .ok (.ldc 183, 2) := by decide +kernel
theorem dX11_sons_28 : decode cX11_sons 28 = .ok (.ireturn, 1) := by decide +kernel
theorem dX11_words_0 : decode cX11_words 0 = .ok (.iload_n 1, 1) := by decide +kernel
theorem dX11_words_1 : decode cX11_words 1 = .ok (.invokestatic 289, 3) := by decide +kernel
theorem dX11_words_4 : decode cX11_words 4 = .ok (.ifCond .ne 25, 3) := by decide +kernel
theorem dX11_words_7 : decode cX11_words 7 = .ok (.iload_n 2, 1) := by decide +kernel
theorem dX11_words_8 : decode cX11_words 8 = .ok (.invokestatic 289, 3) := by decide +kernel
theorem dX11_words_11 : decode cX11_words 11 = .ok (.ifCond .ne 18, 3) := by decide +kernel
theorem dX11_words_14 : decode cX11_words 14 = .ok (.iload_n 3, 1) := by decide +kernel
theorem dX11_words_15 : decode cX11_words 15 = .ok (.invokestatic 289, 3) := by decide +kernel
theorem dX11_words_18 : decode cX11_words 18 = .ok (.ifCond .ne 11, 3) := by decide +kernel
theorem dX11_words_21 : decode cX11_words 21 = .ok (.iload 4, 2) := by decide +kernel
theorem dX11_words_23 : decode cX11_words 23 = .ok (.invokestatic 289, 3) := by decide +kernel
theorem dX11_words_26 : decode cX11_words 26 = .ok (.ifCond .eq 6, 3) := by decide +kernel
theorem dX11_words_29 : decode cX11_words 29 = .ok (.ldc 105, 2) := by decide +kernel
theorem dX11_words_31 : decode cX11_words 31 = .ok (.ireturn, 1) := by decide +kernel
theorem dX11_words_32 : decode cX11_words 32 = .ok (.iload 5, 2) := by decide +kernel
theorem dX11_words_34 : decode cX11_words 34 = .ok (.ifCond .lt 9, 3) := by decide +kernel
theorem dX11_words_37 : decode cX11_words 37 = .ok (.iload 5, 2) := by decide +kernel
theorem dX11_words_39 : decode cX11_words 39 = .ok (.iconst 3, 1) := by decide +kernel
theorem dX11_words_40 : decode cX11_words 40 = .ok (.if_icmp .le 6, 3) := by decide +kernel
theorem dX11_words_43 : decode cX11_words 43 = .ok (.ldc 105, 2) := by decide +kernel
theorem dX11_words_45 : decode cX11_words 45 = .ok (.ireturn, 1) := by decide +kernel
theorem dX11_words_46 : decode cX11_words 46 = .ok (.aload_n 0, 1) := by decide +kernel
theorem dX11_words_47 : decode cX11_words 47 = .ok (.getfield 94, 3) := by decide +kernel
theorem dX11_words_50 : decode cX11_words 50 = .ok (.iload_n 1, 1) := by decide +kernel
theorem dX11_words_51 : decode cX11_words 51 = .ok (.iload_n 2, 1) := by decide +kernel
theorem dX11_words_52 : decode cX11_words 52 = .ok (.iload_n 3, 1) := by decide +kernel
theorem dX11_words_53 : decode cX11_words 53 = .ok (.iload 4, 2) := by decide +kernel
theorem dX11_words_55 : decode cX11_words 55 = .ok (.invokevirtual 292, 3) := by decide +kernel
theorem dX11_words_58 : decode cX11_words 58 = .ok (.iload 5, 2) := by decide +kernel
theorem dX11_words_60 : decode cX11_words 60 = .ok (.tableswitch 52 0 2 #[28, 36, 44], 28) := by decide +kernel
theorem dX11_words_88 : decode cX11_words 88 = .ok (.aload_n 0, 1) := by decide +kernel
theorem dX11_words_89 : decode cX11_words 89 = .ok (.getfield 94, 3) := by decide +kernel
theorem dX11_words_92 : decode cX11_words 92 = .ok (.getfield 296, 3) := by decide +kernel
theorem dX11_words_95 : decode cX11_words 95 = .ok (.ireturn, 1) := by decide +kernel
theorem dX11_words_96 : decode cX11_words 96 = .ok (.aload_n 0, 1) := by decide +kernel
theorem dX11_words_97 : decode cX11_words 97 = .ok (.getfield 94, 3) := by decide +kernel
theorem dX11_words_100 : decode cX11_words 100 = .ok (.getfield 299, 3) := by decide +kernel
theorem dX11_words_103 : decode cX11_words 103 = .ok (.ireturn, 1) := by decide +kernel
theorem dX11_words_104 : decode cX11_words 104 = .ok (.aload_n 0, 1) := by decide +kernel
theorem dX11_words_105 : decode cX11_words 105 = .ok (.getfield 94, 3) := by decide +kernel
theorem dX11_words_108 : decode cX11_words 108 = .ok (.getfield 302, 3) := by decide +kernel
theorem dX11_words_111 : decode cX11_words 111 = .ok (.ireturn, 1) := by decide +kernel
theorem dX11_words_112 : decode cX11_words 112 = .ok (.aload_n 0, 1) := by decide +kernel
theorem dX11_words_113 : decode cX11_words 113 = .ok (.getfield 94, 3) := by decide +kernel
theorem dX11_words_116 : decode cX11_words 116 = .ok (.getfield 305, 3) := by decide +kernel
theorem dX11_words_119 : decode cX11_words 119 = .ok (.ireturn, 1) := by decide +kernel
theorem dX11_pillar_0 : decode cX11_pillar 0 = .ok (.iload_n 1, 1) := by decide +kernel
theorem dX11_pillar_1 : decode cX11_pillar 1 = .ok (.iconst 1, 1) := by decide +kernel
theorem dX11_pillar_2 : decode cX11_pillar 2 = .ok (.if_icmp .lt 20, 3) := by decide +kernel
theorem dX11_pillar_5 : decode cX11_pillar 5 = .ok (.iload_n 1, 1) := by decide +kernel
theorem dX11_pillar_6 : decode cX11_pillar 6 = .ok (.bipush 30, 2) := by decide +kernel
theorem dX11_pillar_8 : decode cX11_pillar 8 = .ok (.if_icmp .gt 14, 3) := by decide +kernel
theorem dX11_pillar_11 : decode cX11_pillar 11 = .ok (.iload_n 2, 1) := by decide +kernel
theorem dX11_pillar_12 : decode cX11_pillar 12 = .ok (.iconst 1, 1) := by decide +kernel
theorem dX11_pillar_13 : decode cX11_pillar 13 = .ok (.if_icmp .lt 9, 3) := by decide +kernel
theorem dX11_pillar_16 : decode cX11_pillar 16 = .ok (.iload_n 2, 1) := by decide +kernel
theorem dX11_pillar_17 : decode cX11_pillar 17 = .ok (.bipush 40, 2) := by decide +kernel
theorem dX11_pillar_19 : decode cX11_pillar 19 = .ok (.if_icmp .le 6, 3) := by decide +kernel
theorem dX11_pillar_22 : decode cX11_pillar 22 = .ok (.ldc 105, 2) := by decide +kernel
theorem dX11_pillar_24 : decode cX11_pillar 24 = .ok (.ireturn, 1) := by decide +kernel
theorem dX11_pillar_25 : decode cX11_pillar 25 = .ok (.aload_n 0, 1) := by decide +kernel
theorem dX11_pillar_26 : decode cX11_pillar 26 = .ok (.getfield 17, 3) := by decide +kernel
theorem dX11_pillar_29 : decode cX11_pillar 29 = .ok (.invokevirtual 220, 3) := by decide +kernel
theorem dX11_pillar_32 : decode cX11_pillar 32 = .ok (.ifCond .ne 6, 3) := by decide +kernel
theorem dX11_pillar_35 : decode cX11_pillar 35 = .ok (.ldc 224, 2) := by decide +kernel
theorem dX11_pillar_37 : decode cX11_pillar 37 = .ok (.ireturn, 1) := by decide +kernel
theorem dX11_pillar_38 : decode cX11_pillar 38 = .ok (.aload_n 0, 1) := by decide +kernel
theorem dX11_pillar_39 : decode cX11_pillar 39 = .ok (.iload_n 2, 1) := by decide +kernel
theorem dX11_pillar_40 : decode cX11_pillar 40 = .ok (.iconst 0, 1) := by decide +kernel
theorem dX11_pillar_41 : decode cX11_pillar 41 = .ok (.invokevirtual 308, 3) := by decide +kernel
theorem dX11_pillar_44 : decode cX11_pillar 44 = .ok (.aload_n 0, 1) := by decide +kernel
theorem dX11_pillar_45 : decode cX11_pillar 45 = .ok (.iload_n 2, 1) := by decide +kernel
theorem dX11_pillar_46 : decode cX11_pillar 46 = .ok (.iload_n 1, 1) := by decide +kernel
theorem dX11_pillar_47 : decode cX11_pillar 47 = .ok (.invokevirtual 308, 3) := by decide +kernel
theorem dX11_pillar_50 : decode cX11_pillar 50 = .ok (.isub, 1) := by decide +kernel
theorem dX11_pillar_51 : decode cX11_pillar 51 = .ok (.ireturn, 1) := by decide +kernel
theorem dX11_see_0 : decode cX11_see 0 = .ok (.iload_n 1, 1) := by decide +kernel
theorem dX11_see_1 : decode cX11_see 1 = .ok (.ifCond .lt 9, 3) := by decide +kernel
theorem dX11_see_4 : decode cX11_see 4 = .ok (.iload_n 1, 1) := by decide +kernel
theorem dX11_see_5 : decode cX11_see 5 = .ok (.bipush 99, 2) := by decide +kernel
theorem dX11_see_7 : decode cX11_see 7 = .ok (.if_icmp .le 6, 3) := by decide +kernel
theorem dX11_see_10 : decode cX11_see 10 = .ok (.ldc 105, 2) := by decide +kernel
theorem dX11_see_12 : decode cX11_see 12 = .ok (.ireturn, 1) := by decide +kernel
theorem dX11_see_13 : decode cX11_see 13 = .ok (.aload_n 0, 1) := by decide +kernel
theorem dX11_see_14 : decode cX11_see 14 = .ok (.getfield 66, 3) := by decide +kernel
theorem dX11_see_17 : decode cX11_see 17 = .ok (.getfield 170, 3) := by decide +kernel
theorem dX11_see_20 : decode cX11_see 20 = .ok (.iconst 5, 1) := by decide +kernel
theorem dX11_see_21 : decode cX11_see 21 = .ok (.if_icmp .lt 6, 3) := by decide +kernel
theorem dX11_see_24 : decode cX11_see 24 = .ok (.ldc 109, 2) := by decide +kernel
theorem dX11_see_26 : decode cX11_see 26 = .ok (.ireturn, 1) := by decide +kernel
theorem dX11_see_27 : decode cX11_see 27 = .ok (.aload_n 0, 1) := by decide +kernel
theorem dX11_see_28 : decode cX11_see 28 = .ok (.getfield 66, 3) := by decide +kernel
theorem dX11_see_31 : decode cX11_see 31 = .ok (.iload_n 1, 1) := by decide +kernel
theorem dX11_see_32 : decode cX11_see 32 = .ok (.invokevirtual 311, 3) := by decide +kernel
theorem dX11_see_35 : decode cX11_see 35 = .ok (.ireturn, 1) := by decide +kernel
theorem dX11_who_0 : decode cX11_who 0 = .ok (.aload_n 0, 1) := by decide +kernel
theorem dX11_who_1 : decode cX11_who 1 = .ok (.getfield 17, 3) := by decide +kernel
theorem dX11_who_4 : decode cX11_who 4 = .ok (.invokevirtual 220, 3) := by decide +kernel
theorem dX11_who_7 : decode cX11_who 7 = .ok (.ifCond .ne 6, 3) := by decide +kernel
theorem dX11_who_10 : decode cX11_who 10 = .ok (.ldc 224, 2) := by decide +kernel
theorem dX11_who_12 : decode cX11_who 12 = .ok (.ireturn, 1) := by decide +kernel
theorem dX11_who_13 : decode cX11_who 13 = .ok (.aload_n 0, 1) := by decide +kernel
theorem dX11_who_14 : decode cX11_who 14 = .ok (.getfield 66, 3) := by decide +kernel
theorem dX11_who_17 : decode cX11_who 17 = .ok (.aload_n 0, 1) := by decide +kernel
theorem dX11_who_18 : decode cX11_who 18 = .ok (.getfield 28, 3) := by decide +kernel
theorem dX11_who_21 : decode cX11_who 21 = .ok (.invokevirtual 312, 3) := by decide +kernel
theorem dX11_who_24 : decode cX11_who 24 = .ok (.iload_n 1, 1) := by decide +kernel
theorem dX11_who_25 : decode cX11_who 25 = .ok (.iconst (-1), 1) := by decide +kernel
theorem dX11_who_26 : decode cX11_who 26 = .ok (.if_icmp .ne 13, 3) := by decide +kernel
theorem dX11_who_29 : decode cX11_who 29 = .ok (.aload_n 0, 1) := by decide +kernel
theorem dX11_who_30 : decode cX11_who 30 = .ok (.getfield 66, 3) := by decide +kernel
theorem dX11_who_33 : decode cX11_who 33 = .ok (.getfield 315, 3) := by decide +kernel
theorem dX11_who_36 : decode cX11_who 36 = .ok (.goto 11, 3) := by decide +kernel
theorem dX11_who_39 : decode cX11_who 39 = .ok (.aload_n 0, 1) := by decide +kernel
theorem dX11_who_40 : decode cX11_who 40 = .ok (.getfield 66, 3) := by decide +kernel
theorem dX11_who_43 : decode cX11_who 43 = .ok (.iload_n 1, 1) := by decide +kernel
theorem dX11_who_44 : decode cX11_who 44 = .ok (.invokevirtual 316, 3) := by decide +kernel
theorem dX11_who_47 : decode cX11_who 47 = .ok (.ireturn, 1) := by decide +kernel
theorem dX11_sure_0 : decode cX11_sure 0 = .ok (.aload_n 0, 1) := by decide +kernel
theorem dX11_sure_1 : decode cX11_sure 1 = .ok (.getfield 17, 3) := by decide +kernel
theorem dX11_sure_4 : decode cX11_sure 4 = .ok (.invokevirtual 220, 3) := by decide +kernel
theorem dX11_sure_7 : decode cX11_sure 7 = .ok (.ifCond .ne 6, 3) := by decide +kernel
theorem dX11_sure_10 : decode cX11_sure 10 = .ok (.ldc 224, 2) := by decide +kernel
theorem dX11_sure_12 : decode cX11_sure 12 = .ok (.ireturn, 1) := by decide +kernel
theorem dX11_sure_13 : decode cX11_sure 13 = .ok (.aload_n 0, 1) := by decide +kernel
theorem dX11_sure_14 : decode cX11_sure 14 = .ok (.getfield 66, 3) := by decide +kernel
theorem dX11_sure_17 : decode cX11_sure 17 = .ok (.aload_n 0, 1) := by decide +kernel
theorem dX11_sure_18 : decode cX11_sure 18 = .ok (.getfield 28, 3) := by decide +kernel
theorem dX11_sure_21 : decode cX11_sure 21 = .ok (.invokevirtual 312, 3) := by decide +kernel
theorem dX11_sure_24 : decode cX11_sure 24 = .ok (.aload_n 0, 1) := by decide +kernel
theorem dX11_sure_25 : decode cX11_sure 25 = .ok (.getfield 66, 3) := by decide +kernel
theorem dX11_sure_28 : decode cX11_sure 28 = .ok (.getfield 317, 3) := by decide +kernel
theorem dX11_sure_31 : decode cX11_sure 31 = .ok (.ireturn, 1) := by decide +kernel
theorem dX11_write_0 : decode cX11_write 0 = .ok (.aload_n 0, 1) := by decide +kernel
theorem dX11_write_1 : decode cX11_write 1 = .ok (.getfield 17, 3) := by decide +kernel
theorem dX11_write_4 : decode cX11_write 4 = .ok (.iload_n 1, 1) := by decide +kernel
theorem dX11_write_5 : decode cX11_write 5 = .ok (.invokevirtual 179, 3) := by decide +kernel
theorem dX11_write_8 : decode cX11_write 8 = .ok (.ifCond .ne 6, 3) := by decide +kernel
theorem dX11_write_11 : decode cX11_write 11 = .ok (.ldc 183, 2) := by decide +kernel
theorem dX11_write_13 : decode cX11_write 13 = .ok (.ireturn, 1) := by decide +kernel
theorem dX11_write_14 : decode cX11_write 14 = .ok (.iload_n 2, 1) := by decide +kernel
theorem dX11_write_15 : decode cX11_write 15 = .ok (.invokestatic 214, 3) := by decide +kernel
theorem dX11_write_18 : decode cX11_write 18 = .ok (.ifCond .ne 6, 3) := by decide +kernel
theorem dX11_write_21 : decode cX11_write 21 = .ok (.ldc 105, 2) := by decide +kernel
theorem dX11_write_23 : decode cX11_write 23 = .ok (.ireturn, 1) := by decide +kernel
theorem dX11_write_24 : decode cX11_write 24 = .ok (.aload_n 0, 1) := by decide +kernel
theorem dX11_write_25 : decode cX11_write 25 = .ok (.getfield 80, 3) := by decide +kernel
theorem dX11_write_28 : decode cX11_write 28 = .ok (.getfield 173, 3) := by decide +kernel
theorem dX11_write_31 : decode cX11_write 31 = .ok (.bipush 20, 2) := by decide +kernel
theorem dX11_write_33 : decode cX11_write 33 = .ok (.if_icmp .lt 6, 3) := by decide +kernel
theorem dX11_write_36 : decode cX11_write 36 = .ok (.ldc 109, 2) := by decide +kernel
theorem dX11_write_38 : decode cX11_write 38 = .ok (.ireturn, 1) := by decide +kernel
theorem dX11_write_39 : decode cX11_write 39 = .ok (.aload_n 0, 1) := by decide +kernel
theorem dX11_write_40 : decode cX11_write 40 = .ok (.getfield 80, 3) := by decide +kernel
theorem dX11_write_43 : decode cX11_write 43 = .ok (.iload_n 1, 1) := by decide +kernel
theorem dX11_write_44 : decode cX11_write 44 = .ok (.iload_n 2, 1) := by decide +kernel
theorem dX11_write_45 : decode cX11_write 45 = .ok (.iload_n 3, 1) := by decide +kernel
theorem dX11_write_46 : decode cX11_write 46 = .ok (.invokevirtual 320, 3) := by decide +kernel
theorem dX11_write_49 : decode cX11_write 49 = .ok (.ireturn, 1) := by decide +kernel
theorem dX11_judge_0 : decode cX11_judge 0 = .ok (.aload_n 0, 1) := by decide +kernel
theorem dX11_judge_1 : decode cX11_judge 1 = .ok (.getfield 32, 3) := by decide +kernel
theorem dX11_judge_4 : decode cX11_judge 4 = .ok (.aload_n 0, 1) := by decide +kernel
theorem dX11_judge_5 : decode cX11_judge 5 = .ok (.getfield 28, 3) := by decide +kernel
theorem dX11_judge_8 : decode cX11_judge 8 = .ok (.invokevirtual 323, 3) := by decide +kernel
theorem dX11_judge_11 : decode cX11_judge 11 = .ok (.aload_n 0, 1) := by decide +kernel
theorem dX11_judge_12 : decode cX11_judge 12 = .ok (.getfield 80, 3) := by decide +kernel
theorem dX11_judge_15 : decode cX11_judge 15 = .ok (.aload_n 0, 1) := by decide +kernel
theorem dX11_judge_16 : decode cX11_judge 16 = .ok (.getfield 32, 3) := by decide +kernel
theorem dX11_judge_19 : decode cX11_judge 19 = .ok (.invokevirtual 325, 3) := by decide +kernel
theorem dX11_judge_22 : decode cX11_judge 22 = .ok (.ireturn, 1) := by decide +kernel
theorem dX11_tear_0 : decode cX11_tear 0 = .ok (.aload_n 0, 1) := by decide +kernel
theorem dX11_tear_1 : decode cX11_tear 1 = .ok (.getfield 66, 3) := by decide +kernel
theorem dX11_tear_4 : decode cX11_tear 4 = .ok (.getfield 170, 3) := by decide +kernel
theorem dX11_tear_7 : decode cX11_tear 7 = .ok (.aload_n 0, 1) := by decide +kernel
theorem dX11_tear_8 : decode cX11_tear 8 = .ok (.getfield 80, 3) := by decide +kernel
theorem dX11_tear_11 : decode cX11_tear 11 = .ok (.getfield 173, 3) := by decide +kernel
theorem dX11_tear_14 : decode cX11_tear 14 = .ok (.iadd, 1) := by decide +kernel
theorem dX11_tear_15 : decode cX11_tear 15 = .ok (.istore_n 1, 1) := by decide +kernel
theorem dX11_tear_16 : decode cX11_tear 16 = .ok (.aload_n 0, 1) := by decide +kernel
theorem dX11_tear_17 : decode cX11_tear 17 = .ok (.getfield 66, 3) := by decide +kernel
theorem dX11_tear_20 : decode cX11_tear 20 = .ok (.invokevirtual 135, 3) := by decide +kernel
theorem dX11_tear_23 : decode cX11_tear 23 = .ok (.aload_n 0, 1) := by decide +kernel
theorem dX11_tear_24 : decode cX11_tear 24 = .ok (.getfield 80, 3) := by decide +kernel
theorem dX11_tear_27 : decode cX11_tear 27 = .ok (.invokevirtual 138, 3) := by decide +kernel
theorem dX11_tear_30 : decode cX11_tear 30 = .ok (.iload_n 1, 1) := by decide +kernel
theorem dX11_tear_31 : decode cX11_tear 31 = .ok (.ireturn, 1) := by decide +kernel
theorem dX11_seed_0 : decode cX11_seed 0 = .ok (.iload_n 1, 1) := by decide +kernel
theorem dX11_seed_1 : decode cX11_seed 1 = .ok (.ifCond .ge 6, 3) := by decide +kernel
theorem dX11_seed_4 : decode cX11_seed 4 = .ok (.ldc 105, 2) := by decide +kernel
theorem dX11_seed_6 : decode cX11_seed 6 = .ok (.ireturn, 1) := by decide +kernel
theorem dX11_seed_7 : decode cX11_seed 7 = .ok (.aload_n 0, 1) := by decide +kernel
theorem dX11_seed_8 : decode cX11_seed 8 = .ok (.getfield 102, 3) := by decide +kernel
theorem dX11_seed_11 : decode cX11_seed 11 = .ok (.istore_n 2, 1) := by decide +kernel
theorem dX11_seed_12 : decode cX11_seed 12 = .ok (.aload_n 0, 1) := by decide +kernel
theorem dX11_seed_13 : decode cX11_seed 13 = .ok (.iload_n 1, 1) := by decide +kernel
theorem dX11_seed_14 : decode cX11_seed 14 = .ok (.putfield 102, 3) := by decide +kernel
theorem dX11_seed_17 : decode cX11_seed 17 = .ok (.iload_n 2, 1) := by decide +kernel
theorem dX11_seed_18 : decode cX11_seed 18 = .ok (.ireturn, 1) := by decide +kernel
theorem dX11_keep_0 : decode cX11_keep 0 = .ok (.iload_n 1, 1) := by decide +kernel
theorem dX11_keep_1 : decode cX11_keep 1 = .ok (.invokestatic 328, 3) := by decide +kernel
theorem dX11_keep_4 : decode cX11_keep 4 = .ok (.ifCond .ne 6, 3) := by decide +kernel
theorem dX11_keep_7 : decode cX11_keep 7 = .ok (.ldc 183, 2) := by decide +kernel
theorem dX11_keep_9 : decode cX11_keep 9 = .ok (.ireturn, 1) := by decide +kernel
theorem dX11_keep_10 : decode cX11_keep 10 = .ok (.aload_n 0, 1) := by decide +kernel
theorem dX11_keep_11 : decode cX11_keep 11 = .ok (.getfield 42, 3) := by decide +kernel
theorem dX11_keep_14 : decode cX11_keep 14 = .ok (.iload_n 1, 1) := by decide +kernel
theorem dX11_keep_15 : decode cX11_keep 15 = .ok (.aaload, 1) := by decide +kernel
theorem dX11_keep_16 : decode cX11_keep 16 = .ok (.aload_n 0, 1) := by decide +kernel
theorem dX11_keep_17 : decode cX11_keep 17 = .ok (.getfield 28, 3) := by decide +kernel
theorem dX11_keep_20 : decode cX11_keep 20 = .ok (.invokevirtual 323, 3) := by decide +kernel
theorem dX11_keep_23 : decode cX11_keep 23 = .ok (.aload_n 0, 1) := by decide +kernel
theorem dX11_keep_24 : decode cX11_keep 24 = .ok (.getfield 50, 3) := by decide +kernel
theorem dX11_keep_27 : decode cX11_keep 27 = .ok (.iload_n 1, 1) := by decide +kernel
theorem dX11_keep_28 : decode cX11_keep 28 = .ok (.aload_n 0, 1) := by decide +kernel
theorem dX11_keep_29 : decode cX11_keep 29 = .ok (.getfield 102, 3) := by decide +kernel
theorem dX11_keep_32 : decode cX11_keep 32 = .ok (.iastore, 1) := by decide +kernel
theorem dX11_keep_33 : decode cX11_keep 33 = .ok (.aload_n 0, 1) := by decide +kernel
theorem dX11_keep_34 : decode cX11_keep 34 = .ok (.getfield 46, 3) := by decide +kernel
theorem dX11_keep_37 : decode cX11_keep 37 = .ok (.iload_n 1, 1) := by decide +kernel
theorem dX11_keep_38 : decode cX11_keep 38 = .ok (.iconst 1, 1) := by decide +kernel
theorem dX11_keep_39 : decode cX11_keep 39 = .ok (.bastore, 1) := by decide +kernel
theorem dX11_keep_40 : decode cX11_keep 40 = .ok (.aload_n 0, 1) := by decide +kernel
theorem dX11_keep_41 : decode cX11_keep 41 = .ok (.getfield 38, 3) := by decide +kernel
theorem dX11_keep_44 : decode cX11_keep 44 = .ok (.invokevirtual 132, 3) := by decide +kernel
theorem dX11_keep_47 : decode cX11_keep 47 = .ok (.iconst 1, 1) := by decide +kernel
theorem dX11_keep_48 : decode cX11_keep 48 = .ok (.ireturn, 1) := by decide +kernel
theorem dX11_goBack_0 : decode cX11_goBack 0 = .ok (.iload_n 1, 1) := by decide +kernel
theorem dX11_goBack_1 : decode cX11_goBack 1 = .ok (.invokestatic 328, 3) := by decide +kernel
theorem dX11_goBack_4 : decode cX11_goBack 4 = .ok (.ifCond .ne 6, 3) := by decide +kernel
theorem dX11_goBack_7 : decode cX11_goBack 7 = .ok (.ldc 183, 2) := by decide +kernel
theorem dX11_goBack_9 : decode cX11_goBack 9 = .ok (.ireturn, 1) := by decide +kernel
theorem dX11_goBack_10 : decode cX11_goBack 10 = .ok (.aload_n 0, 1) := by decide +kernel
theorem dX11_goBack_11 : decode cX11_goBack 11 = .ok (.getfield 46, 3) := by decide +kernel
theorem dX11_goBack_14 : decode cX11_goBack 14 = .ok (.iload_n 1, 1) := by decide +kernel
theorem dX11_goBack_15 : decode cX11_goBack 15 = .ok (.baload, 1) := by decide +kernel
theorem dX11_goBack_16 : decode cX11_goBack 16 = .ok (.ifCond .ne 6, 3) := by decide +kernel
theorem dX11_goBack_19 : decode cX11_goBack 19 = .ok (.ldc 224, 2) := by decide +kernel
theorem dX11_goBack_21 : decode cX11_goBack 21 = .ok (.ireturn, 1) := by decide +kernel
theorem dX11_goBack_22 : decode cX11_goBack 22 = .ok (.aload_n 0, 1) := by decide +kernel
theorem dX11_goBack_23 : decode cX11_goBack 23 = .ok (.getfield 28, 3) := by decide +kernel
theorem dX11_goBack_26 : decode cX11_goBack 26 = .ok (.aload_n 0, 1) := by decide +kernel
theorem dX11_goBack_27 : decode cX11_goBack 27 = .ok (.getfield 42, 3) := by decide +kernel
theorem dX11_goBack_30 : decode cX11_goBack 30 = .ok (.iload_n 1, 1) := by decide +kernel
theorem dX11_goBack_31 : decode cX11_goBack 31 = .ok (.aaload, 1) := by decide +kernel
theorem dX11_goBack_32 : decode cX11_goBack 32 = .ok (.invokevirtual 323, 3) := by decide +kernel
theorem dX11_goBack_35 : decode cX11_goBack 35 = .ok (.aload_n 0, 1) := by decide +kernel
theorem dX11_goBack_36 : decode cX11_goBack 36 = .ok (.aload_n 0, 1) := by decide +kernel
theorem dX11_goBack_37 : decode cX11_goBack 37 = .ok (.getfield 50, 3) := by decide +kernel
theorem dX11_goBack_40 : decode cX11_goBack 40 = .ok (.iload_n 1, 1) := by decide +kernel
theorem dX11_goBack_41 : decode cX11_goBack 41 = .ok (.iaload, 1) := by decide +kernel
theorem dX11_goBack_42 : decode cX11_goBack 42 = .ok (.putfield 102, 3) := by decide +kernel
theorem dX11_goBack_45 : decode cX11_goBack 45 = .ok (.aload_n 0, 1) := by decide +kernel
theorem dX11_goBack_46 : decode cX11_goBack 46 = .ok (.getfield 38, 3) := by decide +kernel
theorem dX11_goBack_49 : decode cX11_goBack 49 = .ok (.invokevirtual 132, 3) := by decide +kernel
theorem dX11_goBack_52 : decode cX11_goBack 52 = .ok (.iconst 1, 1) := by decide +kernel
theorem dX11_goBack_53 : decode cX11_goBack 53 = .ok (.ireturn, 1) := by decide +kernel
theorem dX11_isWord_0 : decode cX11_isWord 0 = .ok (.iload_n 0, 1) := by decide +kernel
theorem dX11_isWord_1 : decode cX11_isWord 1 = .ok (.ifCond .lt 12, 3) := by decide +kernel
theorem dX11_isWord_4 : decode cX11_isWord 4 = .ok (.iload_n 0, 1) := by decide +kernel
theorem dX11_isWord_5 : decode cX11_isWord 5 = .ok (.iconst 3, 1) := by decide +kernel
theorem dX11_isWord_6 : decode cX11_isWord 6 = .ok (.if_icmp .ge 7, 3) := by decide +kernel
theorem dX11_isWord_9 : decode cX11_isWord 9 = .ok (.iconst 1, 1) := by decide +kernel
theorem dX11_isWord_10 : decode cX11_isWord 10 = .ok (.goto 4, 3) := by decide +kernel
theorem dX11_isWord_13 : decode cX11_isWord 13 = .ok (.iconst 0, 1) := by decide +kernel
theorem dX11_isWord_14 : decode cX11_isWord 14 = .ok (.ireturn, 1) := by decide +kernel
theorem dX11_isImage_0 : decode cX11_isImage 0 = .ok (.iload_n 0, 1) := by decide +kernel
theorem dX11_isImage_1 : decode cX11_isImage 1 = .ok (.ifCond .lt 12, 3) := by decide +kernel
theorem dX11_isImage_4 : decode cX11_isImage 4 = .ok (.iload_n 0, 1) := by decide +kernel
theorem dX11_isImage_5 : decode cX11_isImage 5 = .ok (.iconst 2, 1) := by decide +kernel
theorem dX11_isImage_6 : decode cX11_isImage 6 = .ok (.if_icmp .ge 7, 3) := by decide +kernel
theorem dX11_isImage_9 : decode cX11_isImage 9 = .ok (.iconst 1, 1) := by decide +kernel
theorem dX11_isImage_10 : decode cX11_isImage 10 = .ok (.goto 4, 3) := by decide +kernel
theorem dX11_isImage_13 : decode cX11_isImage 13 = .ok (.iconst 0, 1) := by decide +kernel
theorem dX11_isImage_14 : decode cX11_isImage 14 = .ok (.ireturn, 1) := by decide +kernel
theorem dX11_isNoGain_0 : decode cX11_isNoGain 0 = .ok (.iload_n 0, 1) := by decide +kernel
theorem dX11_isNoGain_1 : decode cX11_isNoGain 1 = .ok (.ifCond .lt 9, 3) := by decide +kernel
theorem dX11_isNoGain_4 : decode cX11_isNoGain 4 = .ok (.iload_n 0, 1) := by decide +kernel
theorem dX11_isNoGain_5 : decode cX11_isNoGain 5 = .ok (.bipush 9, 2) := by decide +kernel
theorem dX11_isNoGain_7 : decode cX11_isNoGain 7 = .ok (.if_icmp .le 7, 3) := by decide +kernel
theorem dX11_isNoGain_10 : decode cX11_isNoGain 10 = .ok (.iconst 1, 1) := by decide +kernel
theorem dX11_isNoGain_11 : decode cX11_isNoGain 11 = .ok (.goto 4, 3) := by decide +kernel
theorem dX11_isNoGain_14 : decode cX11_isNoGain 14 = .ok (.iconst 0, 1) := by decide +kernel
theorem dX11_isNoGain_15 : decode cX11_isNoGain 15 = .ok (.ireturn, 1) := by decide +kernel
theorem dX11_isNoTrial_0 : decode cX11_isNoTrial 0 = .ok (.iload_n 0, 1) := by decide +kernel
theorem dX11_isNoTrial_1 : decode cX11_isNoTrial 1 = .ok (.iconst 1, 1) := by decide +kernel
theorem dX11_isNoTrial_2 : decode cX11_isNoTrial 2 = .ok (.if_icmp .lt 18, 3) := by decide +kernel
theorem dX11_isNoTrial_5 : decode cX11_isNoTrial 5 = .ok (.iload_n 0, 1) := by decide +kernel
theorem dX11_isNoTrial_6 : decode cX11_isNoTrial 6 = .ok (.iconst 5, 1) := by decide +kernel
theorem dX11_isNoTrial_7 : decode cX11_isNoTrial 7 = .ok (.if_icmp .gt 13, 3) := by decide +kernel
theorem dX11_isNoTrial_10 : decode cX11_isNoTrial 10 = .ok (.iload_n 1, 1) := by decide +kernel
theorem dX11_isNoTrial_11 : decode cX11_isNoTrial 11 = .ok (.ifCond .lt 9, 3) := by decide +kernel
theorem dX11_isNoTrial_14 : decode cX11_isNoTrial 14 = .ok (.iload_n 1, 1) := by decide +kernel
theorem dX11_isNoTrial_15 : decode cX11_isNoTrial 15 = .ok (.bipush 99, 2) := by decide +kernel
theorem dX11_isNoTrial_17 : decode cX11_isNoTrial 17 = .ok (.if_icmp .le 7, 3) := by decide +kernel
theorem dX11_isNoTrial_20 : decode cX11_isNoTrial 20 = .ok (.iconst 1, 1) := by decide +kernel
theorem dX11_isNoTrial_21 : decode cX11_isNoTrial 21 = .ok (.goto 4, 3) := by decide +kernel
theorem dX11_isNoTrial_24 : decode cX11_isNoTrial 24 = .ok (.iconst 0, 1) := by decide +kernel
theorem dX11_isNoTrial_25 : decode cX11_isNoTrial 25 = .ok (.ireturn, 1) := by decide +kernel
theorem dX11_letHourPass_0 : decode cX11_letHourPass 0 = .ok (.aload_n 0, 1) := by decide +kernel
theorem dX11_letHourPass_1 : decode cX11_letHourPass 1 = .ok (.getfield 38, 3) := by decide +kernel
theorem dX11_letHourPass_4 : decode cX11_letHourPass 4 = .ok (.aload_n 0, 1) := by decide +kernel
theorem dX11_letHourPass_5 : decode cX11_letHourPass 5 = .ok (.getfield 28, 3) := by decide +kernel
theorem dX11_letHourPass_8 : decode cX11_letHourPass 8 = .ok (.invokevirtual 331, 3) := by decide +kernel
theorem dX11_letHourPass_11 : decode cX11_letHourPass 11 = .ok (.aload_n 0, 1) := by decide +kernel
theorem dX11_letHourPass_12 : decode cX11_letHourPass 12 = .ok (.getfield 28, 3) := by decide +kernel
theorem dX11_letHourPass_15 : decode cX11_letHourPass 15 = .ok (.iconst 0, 1) := by decide +kernel
theorem dX11_letHourPass_16 : decode cX11_letHourPass 16 = .ok (.invokevirtual 333, 3) := by decide +kernel
theorem dX11_letHourPass_19 : decode cX11_letHourPass 19 = .ok (.return_, 1) := by decide +kernel
theorem dX11_passByDraw_0 : decode cX11_passByDraw 0 = .ok (.aload_n 0, 1) := by decide +kernel
theorem dX11_passByDraw_1 : decode cX11_passByDraw 1 = .ok (.aload_n 0, 1) := by decide +kernel
theorem dX11_passByDraw_2 : decode cX11_passByDraw 2 = .ok (.getfield 17, 3) := by decide +kernel
theorem dX11_passByDraw_5 : decode cX11_passByDraw 5 = .ok (.getfield 139, 3) := by decide +kernel
theorem dX11_passByDraw_8 : decode cX11_passByDraw 8 = .ok (.invokevirtual 336, 3) := by decide +kernel
theorem dX11_passByDraw_11 : decode cX11_passByDraw 11 = .ok (.istore_n 1, 1) := by decide +kernel
theorem dX11_passByDraw_12 : decode cX11_passByDraw 12 = .ok (.aload_n 0, 1) := by decide +kernel
theorem dX11_passByDraw_13 : decode cX11_passByDraw 13 = .ok (.getfield 28, 3) := by decide +kernel
theorem dX11_passByDraw_16 : decode cX11_passByDraw 16 = .ok (.iload_n 1, 1) := by decide +kernel
theorem dX11_passByDraw_17 : decode cX11_passByDraw 17 = .ok (.invokevirtual 228, 3) := by decide +kernel
theorem dX11_passByDraw_20 : decode cX11_passByDraw 20 = .ok (.ifCond .eq 4, 3) := by decide +kernel
theorem dX11_passByDraw_23 : decode cX11_passByDraw 23 = .ok (.return_, 1) := by decide +kernel
theorem dX11_passByDraw_24 : decode cX11_passByDraw 24 = .ok (.aload_n 0, 1) := by decide +kernel
theorem dX11_passByDraw_25 : decode cX11_passByDraw 25 = .ok (.getfield 28, 3) := by decide +kernel
theorem dX11_passByDraw_28 : decode cX11_passByDraw 28 = .ok (.iload_n 1, 1) := by decide +kernel
theorem dX11_passByDraw_29 : decode cX11_passByDraw 29 = .ok (.invokevirtual 235, 3) := by decide +kernel
theorem dX11_passByDraw_32 : decode cX11_passByDraw 32 = .ok (.ifCond .eq 14, 3) := by decide +kernel
theorem dX11_passByDraw_35 : decode cX11_passByDraw 35 = .ok (.aload_n 0, 1) := by decide +kernel
theorem dX11_passByDraw_36 : decode cX11_passByDraw 36 = .ok (.getfield 28, 3) := by decide +kernel
theorem dX11_passByDraw_39 : decode cX11_passByDraw 39 = .ok (.iload_n 1, 1) := by decide +kernel
theorem dX11_passByDraw_40 : decode cX11_passByDraw 40 = .ok (.invokevirtual 238, 3) := by decide +kernel
theorem dX11_passByDraw_43 : decode cX11_passByDraw 43 = .ok (.goto 17, 3) := by decide +kernel
theorem dX11_passByDraw_46 : decode cX11_passByDraw 46 = .ok (.aload_n 0, 1) := by decide +kernel
theorem dX11_passByDraw_47 : decode cX11_passByDraw 47 = .ok (.getfield 28, 3) := by decide +kernel
theorem dX11_passByDraw_50 : decode cX11_passByDraw 50 = .ok (.iload_n 1, 1) := by decide +kernel
theorem dX11_passByDraw_51 : decode cX11_passByDraw 51 = .ok (.aload_n 0, 1) := by decide +kernel
theorem dX11_passByDraw_52 : decode cX11_passByDraw 52 = .ok (.iconst 3, 1) := by decide +kernel
theorem dX11_passByDraw_53 : decode cX11_passByDraw 53 = .ok (.invokevirtual 336, 3) := by decide +kernel
theorem dX11_passByDraw_56 : decode cX11_passByDraw 56 = .ok (.invokevirtual 231, 3) := by decide +kernel
theorem dX11_passByDraw_59 : decode cX11_passByDraw 59 = .ok (.pop, 1) := by decide +kernel
theorem dX11_passByDraw_60 : decode cX11_passByDraw 60 = .ok (.return_, 1) := by decide +kernel
theorem dX11_draw_0 : decode cX11_draw 0 = .ok (.aload_n 0, 1) := by decide +kernel
theorem dX11_draw_1 : decode cX11_draw 1 = .ok (.aload_n 0, 1) := by decide +kernel
theorem dX11_draw_2 : decode cX11_draw 2 = .ok (.getfield 102, 3) := by decide +kernel
theorem dX11_draw_5 : decode cX11_draw 5 = .ok (.i2l, 1) := by decide +kernel
theorem dX11_draw_6 : decode cX11_draw 6 = .ok (.ldc2_w 339, 3) := by decide +kernel
theorem dX11_draw_9 : decode cX11_draw 9 = .ok (.lmul, 1) := by decide +kernel
theorem dX11_draw_10 : decode cX11_draw 10 = .ok (.ldc2_w 341, 3) := by decide +kernel
theorem dX11_draw_13 : decode cX11_draw 13 = .ok (.ladd, 1) := by decide +kernel
theorem dX11_draw_14 : decode cX11_draw 14 = .ok (.ldc2_w 343, 3) := by decide +kernel
theorem dX11_draw_17 : decode cX11_draw 17 = .ok (.land, 1) := by decide +kernel
theorem dX11_draw_18 : decode cX11_draw 18 = .ok (.l2i, 1) := by decide +kernel
theorem dX11_draw_19 : decode cX11_draw 19 = .ok (.putfield 102, 3) := by decide +kernel
theorem dX11_draw_22 : decode cX11_draw 22 = .ok (.iload_n 1, 1) := by decide +kernel
theorem dX11_draw_23 : decode cX11_draw 23 = .ok (.iconst 1, 1) := by decide +kernel
theorem dX11_draw_24 : decode cX11_draw 24 = .ok (.if_icmp .ge 7, 3) := by decide +kernel
theorem dX11_draw_27 : decode cX11_draw 27 = .ok (.iconst 0, 1) := by decide +kernel
theorem dX11_draw_28 : decode cX11_draw 28 = .ok (.goto 13, 3) := by decide +kernel
theorem dX11_draw_31 : decode cX11_draw 31 = .ok (.aload_n 0, 1) := by decide +kernel
theorem dX11_draw_32 : decode cX11_draw 32 = .ok (.getfield 102, 3) := by decide +kernel
theorem dX11_draw_35 : decode cX11_draw 35 = .ok (.ldc_w 345, 3) := by decide +kernel
theorem dX11_draw_38 : decode cX11_draw 38 = .ok (.idiv, 1) := by decide +kernel
theorem dX11_draw_39 : decode cX11_draw 39 = .ok (.iload_n 1, 1) := by decide +kernel
theorem dX11_draw_40 : decode cX11_draw 40 = .ok (.irem, 1) := by decide +kernel
theorem dX11_draw_41 : decode cX11_draw 41 = .ok (.ireturn, 1) := by decide +kernel
theorem dX11_harmBehind_0 : decode cX11_harmBehind 0 = .ok (.aload_n 0, 1) := by decide +kernel
theorem dX11_harmBehind_1 : decode cX11_harmBehind 1 = .ok (.getfield 32, 3) := by decide +kernel
theorem dX11_harmBehind_4 : decode cX11_harmBehind 4 = .ok (.aload_n 0, 1) := by decide +kernel
theorem dX11_harmBehind_5 : decode cX11_harmBehind 5 = .ok (.getfield 28, 3) := by decide +kernel
theorem dX11_harmBehind_8 : decode cX11_harmBehind 8 = .ok (.invokevirtual 323, 3) := by decide +kernel
theorem dX11_harmBehind_11 : decode cX11_harmBehind 11 = .ok (.iconst 0, 1) := by decide +kernel
theorem dX11_harmBehind_12 : decode cX11_harmBehind 12 = .ok (.istore_n 3, 1) := by decide +kernel
theorem dX11_harmBehind_13 : decode cX11_harmBehind 13 = .ok (.iload_n 3, 1) := by decide +kernel
theorem dX11_harmBehind_14 : decode cX11_harmBehind 14 = .ok (.iload_n 1, 1) := by decide +kernel
theorem dX11_harmBehind_15 : decode cX11_harmBehind 15 = .ok (.if_icmp .ge 17, 3) := by decide +kernel
theorem dX11_harmBehind_18 : decode cX11_harmBehind 18 = .ok (.aload_n 0, 1) := by decide +kernel
theorem dX11_harmBehind_19 : decode cX11_harmBehind 19 = .ok (.getfield 32, 3) := by decide +kernel
theorem dX11_harmBehind_22 : decode cX11_harmBehind 22 = .ok (.iload_n 2, 1) := by decide +kernel
theorem dX11_harmBehind_23 : decode cX11_harmBehind 23 = .ok (.invokevirtual 333, 3) := by decide +kernel
theorem dX11_harmBehind_26 : decode cX11_harmBehind 26 = .ok (.iinc 3 1, 3) := by decide +kernel
theorem dX11_harmBehind_29 : decode cX11_harmBehind 29 = .ok (.goto (-16), 3) := by decide +kernel
theorem dX11_harmBehind_32 : decode cX11_harmBehind 32 = .ok (.aload_n 0, 1) := by decide +kernel
theorem dX11_harmBehind_33 : decode cX11_harmBehind 33 = .ok (.getfield 32, 3) := by decide +kernel
theorem dX11_harmBehind_36 : decode cX11_harmBehind 36 = .ok (.getfield 151, 3) := by decide +kernel
theorem dX11_harmBehind_39 : decode cX11_harmBehind 39 = .ok (.ireturn, 1) := by decide +kernel
theorem dX12_init_0 : decode cX12_init 0 = .ok (.aload_n 0, 1) := by decide +kernel
theorem dX12_init_1 : decode cX12_init 1 = .ok (.invokespecial 1, 3) := by decide +kernel
theorem dX12_init_4 : decode cX12_init 4 = .ok (.aload_n 0, 1) := by decide +kernel
theorem dX12_init_5 : decode cX12_init 5 = .ok (.sipush 250, 3) := by decide +kernel
theorem dX12_init_8 : decode cX12_init 8 = .ok (.newarray .int, 2) := by decide +kernel
theorem dX12_init_10 : decode cX12_init 10 = .ok (.putfield 7, 3) := by decide +kernel
theorem dX12_init_13 : decode cX12_init 13 = .ok (.aload_n 0, 1) := by decide +kernel
theorem dX12_init_14 : decode cX12_init 14 = .ok (.iconst (-1), 1) := by decide +kernel
theorem dX12_init_15 : decode cX12_init 15 = .ok (.putfield 13, 3) := by decide +kernel
theorem dX12_init_18 : decode cX12_init 18 = .ok (.aload_n 0, 1) := by decide +kernel
theorem dX12_init_19 : decode cX12_init 19 = .ok (.bipush 12, 2) := by decide +kernel
theorem dX12_init_21 : decode cX12_init 21 = .ok (.newarray .int, 2) := by decide +kernel
theorem dX12_init_23 : decode cX12_init 23 = .ok (.putfield 17, 3) := by decide +kernel
theorem dX12_init_26 : decode cX12_init 26 = .ok (.aload_n 0, 1) := by decide +kernel
theorem dX12_init_27 : decode cX12_init 27 = .ok (.bipush 30, 2) := by decide +kernel
theorem dX12_init_29 : decode cX12_init 29 = .ok (.newarray .int, 2) := by decide +kernel
theorem dX12_init_31 : decode cX12_init 31 = .ok (.putfield 20, 3) := by decide +kernel
theorem dX12_init_34 : decode cX12_init 34 = .ok (.aload_n 0, 1) := by decide +kernel
theorem dX12_init_35 : decode cX12_init 35 = .ok (.iconst 3, 1) := by decide +kernel
theorem dX12_init_36 : decode cX12_init 36 = .ok (.newarray .int, 2) := by decide +kernel
theorem dX12_init_38 : decode cX12_init 38 = .ok (.putfield 23, 3) := by decide +kernel
theorem dX12_init_41 : decode cX12_init 41 = .ok (.aload_n 0, 1) := by decide +kernel
theorem dX12_init_42 : decode cX12_init 42 = .ok (.bipush 12, 2) := by decide +kernel
theorem dX12_init_44 : decode cX12_init 44 = .ok (.newarray .int, 2) := by decide +kernel
theorem dX12_init_46 : decode cX12_init 46 = .ok (.putfield 26, 3) := by decide +kernel
theorem dX12_init_49 : decode cX12_init 49 = .ok (.aload_n 0, 1) := by decide +kernel
theorem dX12_init_50 : decode cX12_init 50 = .ok (.bipush 30, 2) := by decide +kernel
theorem dX12_init_52 : decode cX12_init 52 = .ok (.newarray .int, 2) := by decide +kernel
theorem dX12_init_54 : decode cX12_init 54 = .ok (.putfield 29, 3) := by decide +kernel
theorem dX12_init_57 : decode cX12_init 57 = .ok (.aload_n 0, 1) := by decide +kernel
theorem dX12_init_58 : decode cX12_init 58 = .ok (.iconst 3, 1) := by decide +kernel
theorem dX12_init_59 : decode cX12_init 59 = .ok (.newarray .int, 2) := by decide +kernel
theorem dX12_init_61 : decode cX12_init 61 = .ok (.putfield 32, 3) := by decide +kernel
theorem dX12_init_64 : decode cX12_init 64 = .ok (.aload_n 0, 1) := by decide +kernel
theorem dX12_init_65 : decode cX12_init 65 = .ok (.bipush 31, 2) := by decide +kernel
theorem dX12_init_67 : decode cX12_init 67 = .ok (.newarray .int, 2) := by decide +kernel
theorem dX12_init_69 : decode cX12_init 69 = .ok (.putfield 35, 3) := by decide +kernel
theorem dX12_init_72 : decode cX12_init 72 = .ok (.aload_n 0, 1) := by decide +kernel
theorem dX12_init_73 : decode cX12_init 73 = .ok (.bipush 31, 2) := by decide +kernel
theorem dX12_init_75 : decode cX12_init 75 = .ok (.newarray .int, 2) := by decide +kernel
theorem dX12_init_77 : decode cX12_init 77 = .ok (.putfield 38, 3) := by decide +kernel
theorem dX12_init_80 : decode cX12_init 80 = .ok (.aload_n 0, 1) := by decide +kernel
theorem dX12_init_81 : decode cX12_init 81 = .ok (.bipush 62, 2) := by decide +kernel
theorem dX12_init_83 : decode cX12_init 83 = .ok (.newarray .int, 2) := by decide +kernel
theorem dX12_init_85 : decode cX12_init 85 = .ok (.putfield 41, 3) := by decide +kernel
theorem dX12_init_88 : decode cX12_init 88 = .ok (.aload_n 0, 1) := by decide +kernel
theorem dX12_init_89 : decode cX12_init 89 = .ok (.iconst 2, 1) := by decide +kernel
theorem dX12_init_90 : decode cX12_init 90 = .ok (.newarray .boolean, 2) := by decide +kernel
theorem dX12_init_92 : decode cX12_init 92 = .ok (.putfield 44, 3) := by decide +kernel
theorem dX12_init_95 : decode cX12_init 95 = .ok (.aload_n 0, 1) := by decide +kernel
theorem dX12_init_96 : decode cX12_init 96 = .ok (.sipush 1860, 3) := by decide +kernel
theorem dX12_init_99 : decode cX12_init 99 = .ok (.newarray .int, 2) := by decide +kernel
theorem dX12_init_101 : decode cX12_init 101 = .ok (.putfield 48, 3) := by decide +kernel
theorem dX12_init_104 : decode cX12_init 104 = .ok (.aload_n 0, 1) := by decide +kernel
theorem dX12_init_105 : decode cX12_init 105 = .ok (.iconst 5, 1) := by decide +kernel
theorem dX12_init_106 : decode cX12_init 106 = .ok (.newarray .int, 2) := by decide +kernel
theorem dX12_init_108 : decode cX12_init 108 = .ok (.putfield 51, 3) := by decide +kernel
theorem dX12_init_111 : decode cX12_init 111 = .ok (.aload_n 0, 1) := by decide +kernel
theorem dX12_init_112 : decode cX12_init 112 = .ok (.bipush 60, 2) := by decide +kernel
theorem dX12_init_114 : decode cX12_init 114 = .ok (.newarray .int, 2) := by decide +kernel
theorem dX12_init_116 : decode cX12_init 116 = .ok (.putfield 54, 3) := by decide +kernel
theorem dX12_init_119 : decode cX12_init 119 = .ok (.aload_n 0, 1) := by decide +kernel
theorem dX12_init_120 : decode cX12_init 120 = .ok (.iconst 5, 1) := by decide +kernel
theorem dX12_init_121 : decode cX12_init 121 = .ok (.newarray .int, 2) := by decide +kernel
theorem dX12_init_123 : decode cX12_init 123 = .ok (.putfield 57, 3) := by decide +kernel
theorem dX12_init_126 : decode cX12_init 126 = .ok (.aload_n 0, 1) := by decide +kernel
theorem dX12_init_127 : decode cX12_init 127 = .ok (.bipush 6, 2) := by decide +kernel
theorem dX12_init_129 : decode cX12_init 129 = .ok (.newarray .int, 2) := by decide +kernel
theorem dX12_init_131 : decode cX12_init 131 = .ok (.putfield 60, 3) := by decide +kernel
theorem dX12_init_134 : decode cX12_init 134 = .ok (.aload_n 0, 1) := by decide +kernel
theorem dX12_init_135 : decode cX12_init 135 = .ok (.bipush 64, 2) := by decide +kernel
theorem dX12_init_137 : decode cX12_init 137 = .ok (.newarray .int, 2) := by decide +kernel
theorem dX12_init_139 : decode cX12_init 139 = .ok (.putfield 63, 3) := by decide +kernel
theorem dX12_init_142 : decode cX12_init 142 = .ok (.aload_n 0, 1) := by decide +kernel
theorem dX12_init_143 : decode cX12_init 143 = .ok (.invokevirtual 66, 3) := by decide +kernel
theorem dX12_init_146 : decode cX12_init 146 = .ok (.aload_n 0, 1) := by decide +kernel
theorem dX12_init_147 : decode cX12_init 147 = .ok (.getfield 32, 3) := by decide +kernel
theorem dX12_init_150 : decode cX12_init 150 = .ok (.iconst 0, 1) := by decide +kernel
theorem dX12_init_151 : decode cX12_init 151 = .ok (.iconst 3, 1) := by decide +kernel
theorem dX12_init_152 : decode cX12_init 152 = .ok (.iastore, 1) := by decide +kernel
theorem dX12_init_153 : decode cX12_init 153 = .ok (.aload_n 0, 1) := by decide +kernel
theorem dX12_init_154 : decode cX12_init 154 = .ok (.getfield 32, 3) := by decide +kernel
theorem dX12_init_157 : decode cX12_init 157 = .ok (.iconst 1, 1) := by decide +kernel
theorem dX12_init_158 : decode cX12_init 158 = .ok (.iconst 5, 1) := by decide +kernel
theorem dX12_init_159 : decode cX12_init 159 = .ok (.iastore, 1) := by decide +kernel
theorem dX12_init_160 : decode cX12_init 160 = .ok (.aload_n 0, 1) := by decide +kernel
theorem dX12_init_161 : decode cX12_init 161 = .ok (.getfield 32, 3) := by decide +kernel
theorem dX12_init_164 : decode cX12_init 164 = .ok (.iconst 2, 1) := by decide +kernel
theorem dX12_init_165 : decode cX12_init 165 = .ok (.bipush 7, 2) := by decide +kernel
theorem dX12_init_167 : decode cX12_init 167 = .ok (.iastore, 1) := by decide +kernel
theorem dX12_init_168 : decode cX12_init 168 = .ok (.aload_n 0, 1) := by decide +kernel
theorem dX12_init_169 : decode cX12_init 169 = .ok (.getfield 35, 3) := by decide +kernel
theorem dX12_init_172 : decode cX12_init 172 = .ok (.iconst 3, 1) := by decide +kernel
theorem dX12_init_173 : decode cX12_init 173 = .ok (.bipush 9, 2) := by decide +kernel
theorem dX12_init_175 : decode cX12_init 175 = .ok (.iastore, 1) := by decide +kernel
theorem dX12_init_176 : decode cX12_init 176 = .ok (.return_, 1) := by decide +kernel
theorem dX12_in_0 : decode cX12_in 0 = .ok (.iload_n 0, 1) := by decide +kernel
theorem dX12_in_1 : decode cX12_in 1 = .ok (.iload_n 1, 1) := by decide +kernel
theorem dX12_in_2 : decode cX12_in 2 = .ok (.if_icmp .lt 12, 3) := by decide +kernel
theorem dX12_in_5 : decode cX12_in 5 = .ok (.iload_n 0, 1) := by decide +kernel
theorem dX12_in_6 : decode cX12_in 6 = .ok (.iload_n 2, 1) := by decide +kernel
theorem dX12_in_7 : decode cX12_in 7 = .ok (.if_icmp .gt 7, 3) := by decide +kernel
theorem dX12_in_10 : decode cX12_in 10 = .ok (.iconst 1, 1) := by decide +kernel
theorem dX12_in_11 : decode cX12_in 11 = .ok (.goto 4, 3) := by decide +kernel
theorem dX12_in_14 : decode cX12_in 14 = .ok (.iconst 0, 1) := by decide +kernel
theorem dX12_in_15 : decode cX12_in 15 = .ok (.ireturn, 1) := by decide +kernel
theorem dX12_has_0 : decode cX12_has 0 = .ok (.iload_n 0, 1) := by decide +kernel
theorem dX12_has_1 : decode cX12_has 1 = .ok (.iload_n 1, 1) := by decide +kernel
theorem dX12_has_2 : decode cX12_has 2 = .ok (.ishr, 1) := by decide +kernel
theorem dX12_has_3 : decode cX12_has 3 = .ok (.iconst 1, 1) := by decide +kernel
theorem dX12_has_4 : decode cX12_has 4 = .ok (.iand, 1) := by decide +kernel
theorem dX12_has_5 : decode cX12_has 5 = .ok (.iconst 1, 1) := by decide +kernel
theorem dX12_has_6 : decode cX12_has 6 = .ok (.if_icmp .ne 7, 3) := by decide +kernel
theorem dX12_has_9 : decode cX12_has 9 = .ok (.iconst 1, 1) := by decide +kernel
theorem dX12_has_10 : decode cX12_has 10 = .ok (.goto 4, 3) := by decide +kernel
theorem dX12_has_13 : decode cX12_has 13 = .ok (.iconst 0, 1) := by decide +kernel
theorem dX12_has_14 : decode cX12_has 14 = .ok (.ireturn, 1) := by decide +kernel
theorem dX12_isOne_0 : decode cX12_isOne 0 = .ok (.iload_n 1, 1) := by decide +kernel
theorem dX12_isOne_1 : decode cX12_isOne 1 = .ok (.iconst 0, 1) := by decide +kernel
theorem dX12_isOne_2 : decode cX12_isOne 2 = .ok (.aload_n 0, 1) := by decide +kernel
theorem dX12_isOne_3 : decode cX12_isOne 3 = .ok (.getfield 69, 3) := by decide +kernel
theorem dX12_isOne_6 : decode cX12_isOne 6 = .ok (.iconst 1, 1) := by decide +kernel
theorem dX12_isOne_7 : decode cX12_isOne 7 = .ok (.isub, 1) := by decide +kernel
theorem dX12_isOne_8 : decode cX12_isOne 8 = .ok (.invokestatic 72, 3) := by decide +kernel
theorem dX12_isOne_11 : decode cX12_isOne 11 = .ok (.ireturn, 1) := by decide +kernel
theorem dX12_begin_0 : decode cX12_begin 0 = .ok (.iconst 0, 1) := by decide +kernel
theorem dX12_begin_1 : decode cX12_begin 1 = .ok (.istore_n 1, 1) := by decide +kernel
theorem dX12_begin_2 : decode cX12_begin 2 = .ok (.iload_n 1, 1) := by decide +kernel
theorem dX12_begin_3 : decode cX12_begin 3 = .ok (.bipush 31, 2) := by decide +kernel
theorem dX12_begin_5 : decode cX12_begin 5 = .ok (.if_icmp .ge 31, 3) := by decide +kernel
theorem dX12_begin_8 : decode cX12_begin 8 = .ok (.aload_n 0, 1) := by decide +kernel
theorem dX12_begin_9 : decode cX12_begin 9 = .ok (.getfield 35, 3) := by decide +kernel
theorem dX12_begin_12 : decode cX12_begin 12 = .ok (.iload_n 1, 1) := by decide +kernel
theorem dX12_begin_13 : decode cX12_begin 13 = .ok (.iload_n 1, 1) := by decide +kernel
theorem dX12_begin_14 : decode cX12_begin 14 = .ok (.bipush 6, 2) := by decide +kernel
theorem dX12_begin_16 : decode cX12_begin 16 = .ok (.if_icmp .ne 12, 3) := by decide +kernel
theorem dX12_begin_19 : decode cX12_begin 19 = .ok (.aload_n 0, 1) := by decide +kernel
theorem dX12_begin_20 : decode cX12_begin 20 = .ok (.getfield 35, 3) := by decide +kernel
theorem dX12_begin_23 : decode cX12_begin 23 = .ok (.iload_n 1, 1) := by decide +kernel
theorem dX12_begin_24 : decode cX12_begin 24 = .ok (.iaload, 1) := by decide +kernel
theorem dX12_begin_25 : decode cX12_begin 25 = .ok (.goto 4, 3) := by decide +kernel
theorem dX12_begin_28 : decode cX12_begin 28 = .ok (.iconst 0, 1) := by decide +kernel
theorem dX12_begin_29 : decode cX12_begin 29 = .ok (.iastore, 1) := by decide +kernel
theorem dX12_begin_30 : decode cX12_begin 30 = .ok (.iinc 1 1, 3) := by decide +kernel
theorem dX12_begin_33 : decode cX12_begin 33 = .ok (.goto (-31), 3) := by decide +kernel
theorem dX12_begin_36 : decode cX12_begin 36 = .ok (.aload_n 0, 1) := by decide +kernel
theorem dX12_begin_37 : decode cX12_begin 37 = .ok (.getfield 35, 3) := by decide +kernel
theorem dX12_begin_40 : decode cX12_begin 40 = .ok (.iconst 4, 1) := by decide +kernel
theorem dX12_begin_41 : decode cX12_begin 41 = .ok (.aload_n 0, 1) := by decide +kernel
theorem dX12_begin_42 : decode cX12_begin 42 = .ok (.getfield 69, 3) := by decide +kernel
theorem dX12_begin_45 : decode cX12_begin 45 = .ok (.ifCond .ne 7, 3) := by decide +kernel
theorem dX12_begin_48 : decode cX12_begin 48 = .ok (.iconst (-1), 1) := by decide +kernel
theorem dX12_begin_49 : decode cX12_begin 49 = .ok (.goto 4, 3) := by decide +kernel
theorem dX12_begin_52 : decode cX12_begin 52 = .ok (.iconst 0, 1) := by decide +kernel
theorem dX12_begin_53 : decode cX12_begin 53 = .ok (.iastore, 1) := by decide +kernel
theorem dX12_begin_54 : decode cX12_begin 54 = .ok (.aload_n 0, 1) := by decide +kernel
theorem dX12_begin_55 : decode cX12_begin 55 = .ok (.getfield 35, 3) := by decide +kernel
theorem dX12_begin_58 : decode cX12_begin 58 = .ok (.iconst 5, 1) := by decide +kernel
theorem dX12_begin_59 : decode cX12_begin 59 = .ok (.iconst (-1), 1) := by decide +kernel
theorem dX12_begin_60 : decode cX12_begin 60 = .ok (.iastore, 1) := by decide +kernel
theorem dX12_begin_61 : decode cX12_begin 61 = .ok (.aload_n 0, 1) := by decide +kernel
theorem dX12_begin_62 : decode cX12_begin 62 = .ok (.getfield 44, 3) := by decide +kernel
theorem dX12_begin_65 : decode cX12_begin 65 = .ok (.iconst 0, 1) := by decide +kernel
theorem dX12_begin_66 : decode cX12_begin 66 = .ok (.iconst 0, 1) := by decide +kernel
theorem dX12_begin_67 : decode cX12_begin 67 = .ok (.bastore, 1) := by decide +kernel
theorem dX12_begin_68 : decode cX12_begin 68 = .ok (.aload_n 0, 1) := by decide +kernel
theorem dX12_begin_69 : decode cX12_begin 69 = .ok (.getfield 44, 3) := by decide +kernel
theorem dX12_begin_72 : decode cX12_begin 72 = .ok (.iconst 1, 1) := by decide +kernel
theorem dX12_begin_73 : decode cX12_begin 73 = .ok (.iconst 0, 1) := by decide +kernel
theorem dX12_begin_74 : decode cX12_begin 74 = .ok (.bastore, 1) := by decide +kernel
theorem dX12_begin_75 : decode cX12_begin 75 = .ok (.aload_n 0, 1) := by decide +kernel
theorem dX12_begin_76 : decode cX12_begin 76 = .ok (.iconst 0, 1) := by decide +kernel
theorem dX12_begin_77 : decode cX12_begin 77 = .ok (.putfield 76, 3) := by decide +kernel
theorem dX12_begin_80 : decode cX12_begin 80 = .ok (.aload_n 0, 1) := by decide +kernel
theorem dX12_begin_81 : decode cX12_begin 81 = .ok (.iconst 0, 1) := by decide +kernel
theorem dX12_begin_82 : decode cX12_begin 82 = .ok (.putfield 79, 3) := by decide +kernel
theorem dX12_begin_85 : decode cX12_begin 85 = .ok (.aload_n 0, 1) := by decide +kernel
theorem dX12_begin_86 : decode cX12_begin 86 = .ok (.iconst 0, 1) := by decide +kernel
theorem dX12_begin_87 : decode cX12_begin 87 = .ok (.putfield 82, 3) := by decide +kernel
theorem dX12_begin_90 : decode cX12_begin 90 = .ok (.return_, 1) := by decide +kernel
theorem dX12_feed_0 : decode cX12_feed 0 = .ok (.iload_n 1, 1) := by decide +kernel
theorem dX12_feed_1 : decode cX12_feed 1 = .ok (.iconst 0, 1) := by decide +kernel
theorem dX12_feed_2 : decode cX12_feed 2 = .ok (.sipush 255, 3) := by decide +kernel
theorem dX12_feed_5 : decode cX12_feed 5 = .ok (.invokestatic 72, 3) := by decide +kernel
theorem dX12_feed_8 : decode cX12_feed 8 = .ok (.ifCond .ne 6, 3) := by decide +kernel
theorem dX12_feed_11 : decode cX12_feed 11 = .ok (.ldc 85, 2) := by decide +kernel
theorem dX12_feed_13 : decode cX12_feed 13 = .ok (.ireturn, 1) := by decide +kernel
theorem dX12_feed_14 : decode cX12_feed 14 = .ok (.aload_n 0, 1) := by decide +kernel
theorem dX12_feed_15 : decode cX12_feed 15 = .ok (.getfield 86, 3) := by decide +kernel
theorem dX12_feed_18 : decode cX12_feed 18 = .ok (.sipush 250, 3) := by decide +kernel
theorem dX12_feed_21 : decode cX12_feed 21 = .ok (.if_icmp .ne 6, 3) := by decide +kernel
theorem dX12_feed_24 : decode cX12_feed 24 = .ok (.ldc 89, 2) := by decide +kernel
theorem dX12_feed_26 : decode cX12_feed 26 = .ok (.ireturn, 1) := by decide +kernel
theorem dX12_feed_27 : decode cX12_feed 27 = .ok (.aload_n 0, 1) := by decide +kernel
theorem dX12_feed_28 : decode cX12_feed 28 = .ok (.getfield 7, 3) := by decide +kernel
theorem dX12_feed_31 : decode cX12_feed 31 = .ok (.aload_n 0, 1) := by decide +kernel
theorem dX12_feed_32 : decode cX12_feed 32 = .ok (.getfield 86, 3) := by decide +kernel
theorem dX12_feed_35 : decode cX12_feed 35 = .ok (.iload_n 1, 1) := by decide +kernel
theorem dX12_feed_36 : decode cX12_feed 36 = .ok (.iastore, 1) := by decide +kernel
theorem dX12_feed_37 : decode cX12_feed 37 = .ok (.aload_n 0, 1) := by decide +kernel
theorem dX12_feed_38 : decode cX12_feed 38 = .ok (.dup, 1) := by decide +kernel
theorem dX12_feed_39 : decode cX12_feed 39 = .ok (.getfield 86, 3) := by decide +kernel
theorem dX12_feed_42 : decode cX12_feed 42 = .ok (.iconst 1, 1) := by decide +kernel
theorem dX12_feed_43 : decode cX12_feed 43 = .ok (.iadd, 1) := by decide +kernel
theorem dX12_feed_44 : decode cX12_feed 44 = .ok (.putfield 86, 3) := by decide +kernel
theorem dX12_feed_47 : decode cX12_feed 47 = .ok (.aload_n 0, 1) := by decide +kernel
theorem dX12_feed_48 : decode cX12_feed 48 = .ok (.getfield 86, 3) := by decide +kernel
theorem dX12_feed_51 : decode cX12_feed 51 = .ok (.ireturn, 1) := by decide +kernel
theorem dX12_nextToken_0 : decode cX12_nextToken 0 = .ok (.aload_n 0, 1) := by decide +kernel
theorem dX12_nextToken_1 : decode cX12_nextToken 1 = .ok (.getfield 90, 3) := by decide +kernel
theorem dX12_nextToken_4 : decode cX12_nextToken 4 = .ok (.aload_n 0, 1) := by decide +kernel
theorem dX12_nextToken_5 : decode cX12_nextToken 5 = .ok (.getfield 86, 3) := by decide +kernel
theorem dX12_nextToken_8 : decode cX12_nextToken 8 = .ok (.if_icmp .ge 30, 3) := by decide +kernel
theorem dX12_nextToken_11 : decode cX12_nextToken 11 = .ok (.aload_n 0, 1) := by decide +kernel
theorem dX12_nextToken_12 : decode cX12_nextToken 12 = .ok (.getfield 7, 3) := by decide +kernel
theorem dX12_nextToken_15 : decode cX12_nextToken 15 = .ok (.aload_n 0, 1) := by decide +kernel
theorem dX12_nextToken_16 : decode cX12_nextToken 16 = .ok (.getfield 90, 3) := by decide +kernel
theorem dX12_nextToken_19 : decode cX12_nextToken 19 = .ok (.iaload, 1) := by decide +kernel
theorem dX12_nextToken_20 : decode cX12_nextToken 20 = .ok (.bipush 32, 2) := by decide +kernel
theorem dX12_nextToken_22 : decode cX12_nextToken 22 = .ok (.if_icmp .ne 16, 3) := by decide +kernel
theorem dX12_nextToken_25 : decode cX12_nextToken 25 = .ok (.aload_n 0, 1) := by decide +kernel
theorem dX12_nextToken_26 : decode cX12_nextToken 26 = .ok (.dup, 1) := by decide +kernel
theorem dX12_nextToken_27 : decode cX12_nextToken 27 = .ok (.getfield 90, 3) := by decide +kernel
theorem dX12_nextToken_30 : decode cX12_nextToken 30 = .ok (.iconst 1, 1) := by decide +kernel
theorem dX12_nextToken_31 : decode cX12_nextToken 31 = .ok (.iadd, 1) := by decide +kernel
theorem dX12_nextToken_32 : decode cX12_nextToken 32 = .ok (.putfield 90, 3) := by decide +kernel
theorem dX12_nextToken_35 : decode cX12_nextToken 35 = .ok (.goto (-35), 3) := by decide +kernel
theorem dX12_nextToken_38 : decode cX12_nextToken 38 = .ok (.aload_n 0, 1) := by decide +kernel
theorem dX12_nextToken_39 : decode cX12_nextToken 39 = .ok (.aload_n 0, 1) := by decide +kernel
theorem dX12_nextToken_40 : decode cX12_nextToken 40 = .ok (.getfield 90, 3) := by decide +kernel
theorem dX12_nextToken_43 : decode cX12_nextToken 43 = .ok (.putfield 93, 3) := by decide +kernel
theorem dX12_nextToken_46 : decode cX12_nextToken 46 = .ok (.aload_n 0, 1) := by decide +kernel
theorem dX12_nextToken_47 : decode cX12_nextToken 47 = .ok (.iconst 0, 1) := by decide +kernel
theorem dX12_nextToken_48 : decode cX12_nextToken 48 = .ok (.putfield 96, 3) := by decide +kernel
theorem dX12_nextToken_51 : decode cX12_nextToken 51 = .ok (.aload_n 0, 1) := by decide +kernel
theorem dX12_nextToken_52 : decode cX12_nextToken 52 = .ok (.getfield 90, 3) := by decide +kernel
theorem dX12_nextToken_55 : decode cX12_nextToken 55 = .ok (.aload_n 0, 1) := by decide +kernel
theorem dX12_nextToken_56 : decode cX12_nextToken 56 = .ok (.getfield 86, 3) := by decide +kernel
theorem dX12_nextToken_59 : decode cX12_nextToken 59 = .ok (.if_icmp .ne 12, 3) := by decide +kernel
theorem dX12_nextToken_62 : decode cX12_nextToken 62 = .ok (.aload_n 0, 1) := by decide +kernel
theorem dX12_nextToken_63 : decode cX12_nextToken 63 = .ok (.bipush (-2), 2) := by decide +kernel
theorem dX12_nextToken_65 : decode cX12_nextToken 65 = .ok (.putfield 99, 3) := by decide +kernel
theorem dX12_nextToken_68 : decode cX12_nextToken 68 = .ok (.goto 158, 3) := by decide +kernel
theorem dX12_nextToken_71 : decode cX12_nextToken 71 = .ok (.aload_n 0, 1) := by decide +kernel
theorem dX12_nextToken_72 : decode cX12_nextToken 72 = .ok (.getfield 7, 3) := by decide +kernel
theorem dX12_nextToken_75 : decode cX12_nextToken 75 = .ok (.aload_n 0, 1) := by decide +kernel
theorem dX12_nextToken_76 : decode cX12_nextToken 76 = .ok (.getfield 90, 3) := by decide +kernel
theorem dX12_nextToken_79 : decode cX12_nextToken 79 = .ok (.iaload, 1) := by decide +kernel
theorem dX12_nextToken_80 : decode cX12_nextToken 80 = .ok (.bipush 48, 2) := by decide +kernel
theorem dX12_nextToken_82 : decode cX12_nextToken 82 = .ok (.bipush 57, 2) := by decide +kernel
theorem dX12_nextToken_84 : decode cX12_nextToken 84 = .ok (.invokestatic 72, 3) := by decide +kernel
theorem dX12_nextToken_87 : decode cX12_nextToken 87 = .ok (.ifCond .eq 116, 3) := by decide +kernel
theorem dX12_nextToken_90 : decode cX12_nextToken 90 = .ok (.aload_n 0, 1) := by decide +kernel
theorem dX12_nextToken_91 : decode cX12_nextToken 91 = .ok (.getfield 90, 3) := by decide +kernel
theorem dX12_nextToken_94 : decode cX12_nextToken 94 = .ok (.aload_n 0, 1) := by decide +kernel
theorem dX12_nextToken_95 : decode cX12_nextToken 95 = .ok (.getfield 86, 3) := by decide +kernel
theorem dX12_nextToken_98 : decode cX12_nextToken 98 = .ok (.if_icmp .ge 79, 3) := by decide +kernel
theorem dX12_nextToken_101 : decode cX12_nextToken 101 = .ok (.aload_n 0, 1) := by decide +kernel
theorem dX12_nextToken_102 : decode cX12_nextToken 102 = .ok (.getfield 7, 3) := by decide +kernel
theorem dX12_nextToken_105 : decode cX12_nextToken 105 = .ok (.aload_n 0, 1) := by decide +kernel
theorem dX12_nextToken_106 : decode cX12_nextToken 106 = .ok (.getfield 90, 3) := by decide +kernel
theorem dX12_nextToken_109 : decode cX12_nextToken 109 = .ok (.iaload, 1) := by decide +kernel
theorem dX12_nextToken_110 : decode cX12_nextToken 110 = .ok (.bipush 48, 2) := by decide +kernel
theorem dX12_nextToken_112 : decode cX12_nextToken 112 = .ok (.bipush 57, 2) := by decide +kernel
theorem dX12_nextToken_114 : decode cX12_nextToken 114 = .ok (.invokestatic 72, 3) := by decide +kernel
theorem dX12_nextToken_117 : decode cX12_nextToken 117 = .ok (.ifCond .eq 60, 3) := by decide +kernel
theorem dX12_nextToken_120 : decode cX12_nextToken 120 = .ok (.aload_n 0, 1) := by decide +kernel
theorem dX12_nextToken_121 : decode cX12_nextToken 121 = .ok (.aload_n 0, 1) := by decide +kernel
theorem dX12_nextToken_122 : decode cX12_nextToken 122 = .ok (.getfield 90, 3) := by decide +kernel
theorem dX12_nextToken_125 : decode cX12_nextToken 125 = .ok (.aload_n 0, 1) := by decide +kernel
theorem dX12_nextToken_126 : decode cX12_nextToken 126 = .ok (.getfield 93, 3) := by decide +kernel
theorem dX12_nextToken_129 : decode cX12_nextToken 129 = .ok (.isub, 1) := by decide +kernel
theorem dX12_nextToken_130 : decode cX12_nextToken 130 = .ok (.iconst 3, 1) := by decide +kernel
theorem dX12_nextToken_131 : decode cX12_nextToken 131 = .ok (.if_icmp .ge 26, 3) := by decide +kernel
theorem dX12_nextToken_134 : decode cX12_nextToken 134 = .ok (.bipush 10, 2) := by decide +kernel
theorem dX12_nextToken_136 : decode cX12_nextToken 136 = .ok (.aload_n 0, 1) := by decide +kernel
theorem dX12_nextToken_137 : decode cX12_nextToken 137 = .ok (.getfield 96, 3) := by decide +kernel
theorem dX12_nextToken_140 : decode cX12_nextToken 140 = .ok (.imul, 1) := by decide +kernel
theorem dX12_nextToken_141 : decode cX12_nextToken 141 = .ok (.aload_n 0, 1) := by decide +kernel
theorem dX12_nextToken_142 : decode cX12_nextToken 142 = .ok (.getfield 7, 3) := by decide +kernel
theorem dX12_nextToken_145 : decode cX12_nextToken 145 = .ok (.aload_n 0, 1) := by decide +kernel
theorem dX12_nextToken_146 : decode cX12_nextToken 146 = .ok (.getfield 90, 3) := by decide +kernel
theorem dX12_nextToken_149 : decode cX12_nextToken 149 = .ok (.iaload, 1) := by decide +kernel
theorem dX12_nextToken_150 : decode cX12_nextToken 150 = .ok (.iadd, 1) := by decide +kernel
theorem dX12_nextToken_151 : decode cX12_nextToken 151 = .ok (.bipush 48, 2) := by decide +kernel
theorem dX12_nextToken_153 : decode cX12_nextToken 153 = .ok (.isub, 1) := by decide +kernel
theorem dX12_nextToken_154 : decode cX12_nextToken 154 = .ok (.goto 7, 3) := by decide +kernel
theorem dX12_nextToken_157 : decode cX12_nextToken 157 = .ok (.aload_n 0, 1) := by decide +kernel
theorem dX12_nextToken_158 : decode cX12_nextToken 158 = .ok (.getfield 96, 3) := by decide +kernel
theorem dX12_nextToken_161 : decode cX12_nextToken 161 = .ok (.putfield 96, 3) := by decide +kernel
theorem dX12_nextToken_164 : decode cX12_nextToken 164 = .ok (.aload_n 0, 1) := by decide +kernel
theorem dX12_nextToken_165 : decode cX12_nextToken 165 = .ok (.dup, 1) := by decide +kernel
theorem dX12_nextToken_166 : decode cX12_nextToken 166 = .ok (.getfield 90, 3) := by decide +kernel
end
section
theorem dX12_nextToken_169 : decode cX12_nextToken 169 = .ok (.iconst 1, 1) := by decide +kernel
theorem dX12_nextToken_170 : decode cX12_nextToken 170 = .ok (.iadd, 1) := by decide +kernel
theorem dX12_nextToken_171 : decode cX12_nextToken 171 = .ok (.putfield 90, 3) := by decide +kernel
theorem dX12_nextToken_174 : decode cX12_nextToken 174 = .ok (.goto (-84), 3) := by decide +kernel
theorem dX12_nextToken_177 : decode cX12_nextToken 177 = .ok (.aload_n 0, 1) := by decide +kernel
theorem dX12_nextToken_178 : decode cX12_nextToken 178 = .ok (.aload_n 0, 1) := by decide +kernel
theorem dX12_nextToken_179 : decode cX12_nextToken 179 = .ok (.getfield 90, 3) := by decide +kernel
theorem dX12_nextToken_182 : decode cX12_nextToken 182 = .ok (.aload_n 0, 1) := by decide +kernel
theorem dX12_nextToken_183 : decode cX12_nextToken 183 = .ok (.getfield 93, 3) := by decide +kernel
theorem dX12_nextToken_186 : decode cX12_nextToken 186 = .ok (.isub, 1) := by decide +kernel
theorem dX12_nextToken_187 : decode cX12_nextToken 187 = .ok (.iconst 3, 1) := by decide +kernel
theorem dX12_nextToken_188 : decode cX12_nextToken 188 = .ok (.if_icmp .le 8, 3) := by decide +kernel
theorem dX12_nextToken_191 : decode cX12_nextToken 191 = .ok (.bipush (-3), 2) := by decide +kernel
theorem dX12_nextToken_193 : decode cX12_nextToken 193 = .ok (.goto 4, 3) := by decide +kernel
theorem dX12_nextToken_196 : decode cX12_nextToken 196 = .ok (.iconst (-1), 1) := by decide +kernel
theorem dX12_nextToken_197 : decode cX12_nextToken 197 = .ok (.putfield 99, 3) := by decide +kernel
theorem dX12_nextToken_200 : decode cX12_nextToken 200 = .ok (.goto 26, 3) := by decide +kernel
theorem dX12_nextToken_203 : decode cX12_nextToken 203 = .ok (.aload_n 0, 1) := by decide +kernel
theorem dX12_nextToken_204 : decode cX12_nextToken 204 = .ok (.aload_n 0, 1) := by decide +kernel
theorem dX12_nextToken_205 : decode cX12_nextToken 205 = .ok (.getfield 7, 3) := by decide +kernel
theorem dX12_nextToken_208 : decode cX12_nextToken 208 = .ok (.aload_n 0, 1) := by decide +kernel
theorem dX12_nextToken_209 : decode cX12_nextToken 209 = .ok (.getfield 90, 3) := by decide +kernel
theorem dX12_nextToken_212 : decode cX12_nextToken 212 = .ok (.iaload, 1) := by decide +kernel
theorem dX12_nextToken_213 : decode cX12_nextToken 213 = .ok (.putfield 99, 3) := by decide +kernel
theorem dX12_nextToken_216 : decode cX12_nextToken 216 = .ok (.aload_n 0, 1) := by decide +kernel
theorem dX12_nextToken_217 : decode cX12_nextToken 217 = .ok (.dup, 1) := by decide +kernel
theorem dX12_nextToken_218 : decode cX12_nextToken 218 = .ok (.getfield 90, 3) := by decide +kernel
theorem dX12_nextToken_221 : decode cX12_nextToken 221 = .ok (.iconst 1, 1) := by decide +kernel
theorem dX12_nextToken_222 : decode cX12_nextToken 222 = .ok (.iadd, 1) := by decide +kernel
theorem dX12_nextToken_223 : decode cX12_nextToken 223 = .ok (.putfield 90, 3) := by decide +kernel
theorem dX12_nextToken_226 : decode cX12_nextToken 226 = .ok (.return_, 1) := by decide +kernel
theorem dX12_fails_0 : decode cX12_fails 0 = .ok (.aload_n 0, 1) := by decide +kernel
theorem dX12_fails_1 : decode cX12_fails 1 = .ok (.iload_n 1, 1) := by decide +kernel
theorem dX12_fails_2 : decode cX12_fails 2 = .ok (.putfield 102, 3) := by decide +kernel
theorem dX12_fails_5 : decode cX12_fails 5 = .ok (.aload_n 0, 1) := by decide +kernel
theorem dX12_fails_6 : decode cX12_fails 6 = .ok (.aload_n 0, 1) := by decide +kernel
theorem dX12_fails_7 : decode cX12_fails 7 = .ok (.getfield 93, 3) := by decide +kernel
theorem dX12_fails_10 : decode cX12_fails 10 = .ok (.putfield 13, 3) := by decide +kernel
theorem dX12_fails_13 : decode cX12_fails 13 = .ok (.iconst 0, 1) := by decide +kernel
theorem dX12_fails_14 : decode cX12_fails 14 = .ok (.ireturn, 1) := by decide +kernel
theorem dX12_isNumber_0 : decode cX12_isNumber 0 = .ok (.aload_n 0, 1) := by decide +kernel
theorem dX12_isNumber_1 : decode cX12_isNumber 1 = .ok (.invokevirtual 105, 3) := by decide +kernel
theorem dX12_isNumber_4 : decode cX12_isNumber 4 = .ok (.aload_n 0, 1) := by decide +kernel
theorem dX12_isNumber_5 : decode cX12_isNumber 5 = .ok (.getfield 99, 3) := by decide +kernel
theorem dX12_isNumber_8 : decode cX12_isNumber 8 = .ok (.iconst (-1), 1) := by decide +kernel
theorem dX12_isNumber_9 : decode cX12_isNumber 9 = .ok (.if_icmp .eq 18, 3) := by decide +kernel
theorem dX12_isNumber_12 : decode cX12_isNumber 12 = .ok (.aload_n 0, 1) := by decide +kernel
theorem dX12_isNumber_13 : decode cX12_isNumber 13 = .ok (.getfield 99, 3) := by decide +kernel
theorem dX12_isNumber_16 : decode cX12_isNumber 16 = .ok (.bipush (-3), 2) := by decide +kernel
theorem dX12_isNumber_18 : decode cX12_isNumber 18 = .ok (.if_icmp .eq 9, 3) := by decide +kernel
theorem dX12_isNumber_21 : decode cX12_isNumber 21 = .ok (.aload_n 0, 1) := by decide +kernel
theorem dX12_isNumber_22 : decode cX12_isNumber 22 = .ok (.iconst 1, 1) := by decide +kernel
theorem dX12_isNumber_23 : decode cX12_isNumber 23 = .ok (.invokevirtual 108, 3) := by decide +kernel
theorem dX12_isNumber_26 : decode cX12_isNumber 26 = .ok (.ireturn, 1) := by decide +kernel
theorem dX12_isNumber_27 : decode cX12_isNumber 27 = .ok (.aload_n 0, 1) := by decide +kernel
theorem dX12_isNumber_28 : decode cX12_isNumber 28 = .ok (.getfield 99, 3) := by decide +kernel
theorem dX12_isNumber_31 : decode cX12_isNumber 31 = .ok (.iconst (-1), 1) := by decide +kernel
theorem dX12_isNumber_32 : decode cX12_isNumber 32 = .ok (.if_icmp .ne 15, 3) := by decide +kernel
theorem dX12_isNumber_35 : decode cX12_isNumber 35 = .ok (.aload_n 0, 1) := by decide +kernel
theorem dX12_isNumber_36 : decode cX12_isNumber 36 = .ok (.getfield 96, 3) := by decide +kernel
theorem dX12_isNumber_39 : decode cX12_isNumber 39 = .ok (.iload_n 1, 1) := by decide +kernel
theorem dX12_isNumber_40 : decode cX12_isNumber 40 = .ok (.iload_n 2, 1) := by decide +kernel
theorem dX12_isNumber_41 : decode cX12_isNumber 41 = .ok (.invokestatic 72, 3) := by decide +kernel
theorem dX12_isNumber_44 : decode cX12_isNumber 44 = .ok (.ifCond .ne 11, 3) := by decide +kernel
theorem dX12_isNumber_47 : decode cX12_isNumber 47 = .ok (.aload_n 0, 1) := by decide +kernel
theorem dX12_isNumber_48 : decode cX12_isNumber 48 = .ok (.iconst 2, 1) := by decide +kernel
theorem dX12_isNumber_49 : decode cX12_isNumber 49 = .ok (.invokevirtual 108, 3) := by decide +kernel
theorem dX12_isNumber_52 : decode cX12_isNumber 52 = .ok (.ifCond .eq 7, 3) := by decide +kernel
theorem dX12_isNumber_55 : decode cX12_isNumber 55 = .ok (.iconst 1, 1) := by decide +kernel
theorem dX12_isNumber_56 : decode cX12_isNumber 56 = .ok (.goto 4, 3) := by decide +kernel
theorem dX12_isNumber_59 : decode cX12_isNumber 59 = .ok (.iconst 0, 1) := by decide +kernel
theorem dX12_isNumber_60 : decode cX12_isNumber 60 = .ok (.ireturn, 1) := by decide +kernel
theorem dX12_isEnd_0 : decode cX12_isEnd 0 = .ok (.aload_n 0, 1) := by decide +kernel
theorem dX12_isEnd_1 : decode cX12_isEnd 1 = .ok (.invokevirtual 105, 3) := by decide +kernel
theorem dX12_isEnd_4 : decode cX12_isEnd 4 = .ok (.aload_n 0, 1) := by decide +kernel
theorem dX12_isEnd_5 : decode cX12_isEnd 5 = .ok (.getfield 99, 3) := by decide +kernel
theorem dX12_isEnd_8 : decode cX12_isEnd 8 = .ok (.bipush 59, 2) := by decide +kernel
theorem dX12_isEnd_10 : decode cX12_isEnd 10 = .ok (.if_icmp .eq 11, 3) := by decide +kernel
theorem dX12_isEnd_13 : decode cX12_isEnd 13 = .ok (.aload_n 0, 1) := by decide +kernel
theorem dX12_isEnd_14 : decode cX12_isEnd 14 = .ok (.iconst 1, 1) := by decide +kernel
theorem dX12_isEnd_15 : decode cX12_isEnd 15 = .ok (.invokevirtual 108, 3) := by decide +kernel
theorem dX12_isEnd_18 : decode cX12_isEnd 18 = .ok (.ifCond .eq 7, 3) := by decide +kernel
theorem dX12_isEnd_21 : decode cX12_isEnd 21 = .ok (.iconst 1, 1) := by decide +kernel
theorem dX12_isEnd_22 : decode cX12_isEnd 22 = .ok (.goto 4, 3) := by decide +kernel
theorem dX12_isEnd_25 : decode cX12_isEnd 25 = .ok (.iconst 0, 1) := by decide +kernel
theorem dX12_isEnd_26 : decode cX12_isEnd 26 = .ok (.ireturn, 1) := by decide +kernel
theorem dX12_isWeightLine_0 : decode cX12_isWeightLine 0 = .ok (.aload_n 0, 1) := by decide +kernel
theorem dX12_isWeightLine_1 : decode cX12_isWeightLine 1 = .ok (.getfield 112, 3) := by decide +kernel
theorem dX12_isWeightLine_4 : decode cX12_isWeightLine 4 = .ok (.ifCond .eq 9, 3) := by decide +kernel
theorem dX12_isWeightLine_7 : decode cX12_isWeightLine 7 = .ok (.aload_n 0, 1) := by decide +kernel
theorem dX12_isWeightLine_8 : decode cX12_isWeightLine 8 = .ok (.iconst 3, 1) := by decide +kernel
theorem dX12_isWeightLine_9 : decode cX12_isWeightLine 9 = .ok (.invokevirtual 108, 3) := by decide +kernel
theorem dX12_isWeightLine_12 : decode cX12_isWeightLine 12 = .ok (.ireturn, 1) := by decide +kernel
theorem dX12_isWeightLine_13 : decode cX12_isWeightLine 13 = .ok (.aload_n 0, 1) := by decide +kernel
theorem dX12_isWeightLine_14 : decode cX12_isWeightLine 14 = .ok (.iconst 1, 1) := by decide +kernel
theorem dX12_isWeightLine_15 : decode cX12_isWeightLine 15 = .ok (.putfield 112, 3) := by decide +kernel
theorem dX12_isWeightLine_18 : decode cX12_isWeightLine 18 = .ok (.iconst 1, 1) := by decide +kernel
theorem dX12_isWeightLine_19 : decode cX12_isWeightLine 19 = .ok (.istore_n 1, 1) := by decide +kernel
theorem dX12_isWeightLine_20 : decode cX12_isWeightLine 20 = .ok (.iload_n 1, 1) := by decide +kernel
theorem dX12_isWeightLine_21 : decode cX12_isWeightLine 21 = .ok (.ifCond .eq 69, 3) := by decide +kernel
theorem dX12_isWeightLine_24 : decode cX12_isWeightLine 24 = .ok (.aload_n 0, 1) := by decide +kernel
theorem dX12_isWeightLine_25 : decode cX12_isWeightLine 25 = .ok (.iconst 0, 1) := by decide +kernel
theorem dX12_isWeightLine_26 : decode cX12_isWeightLine 26 = .ok (.bipush 30, 2) := by decide +kernel
theorem dX12_isWeightLine_28 : decode cX12_isWeightLine 28 = .ok (.invokevirtual 116, 3) := by decide +kernel
theorem dX12_isWeightLine_31 : decode cX12_isWeightLine 31 = .ok (.ifCond .ne 5, 3) := by decide +kernel
theorem dX12_isWeightLine_34 : decode cX12_isWeightLine 34 = .ok (.iconst 0, 1) := by decide +kernel
theorem dX12_isWeightLine_35 : decode cX12_isWeightLine 35 = .ok (.ireturn, 1) := by decide +kernel
theorem dX12_isWeightLine_36 : decode cX12_isWeightLine 36 = .ok (.aload_n 0, 1) := by decide +kernel
theorem dX12_isWeightLine_37 : decode cX12_isWeightLine 37 = .ok (.getfield 17, 3) := by decide +kernel
theorem dX12_isWeightLine_40 : decode cX12_isWeightLine 40 = .ok (.aload_n 0, 1) := by decide +kernel
theorem dX12_isWeightLine_41 : decode cX12_isWeightLine 41 = .ok (.getfield 120, 3) := by decide +kernel
theorem dX12_isWeightLine_44 : decode cX12_isWeightLine 44 = .ok (.aload_n 0, 1) := by decide +kernel
theorem dX12_isWeightLine_45 : decode cX12_isWeightLine 45 = .ok (.getfield 96, 3) := by decide +kernel
theorem dX12_isWeightLine_48 : decode cX12_isWeightLine 48 = .ok (.iastore, 1) := by decide +kernel
theorem dX12_isWeightLine_49 : decode cX12_isWeightLine 49 = .ok (.aload_n 0, 1) := by decide +kernel
theorem dX12_isWeightLine_50 : decode cX12_isWeightLine 50 = .ok (.dup, 1) := by decide +kernel
theorem dX12_isWeightLine_51 : decode cX12_isWeightLine 51 = .ok (.getfield 120, 3) := by decide +kernel
theorem dX12_isWeightLine_54 : decode cX12_isWeightLine 54 = .ok (.iconst 1, 1) := by decide +kernel
theorem dX12_isWeightLine_55 : decode cX12_isWeightLine 55 = .ok (.iadd, 1) := by decide +kernel
theorem dX12_isWeightLine_56 : decode cX12_isWeightLine 56 = .ok (.putfield 120, 3) := by decide +kernel
theorem dX12_isWeightLine_59 : decode cX12_isWeightLine 59 = .ok (.aload_n 0, 1) := by decide +kernel
theorem dX12_isWeightLine_60 : decode cX12_isWeightLine 60 = .ok (.invokevirtual 105, 3) := by decide +kernel
theorem dX12_isWeightLine_63 : decode cX12_isWeightLine 63 = .ok (.aload_n 0, 1) := by decide +kernel
theorem dX12_isWeightLine_64 : decode cX12_isWeightLine 64 = .ok (.getfield 99, 3) := by decide +kernel
theorem dX12_isWeightLine_67 : decode cX12_isWeightLine 67 = .ok (.bipush 44, 2) := by decide +kernel
theorem dX12_isWeightLine_69 : decode cX12_isWeightLine 69 = .ok (.if_icmp .ne 16, 3) := by decide +kernel
theorem dX12_isWeightLine_72 : decode cX12_isWeightLine 72 = .ok (.aload_n 0, 1) := by decide +kernel
theorem dX12_isWeightLine_73 : decode cX12_isWeightLine 73 = .ok (.getfield 120, 3) := by decide +kernel
theorem dX12_isWeightLine_76 : decode cX12_isWeightLine 76 = .ok (.bipush 12, 2) := by decide +kernel
theorem dX12_isWeightLine_78 : decode cX12_isWeightLine 78 = .ok (.if_icmp .ge 7, 3) := by decide +kernel
theorem dX12_isWeightLine_81 : decode cX12_isWeightLine 81 = .ok (.iconst 1, 1) := by decide +kernel
theorem dX12_isWeightLine_82 : decode cX12_isWeightLine 82 = .ok (.goto 4, 3) := by decide +kernel
theorem dX12_isWeightLine_85 : decode cX12_isWeightLine 85 = .ok (.iconst 0, 1) := by decide +kernel
theorem dX12_isWeightLine_86 : decode cX12_isWeightLine 86 = .ok (.istore_n 1, 1) := by decide +kernel
theorem dX12_isWeightLine_87 : decode cX12_isWeightLine 87 = .ok (.goto (-67), 3) := by decide +kernel
theorem dX12_isWeightLine_90 : decode cX12_isWeightLine 90 = .ok (.aload_n 0, 1) := by decide +kernel
theorem dX12_isWeightLine_91 : decode cX12_isWeightLine 91 = .ok (.getfield 99, 3) := by decide +kernel
theorem dX12_isWeightLine_94 : decode cX12_isWeightLine 94 = .ok (.bipush 59, 2) := by decide +kernel
theorem dX12_isWeightLine_96 : decode cX12_isWeightLine 96 = .ok (.if_icmp .eq 11, 3) := by decide +kernel
theorem dX12_isWeightLine_99 : decode cX12_isWeightLine 99 = .ok (.aload_n 0, 1) := by decide +kernel
theorem dX12_isWeightLine_100 : decode cX12_isWeightLine 100 = .ok (.iconst 1, 1) := by decide +kernel
theorem dX12_isWeightLine_101 : decode cX12_isWeightLine 101 = .ok (.invokevirtual 108, 3) := by decide +kernel
theorem dX12_isWeightLine_104 : decode cX12_isWeightLine 104 = .ok (.ifCond .eq 7, 3) := by decide +kernel
theorem dX12_isWeightLine_107 : decode cX12_isWeightLine 107 = .ok (.iconst 1, 1) := by decide +kernel
theorem dX12_isWeightLine_108 : decode cX12_isWeightLine 108 = .ok (.goto 4, 3) := by decide +kernel
theorem dX12_isWeightLine_111 : decode cX12_isWeightLine 111 = .ok (.iconst 0, 1) := by decide +kernel
theorem dX12_isWeightLine_112 : decode cX12_isWeightLine 112 = .ok (.ireturn, 1) := by decide +kernel
theorem dX12_isPersonLine_0 : decode cX12_isPersonLine 0 = .ok (.aload_n 0, 1) := by decide +kernel
theorem dX12_isPersonLine_1 : decode cX12_isPersonLine 1 = .ok (.getfield 123, 3) := by decide +kernel
theorem dX12_isPersonLine_4 : decode cX12_isPersonLine 4 = .ok (.bipush 6, 2) := by decide +kernel
theorem dX12_isPersonLine_6 : decode cX12_isPersonLine 6 = .ok (.if_icmp .ne 9, 3) := by decide +kernel
theorem dX12_isPersonLine_9 : decode cX12_isPersonLine 9 = .ok (.aload_n 0, 1) := by decide +kernel
theorem dX12_isPersonLine_10 : decode cX12_isPersonLine 10 = .ok (.iconst 3, 1) := by decide +kernel
theorem dX12_isPersonLine_11 : decode cX12_isPersonLine 11 = .ok (.invokevirtual 108, 3) := by decide +kernel
theorem dX12_isPersonLine_14 : decode cX12_isPersonLine 14 = .ok (.ireturn, 1) := by decide +kernel
theorem dX12_isPersonLine_15 : decode cX12_isPersonLine 15 = .ok (.iconst 5, 1) := by decide +kernel
theorem dX12_isPersonLine_16 : decode cX12_isPersonLine 16 = .ok (.aload_n 0, 1) := by decide +kernel
theorem dX12_isPersonLine_17 : decode cX12_isPersonLine 17 = .ok (.getfield 123, 3) := by decide +kernel
theorem dX12_isPersonLine_20 : decode cX12_isPersonLine 20 = .ok (.imul, 1) := by decide +kernel
theorem dX12_isPersonLine_21 : decode cX12_isPersonLine 21 = .ok (.istore_n 1, 1) := by decide +kernel
theorem dX12_isPersonLine_22 : decode cX12_isPersonLine 22 = .ok (.iconst 0, 1) := by decide +kernel
theorem dX12_isPersonLine_23 : decode cX12_isPersonLine 23 = .ok (.istore_n 2, 1) := by decide +kernel
theorem dX12_isPersonLine_24 : decode cX12_isPersonLine 24 = .ok (.iload_n 2, 1) := by decide +kernel
theorem dX12_isPersonLine_25 : decode cX12_isPersonLine 25 = .ok (.iconst 4, 1) := by decide +kernel
theorem dX12_isPersonLine_26 : decode cX12_isPersonLine 26 = .ok (.if_icmp .ge 65, 3) := by decide +kernel
theorem dX12_isPersonLine_29 : decode cX12_isPersonLine 29 = .ok (.aload_n 0, 1) := by decide +kernel
theorem dX12_isPersonLine_30 : decode cX12_isPersonLine 30 = .ok (.iload_n 2, 1) := by decide +kernel
theorem dX12_isPersonLine_31 : decode cX12_isPersonLine 31 = .ok (.iconst 1, 1) := by decide +kernel
theorem dX12_isPersonLine_32 : decode cX12_isPersonLine 32 = .ok (.if_icmp .eq 8, 3) := by decide +kernel
theorem dX12_isPersonLine_35 : decode cX12_isPersonLine 35 = .ok (.iload_n 2, 1) := by decide +kernel
theorem dX12_isPersonLine_36 : decode cX12_isPersonLine 36 = .ok (.iconst 2, 1) := by decide +kernel
theorem dX12_isPersonLine_37 : decode cX12_isPersonLine 37 = .ok (.if_icmp .ne 7, 3) := by decide +kernel
theorem dX12_isPersonLine_40 : decode cX12_isPersonLine 40 = .ok (.iconst 1, 1) := by decide +kernel
theorem dX12_isPersonLine_41 : decode cX12_isPersonLine 41 = .ok (.goto 4, 3) := by decide +kernel
theorem dX12_isPersonLine_44 : decode cX12_isPersonLine 44 = .ok (.iconst 0, 1) := by decide +kernel
theorem dX12_isPersonLine_45 : decode cX12_isPersonLine 45 = .ok (.iload_n 2, 1) := by decide +kernel
theorem dX12_isPersonLine_46 : decode cX12_isPersonLine 46 = .ok (.ifCond .ne 7, 3) := by decide +kernel
theorem dX12_isPersonLine_49 : decode cX12_isPersonLine 49 = .ok (.iconst 4, 1) := by decide +kernel
theorem dX12_isPersonLine_50 : decode cX12_isPersonLine 50 = .ok (.goto 15, 3) := by decide +kernel
theorem dX12_isPersonLine_53 : decode cX12_isPersonLine 53 = .ok (.iload_n 2, 1) := by decide +kernel
theorem dX12_isPersonLine_54 : decode cX12_isPersonLine 54 = .ok (.iconst 1, 1) := by decide +kernel
theorem dX12_isPersonLine_55 : decode cX12_isPersonLine 55 = .ok (.if_icmp .ne 8, 3) := by decide +kernel
theorem dX12_isPersonLine_58 : decode cX12_isPersonLine 58 = .ok (.bipush 20, 2) := by decide +kernel
theorem dX12_isPersonLine_60 : decode cX12_isPersonLine 60 = .ok (.goto 5, 3) := by decide +kernel
theorem dX12_isPersonLine_63 : decode cX12_isPersonLine 63 = .ok (.bipush 9, 2) := by decide +kernel
theorem dX12_isPersonLine_65 : decode cX12_isPersonLine 65 = .ok (.invokevirtual 116, 3) := by decide +kernel
theorem dX12_isPersonLine_68 : decode cX12_isPersonLine 68 = .ok (.ifCond .ne 5, 3) := by decide +kernel
theorem dX12_isPersonLine_71 : decode cX12_isPersonLine 71 = .ok (.iconst 0, 1) := by decide +kernel
theorem dX12_isPersonLine_72 : decode cX12_isPersonLine 72 = .ok (.ireturn, 1) := by decide +kernel
theorem dX12_isPersonLine_73 : decode cX12_isPersonLine 73 = .ok (.aload_n 0, 1) := by decide +kernel
theorem dX12_isPersonLine_74 : decode cX12_isPersonLine 74 = .ok (.getfield 20, 3) := by decide +kernel
theorem dX12_isPersonLine_77 : decode cX12_isPersonLine 77 = .ok (.iload_n 1, 1) := by decide +kernel
theorem dX12_isPersonLine_78 : decode cX12_isPersonLine 78 = .ok (.iload_n 2, 1) := by decide +kernel
theorem dX12_isPersonLine_79 : decode cX12_isPersonLine 79 = .ok (.iadd, 1) := by decide +kernel
theorem dX12_isPersonLine_80 : decode cX12_isPersonLine 80 = .ok (.aload_n 0, 1) := by decide +kernel
theorem dX12_isPersonLine_81 : decode cX12_isPersonLine 81 = .ok (.getfield 96, 3) := by decide +kernel
theorem dX12_isPersonLine_84 : decode cX12_isPersonLine 84 = .ok (.iastore, 1) := by decide +kernel
theorem dX12_isPersonLine_85 : decode cX12_isPersonLine 85 = .ok (.iinc 2 1, 3) := by decide +kernel
theorem dX12_isPersonLine_88 : decode cX12_isPersonLine 88 = .ok (.goto (-64), 3) := by decide +kernel
theorem dX12_isPersonLine_91 : decode cX12_isPersonLine 91 = .ok (.aload_n 0, 1) := by decide +kernel
theorem dX12_isPersonLine_92 : decode cX12_isPersonLine 92 = .ok (.iconst 0, 1) := by decide +kernel
theorem dX12_isPersonLine_93 : decode cX12_isPersonLine 93 = .ok (.bipush 9, 2) := by decide +kernel
theorem dX12_isPersonLine_95 : decode cX12_isPersonLine 95 = .ok (.invokevirtual 116, 3) := by decide +kernel
theorem dX12_isPersonLine_98 : decode cX12_isPersonLine 98 = .ok (.ifCond .ne 5, 3) := by decide +kernel
theorem dX12_isPersonLine_101 : decode cX12_isPersonLine 101 = .ok (.iconst 0, 1) := by decide +kernel
theorem dX12_isPersonLine_102 : decode cX12_isPersonLine 102 = .ok (.ireturn, 1) := by decide +kernel
theorem dX12_isPersonLine_103 : decode cX12_isPersonLine 103 = .ok (.aload_n 0, 1) := by decide +kernel
theorem dX12_isPersonLine_104 : decode cX12_isPersonLine 104 = .ok (.getfield 96, 3) := by decide +kernel
theorem dX12_isPersonLine_107 : decode cX12_isPersonLine 107 = .ok (.bipush 9, 2) := by decide +kernel
theorem dX12_isPersonLine_109 : decode cX12_isPersonLine 109 = .ok (.if_icmp .eq 20, 3) := by decide +kernel
theorem dX12_isPersonLine_112 : decode cX12_isPersonLine 112 = .ok (.aload_n 0, 1) := by decide +kernel
theorem dX12_isPersonLine_113 : decode cX12_isPersonLine 113 = .ok (.getfield 96, 3) := by decide +kernel
theorem dX12_isPersonLine_116 : decode cX12_isPersonLine 116 = .ok (.aload_n 0, 1) := by decide +kernel
theorem dX12_isPersonLine_117 : decode cX12_isPersonLine 117 = .ok (.getfield 123, 3) := by decide +kernel
theorem dX12_isPersonLine_120 : decode cX12_isPersonLine 120 = .ok (.if_icmp .lt 9, 3) := by decide +kernel
theorem dX12_isPersonLine_123 : decode cX12_isPersonLine 123 = .ok (.aload_n 0, 1) := by decide +kernel
theorem dX12_isPersonLine_124 : decode cX12_isPersonLine 124 = .ok (.iconst 2, 1) := by decide +kernel
theorem dX12_isPersonLine_125 : decode cX12_isPersonLine 125 = .ok (.invokevirtual 108, 3) := by decide +kernel
theorem dX12_isPersonLine_128 : decode cX12_isPersonLine 128 = .ok (.ireturn, 1) := by decide +kernel
theorem dX12_isPersonLine_129 : decode cX12_isPersonLine 129 = .ok (.aload_n 0, 1) := by decide +kernel
theorem dX12_isPersonLine_130 : decode cX12_isPersonLine 130 = .ok (.getfield 20, 3) := by decide +kernel
theorem dX12_isPersonLine_133 : decode cX12_isPersonLine 133 = .ok (.iload_n 1, 1) := by decide +kernel
theorem dX12_isPersonLine_134 : decode cX12_isPersonLine 134 = .ok (.iconst 4, 1) := by decide +kernel
theorem dX12_isPersonLine_135 : decode cX12_isPersonLine 135 = .ok (.iadd, 1) := by decide +kernel
theorem dX12_isPersonLine_136 : decode cX12_isPersonLine 136 = .ok (.aload_n 0, 1) := by decide +kernel
theorem dX12_isPersonLine_137 : decode cX12_isPersonLine 137 = .ok (.getfield 96, 3) := by decide +kernel
theorem dX12_isPersonLine_140 : decode cX12_isPersonLine 140 = .ok (.bipush 9, 2) := by decide +kernel
theorem dX12_isPersonLine_142 : decode cX12_isPersonLine 142 = .ok (.if_icmp .ne 7, 3) := by decide +kernel
theorem dX12_isPersonLine_145 : decode cX12_isPersonLine 145 = .ok (.iconst (-1), 1) := by decide +kernel
theorem dX12_isPersonLine_146 : decode cX12_isPersonLine 146 = .ok (.goto 7, 3) := by decide +kernel
theorem dX12_isPersonLine_149 : decode cX12_isPersonLine 149 = .ok (.aload_n 0, 1) := by decide +kernel
theorem dX12_isPersonLine_150 : decode cX12_isPersonLine 150 = .ok (.getfield 96, 3) := by decide +kernel
theorem dX12_isPersonLine_153 : decode cX12_isPersonLine 153 = .ok (.iastore, 1) := by decide +kernel
theorem dX12_isPersonLine_154 : decode cX12_isPersonLine 154 = .ok (.aload_n 0, 1) := by decide +kernel
theorem dX12_isPersonLine_155 : decode cX12_isPersonLine 155 = .ok (.dup, 1) := by decide +kernel
theorem dX12_isPersonLine_156 : decode cX12_isPersonLine 156 = .ok (.getfield 123, 3) := by decide +kernel
theorem dX12_isPersonLine_159 : decode cX12_isPersonLine 159 = .ok (.iconst 1, 1) := by decide +kernel
theorem dX12_isPersonLine_160 : decode cX12_isPersonLine 160 = .ok (.iadd, 1) := by decide +kernel
theorem dX12_isPersonLine_161 : decode cX12_isPersonLine 161 = .ok (.putfield 123, 3) := by decide +kernel
theorem dX12_isPersonLine_164 : decode cX12_isPersonLine 164 = .ok (.aload_n 0, 1) := by decide +kernel
theorem dX12_isPersonLine_165 : decode cX12_isPersonLine 165 = .ok (.invokevirtual 126, 3) := by decide +kernel
theorem dX12_isPersonLine_168 : decode cX12_isPersonLine 168 = .ok (.ireturn, 1) := by decide +kernel
theorem dX12_isWordLine_0 : decode cX12_isWordLine 0 = .ok (.aload_n 0, 1) := by decide +kernel
theorem dX12_isWordLine_1 : decode cX12_isWordLine 1 = .ok (.getfield 130, 3) := by decide +kernel
theorem dX12_isWordLine_4 : decode cX12_isWordLine 4 = .ok (.ifCond .eq 9, 3) := by decide +kernel
theorem dX12_isWordLine_7 : decode cX12_isWordLine 7 = .ok (.aload_n 0, 1) := by decide +kernel
theorem dX12_isWordLine_8 : decode cX12_isWordLine 8 = .ok (.iconst 3, 1) := by decide +kernel
theorem dX12_isWordLine_9 : decode cX12_isWordLine 9 = .ok (.invokevirtual 108, 3) := by decide +kernel
theorem dX12_isWordLine_12 : decode cX12_isWordLine 12 = .ok (.ireturn, 1) := by decide +kernel
theorem dX12_isWordLine_13 : decode cX12_isWordLine 13 = .ok (.aload_n 0, 1) := by decide +kernel
theorem dX12_isWordLine_14 : decode cX12_isWordLine 14 = .ok (.iconst 1, 1) := by decide +kernel
theorem dX12_isWordLine_15 : decode cX12_isWordLine 15 = .ok (.putfield 130, 3) := by decide +kernel
theorem dX12_isWordLine_18 : decode cX12_isWordLine 18 = .ok (.iconst 0, 1) := by decide +kernel
theorem dX12_isWordLine_19 : decode cX12_isWordLine 19 = .ok (.istore_n 1, 1) := by decide +kernel
theorem dX12_isWordLine_20 : decode cX12_isWordLine 20 = .ok (.iload_n 1, 1) := by decide +kernel
theorem dX12_isWordLine_21 : decode cX12_isWordLine 21 = .ok (.iconst 3, 1) := by decide +kernel
theorem dX12_isWordLine_22 : decode cX12_isWordLine 22 = .ok (.if_icmp .ge 31, 3) := by decide +kernel
theorem dX12_isWordLine_25 : decode cX12_isWordLine 25 = .ok (.aload_n 0, 1) := by decide +kernel
theorem dX12_isWordLine_26 : decode cX12_isWordLine 26 = .ok (.iconst 0, 1) := by decide +kernel
theorem dX12_isWordLine_27 : decode cX12_isWordLine 27 = .ok (.bipush 9, 2) := by decide +kernel
theorem dX12_isWordLine_29 : decode cX12_isWordLine 29 = .ok (.invokevirtual 116, 3) := by decide +kernel
theorem dX12_isWordLine_32 : decode cX12_isWordLine 32 = .ok (.ifCond .ne 5, 3) := by decide +kernel
theorem dX12_isWordLine_35 : decode cX12_isWordLine 35 = .ok (.iconst 0, 1) := by decide +kernel
theorem dX12_isWordLine_36 : decode cX12_isWordLine 36 = .ok (.ireturn, 1) := by decide +kernel
theorem dX12_isWordLine_37 : decode cX12_isWordLine 37 = .ok (.aload_n 0, 1) := by decide +kernel
theorem dX12_isWordLine_38 : decode cX12_isWordLine 38 = .ok (.getfield 23, 3) := by decide +kernel
theorem dX12_isWordLine_41 : decode cX12_isWordLine 41 = .ok (.iload_n 1, 1) := by decide +kernel
theorem dX12_isWordLine_42 : decode cX12_isWordLine 42 = .ok (.aload_n 0, 1) := by decide +kernel
theorem dX12_isWordLine_43 : decode cX12_isWordLine 43 = .ok (.getfield 96, 3) := by decide +kernel
theorem dX12_isWordLine_46 : decode cX12_isWordLine 46 = .ok (.iastore, 1) := by decide +kernel
theorem dX12_isWordLine_47 : decode cX12_isWordLine 47 = .ok (.iinc 1 1, 3) := by decide +kernel
theorem dX12_isWordLine_50 : decode cX12_isWordLine 50 = .ok (.goto (-30), 3) := by decide +kernel
theorem dX12_isWordLine_53 : decode cX12_isWordLine 53 = .ok (.aload_n 0, 1) := by decide +kernel
theorem dX12_isWordLine_54 : decode cX12_isWordLine 54 = .ok (.invokevirtual 126, 3) := by decide +kernel
theorem dX12_isWordLine_57 : decode cX12_isWordLine 57 = .ok (.ireturn, 1) := by decide +kernel
theorem dX12_isFruitLine_0 : decode cX12_isFruitLine 0 = .ok (.aload_n 0, 1) := by decide +kernel
theorem dX12_isFruitLine_1 : decode cX12_isFruitLine 1 = .ok (.getfield 133, 3) := by decide +kernel
theorem dX12_isFruitLine_4 : decode cX12_isFruitLine 4 = .ok (.ifCond .eq 9, 3) := by decide +kernel
theorem dX12_isFruitLine_7 : decode cX12_isFruitLine 7 = .ok (.aload_n 0, 1) := by decide +kernel
theorem dX12_isFruitLine_8 : decode cX12_isFruitLine 8 = .ok (.iconst 3, 1) := by decide +kernel
theorem dX12_isFruitLine_9 : decode cX12_isFruitLine 9 = .ok (.invokevirtual 108, 3) := by decide +kernel
theorem dX12_isFruitLine_12 : decode cX12_isFruitLine 12 = .ok (.ireturn, 1) := by decide +kernel
theorem dX12_isFruitLine_13 : decode cX12_isFruitLine 13 = .ok (.aload_n 0, 1) := by decide +kernel
theorem dX12_isFruitLine_14 : decode cX12_isFruitLine 14 = .ok (.iconst 1, 1) := by decide +kernel
theorem dX12_isFruitLine_15 : decode cX12_isFruitLine 15 = .ok (.putfield 133, 3) := by decide +kernel
theorem dX12_isFruitLine_18 : decode cX12_isFruitLine 18 = .ok (.aload_n 0, 1) := by decide +kernel
theorem dX12_isFruitLine_19 : decode cX12_isFruitLine 19 = .ok (.iconst 0, 1) := by decide +kernel
theorem dX12_isFruitLine_20 : decode cX12_isFruitLine 20 = .ok (.bipush 99, 2) := by decide +kernel
theorem dX12_isFruitLine_22 : decode cX12_isFruitLine 22 = .ok (.invokevirtual 116, 3) := by decide +kernel
theorem dX12_isFruitLine_25 : decode cX12_isFruitLine 25 = .ok (.ifCond .ne 5, 3) := by decide +kernel
theorem dX12_isFruitLine_28 : decode cX12_isFruitLine 28 = .ok (.iconst 0, 1) := by decide +kernel
theorem dX12_isFruitLine_29 : decode cX12_isFruitLine 29 = .ok (.ireturn, 1) := by decide +kernel
theorem dX12_isFruitLine_30 : decode cX12_isFruitLine 30 = .ok (.aload_n 0, 1) := by decide +kernel
theorem dX12_isFruitLine_31 : decode cX12_isFruitLine 31 = .ok (.aload_n 0, 1) := by decide +kernel
theorem dX12_isFruitLine_32 : decode cX12_isFruitLine 32 = .ok (.getfield 96, 3) := by decide +kernel
theorem dX12_isFruitLine_35 : decode cX12_isFruitLine 35 = .ok (.putfield 136, 3) := by decide +kernel
theorem dX12_isFruitLine_38 : decode cX12_isFruitLine 38 = .ok (.aload_n 0, 1) := by decide +kernel
theorem dX12_isFruitLine_39 : decode cX12_isFruitLine 39 = .ok (.invokevirtual 126, 3) := by decide +kernel
theorem dX12_isFruitLine_42 : decode cX12_isFruitLine 42 = .ok (.ireturn, 1) := by decide +kernel
theorem dX12_isRead_0 : decode cX12_isRead 0 = .ok (.aload_n 0, 1) := by decide +kernel
theorem dX12_isRead_1 : decode cX12_isRead 1 = .ok (.iconst 0, 1) := by decide +kernel
theorem dX12_isRead_2 : decode cX12_isRead 2 = .ok (.putfield 90, 3) := by decide +kernel
theorem dX12_isRead_5 : decode cX12_isRead 5 = .ok (.aload_n 0, 1) := by decide +kernel
theorem dX12_isRead_6 : decode cX12_isRead 6 = .ok (.iconst 0, 1) := by decide +kernel
theorem dX12_isRead_7 : decode cX12_isRead 7 = .ok (.putfield 120, 3) := by decide +kernel
theorem dX12_isRead_10 : decode cX12_isRead 10 = .ok (.aload_n 0, 1) := by decide +kernel
theorem dX12_isRead_11 : decode cX12_isRead 11 = .ok (.iconst 0, 1) := by decide +kernel
theorem dX12_isRead_12 : decode cX12_isRead 12 = .ok (.putfield 123, 3) := by decide +kernel
theorem dX12_isRead_15 : decode cX12_isRead 15 = .ok (.aload_n 0, 1) := by decide +kernel
theorem dX12_isRead_16 : decode cX12_isRead 16 = .ok (.bipush 9, 2) := by decide +kernel
theorem dX12_isRead_18 : decode cX12_isRead 18 = .ok (.putfield 136, 3) := by decide +kernel
theorem dX12_isRead_21 : decode cX12_isRead 21 = .ok (.aload_n 0, 1) := by decide +kernel
theorem dX12_isRead_22 : decode cX12_isRead 22 = .ok (.iconst 0, 1) := by decide +kernel
theorem dX12_isRead_23 : decode cX12_isRead 23 = .ok (.putfield 112, 3) := by decide +kernel
theorem dX12_isRead_26 : decode cX12_isRead 26 = .ok (.aload_n 0, 1) := by decide +kernel
theorem dX12_isRead_27 : decode cX12_isRead 27 = .ok (.iconst 0, 1) := by decide +kernel
theorem dX12_isRead_28 : decode cX12_isRead 28 = .ok (.putfield 130, 3) := by decide +kernel
theorem dX12_isRead_31 : decode cX12_isRead 31 = .ok (.aload_n 0, 1) := by decide +kernel
theorem dX12_isRead_32 : decode cX12_isRead 32 = .ok (.iconst 0, 1) := by decide +kernel
theorem dX12_isRead_33 : decode cX12_isRead 33 = .ok (.putfield 133, 3) := by decide +kernel
theorem dX12_isRead_36 : decode cX12_isRead 36 = .ok (.iconst 0, 1) := by decide +kernel
theorem dX12_isRead_37 : decode cX12_isRead 37 = .ok (.istore_n 1, 1) := by decide +kernel
theorem dX12_isRead_38 : decode cX12_isRead 38 = .ok (.iload_n 1, 1) := by decide +kernel
theorem dX12_isRead_39 : decode cX12_isRead 39 = .ok (.iconst 3, 1) := by decide +kernel
theorem dX12_isRead_40 : decode cX12_isRead 40 = .ok (.if_icmp .ge 20, 3) := by decide +kernel
theorem dX12_isRead_43 : decode cX12_isRead 43 = .ok (.aload_n 0, 1) := by decide +kernel
theorem dX12_isRead_44 : decode cX12_isRead 44 = .ok (.getfield 23, 3) := by decide +kernel
theorem dX12_isRead_47 : decode cX12_isRead 47 = .ok (.iload_n 1, 1) := by decide +kernel
theorem dX12_isRead_48 : decode cX12_isRead 48 = .ok (.iconst 3, 1) := by decide +kernel
theorem dX12_isRead_49 : decode cX12_isRead 49 = .ok (.iconst 2, 1) := by decide +kernel
theorem dX12_isRead_50 : decode cX12_isRead 50 = .ok (.iload_n 1, 1) := by decide +kernel
theorem dX12_isRead_51 : decode cX12_isRead 51 = .ok (.imul, 1) := by decide +kernel
theorem dX12_isRead_52 : decode cX12_isRead 52 = .ok (.iadd, 1) := by decide +kernel
theorem dX12_isRead_53 : decode cX12_isRead 53 = .ok (.iastore, 1) := by decide +kernel
theorem dX12_isRead_54 : decode cX12_isRead 54 = .ok (.iinc 1 1, 3) := by decide +kernel
theorem dX12_isRead_57 : decode cX12_isRead 57 = .ok (.goto (-19), 3) := by decide +kernel
theorem dX12_isRead_60 : decode cX12_isRead 60 = .ok (.iconst 1, 1) := by decide +kernel
theorem dX12_isRead_61 : decode cX12_isRead 61 = .ok (.istore_n 1, 1) := by decide +kernel
theorem dX12_isRead_62 : decode cX12_isRead 62 = .ok (.iload_n 1, 1) := by decide +kernel
theorem dX12_isRead_63 : decode cX12_isRead 63 = .ok (.ifCond .eq 119, 3) := by decide +kernel
theorem dX12_isRead_66 : decode cX12_isRead 66 = .ok (.aload_n 0, 1) := by decide +kernel
theorem dX12_isRead_67 : decode cX12_isRead 67 = .ok (.invokevirtual 105, 3) := by decide +kernel
theorem dX12_isRead_70 : decode cX12_isRead 70 = .ok (.aload_n 0, 1) := by decide +kernel
theorem dX12_isRead_71 : decode cX12_isRead 71 = .ok (.getfield 99, 3) := by decide +kernel
theorem dX12_isRead_74 : decode cX12_isRead 74 = .ok (.bipush (-2), 2) := by decide +kernel
theorem dX12_isRead_76 : decode cX12_isRead 76 = .ok (.if_icmp .ne 8, 3) := by decide +kernel
theorem dX12_isRead_79 : decode cX12_isRead 79 = .ok (.iconst 0, 1) := by decide +kernel
theorem dX12_isRead_80 : decode cX12_isRead 80 = .ok (.istore_n 1, 1) := by decide +kernel
theorem dX12_isRead_81 : decode cX12_isRead 81 = .ok (.goto (-19), 3) := by decide +kernel
theorem dX12_isRead_84 : decode cX12_isRead 84 = .ok (.aload_n 0, 1) := by decide +kernel
theorem dX12_isRead_85 : decode cX12_isRead 85 = .ok (.getfield 99, 3) := by decide +kernel
theorem dX12_isRead_88 : decode cX12_isRead 88 = .ok (.bipush 119, 2) := by decide +kernel
theorem dX12_isRead_90 : decode cX12_isRead 90 = .ok (.if_icmp .ne 11, 3) := by decide +kernel
theorem dX12_isRead_93 : decode cX12_isRead 93 = .ok (.aload_n 0, 1) := by decide +kernel
theorem dX12_isRead_94 : decode cX12_isRead 94 = .ok (.invokevirtual 139, 3) := by decide +kernel
theorem dX12_isRead_97 : decode cX12_isRead 97 = .ok (.istore_n 1, 1) := by decide +kernel
theorem dX12_isRead_98 : decode cX12_isRead 98 = .ok (.goto (-36), 3) := by decide +kernel
theorem dX12_isRead_101 : decode cX12_isRead 101 = .ok (.aload_n 0, 1) := by decide +kernel
theorem dX12_isRead_102 : decode cX12_isRead 102 = .ok (.getfield 112, 3) := by decide +kernel
theorem dX12_isRead_105 : decode cX12_isRead 105 = .ok (.ifCond .eq 20, 3) := by decide +kernel
theorem dX12_isRead_108 : decode cX12_isRead 108 = .ok (.aload_n 0, 1) := by decide +kernel
theorem dX12_isRead_109 : decode cX12_isRead 109 = .ok (.getfield 99, 3) := by decide +kernel
theorem dX12_isRead_112 : decode cX12_isRead 112 = .ok (.bipush 112, 2) := by decide +kernel
theorem dX12_isRead_114 : decode cX12_isRead 114 = .ok (.if_icmp .ne 11, 3) := by decide +kernel
theorem dX12_isRead_117 : decode cX12_isRead 117 = .ok (.aload_n 0, 1) := by decide +kernel
theorem dX12_isRead_118 : decode cX12_isRead 118 = .ok (.invokevirtual 142, 3) := by decide +kernel
theorem dX12_isRead_121 : decode cX12_isRead 121 = .ok (.istore_n 1, 1) := by decide +kernel
theorem dX12_isRead_122 : decode cX12_isRead 122 = .ok (.goto (-60), 3) := by decide +kernel
theorem dX12_isRead_125 : decode cX12_isRead 125 = .ok (.aload_n 0, 1) := by decide +kernel
theorem dX12_isRead_126 : decode cX12_isRead 126 = .ok (.getfield 112, 3) := by decide +kernel
theorem dX12_isRead_129 : decode cX12_isRead 129 = .ok (.ifCond .eq 20, 3) := by decide +kernel
theorem dX12_isRead_132 : decode cX12_isRead 132 = .ok (.aload_n 0, 1) := by decide +kernel
theorem dX12_isRead_133 : decode cX12_isRead 133 = .ok (.getfield 99, 3) := by decide +kernel
theorem dX12_isRead_136 : decode cX12_isRead 136 = .ok (.bipush 116, 2) := by decide +kernel
theorem dX12_isRead_138 : decode cX12_isRead 138 = .ok (.if_icmp .ne 11, 3) := by decide +kernel
theorem dX12_isRead_141 : decode cX12_isRead 141 = .ok (.aload_n 0, 1) := by decide +kernel
theorem dX12_isRead_142 : decode cX12_isRead 142 = .ok (.invokevirtual 145, 3) := by decide +kernel
theorem dX12_isRead_145 : decode cX12_isRead 145 = .ok (.istore_n 1, 1) := by decide +kernel
theorem dX12_isRead_146 : decode cX12_isRead 146 = .ok (.goto (-84), 3) := by decide +kernel
theorem dX12_isRead_149 : decode cX12_isRead 149 = .ok (.aload_n 0, 1) := by decide +kernel
theorem dX12_isRead_150 : decode cX12_isRead 150 = .ok (.getfield 112, 3) := by decide +kernel
theorem dX12_isRead_153 : decode cX12_isRead 153 = .ok (.ifCond .eq 20, 3) := by decide +kernel
theorem dX12_isRead_156 : decode cX12_isRead 156 = .ok (.aload_n 0, 1) := by decide +kernel
theorem dX12_isRead_157 : decode cX12_isRead 157 = .ok (.getfield 99, 3) := by decide +kernel
theorem dX12_isRead_160 : decode cX12_isRead 160 = .ok (.bipush 102, 2) := by decide +kernel
theorem dX12_isRead_162 : decode cX12_isRead 162 = .ok (.if_icmp .ne 11, 3) := by decide +kernel
theorem dX12_isRead_165 : decode cX12_isRead 165 = .ok (.aload_n 0, 1) := by decide +kernel
theorem dX12_isRead_166 : decode cX12_isRead 166 = .ok (.invokevirtual 148, 3) := by decide +kernel
theorem dX12_isRead_169 : decode cX12_isRead 169 = .ok (.istore_n 1, 1) := by decide +kernel
theorem dX12_isRead_170 : decode cX12_isRead 170 = .ok (.goto (-108), 3) := by decide +kernel
theorem dX12_isRead_173 : decode cX12_isRead 173 = .ok (.aload_n 0, 1) := by decide +kernel
theorem dX12_isRead_174 : decode cX12_isRead 174 = .ok (.iconst 1, 1) := by decide +kernel
theorem dX12_isRead_175 : decode cX12_isRead 175 = .ok (.invokevirtual 108, 3) := by decide +kernel
theorem dX12_isRead_178 : decode cX12_isRead 178 = .ok (.istore_n 1, 1) := by decide +kernel
theorem dX12_isRead_179 : decode cX12_isRead 179 = .ok (.goto (-117), 3) := by decide +kernel
theorem dX12_isRead_182 : decode cX12_isRead 182 = .ok (.aload_n 0, 1) := by decide +kernel
theorem dX12_isRead_183 : decode cX12_isRead 183 = .ok (.getfield 13, 3) := by decide +kernel
theorem dX12_isRead_186 : decode cX12_isRead 186 = .ok (.iconst (-1), 1) := by decide +kernel
theorem dX12_isRead_187 : decode cX12_isRead 187 = .ok (.if_icmp .ne 7, 3) := by decide +kernel
theorem dX12_isRead_190 : decode cX12_isRead 190 = .ok (.iconst 1, 1) := by decide +kernel
theorem dX12_isRead_191 : decode cX12_isRead 191 = .ok (.goto 4, 3) := by decide +kernel
theorem dX12_isRead_194 : decode cX12_isRead 194 = .ok (.iconst 0, 1) := by decide +kernel
theorem dX12_isRead_195 : decode cX12_isRead 195 = .ok (.ireturn, 1) := by decide +kernel
theorem dX12_edge_0 : decode cX12_edge 0 = .ok (.aload_n 0, 1) := by decide +kernel
theorem dX12_edge_1 : decode cX12_edge 1 = .ok (.iconst (-1), 1) := by decide +kernel
theorem dX12_edge_2 : decode cX12_edge 2 = .ok (.putfield 13, 3) := by decide +kernel
theorem dX12_edge_5 : decode cX12_edge 5 = .ok (.aload_n 0, 1) := by decide +kernel
theorem dX12_edge_6 : decode cX12_edge 6 = .ok (.invokevirtual 151, 3) := by decide +kernel
theorem dX12_edge_9 : decode cX12_edge 9 = .ok (.istore_n 1, 1) := by decide +kernel
theorem dX12_edge_10 : decode cX12_edge 10 = .ok (.aload_n 0, 1) := by decide +kernel
theorem dX12_edge_11 : decode cX12_edge 11 = .ok (.iconst 0, 1) := by decide +kernel
theorem dX12_edge_12 : decode cX12_edge 12 = .ok (.putfield 86, 3) := by decide +kernel
theorem dX12_edge_15 : decode cX12_edge 15 = .ok (.iload_n 1, 1) := by decide +kernel
theorem dX12_edge_16 : decode cX12_edge 16 = .ok (.ifCond .ne 11, 3) := by decide +kernel
theorem dX12_edge_19 : decode cX12_edge 19 = .ok (.bipush (-10), 2) := by decide +kernel
theorem dX12_edge_21 : decode cX12_edge 21 = .ok (.aload_n 0, 1) := by decide +kernel
theorem dX12_edge_22 : decode cX12_edge 22 = .ok (.getfield 102, 3) := by decide +kernel
theorem dX12_edge_25 : decode cX12_edge 25 = .ok (.isub, 1) := by decide +kernel
theorem dX12_edge_26 : decode cX12_edge 26 = .ok (.ireturn, 1) := by decide +kernel
theorem dX12_edge_27 : decode cX12_edge 27 = .ok (.aload_n 0, 1) := by decide +kernel
theorem dX12_edge_28 : decode cX12_edge 28 = .ok (.aload_n 0, 1) := by decide +kernel
theorem dX12_edge_29 : decode cX12_edge 29 = .ok (.getfield 120, 3) := by decide +kernel
theorem dX12_edge_32 : decode cX12_edge 32 = .ok (.putfield 154, 3) := by decide +kernel
theorem dX12_edge_35 : decode cX12_edge 35 = .ok (.iconst 0, 1) := by decide +kernel
theorem dX12_edge_36 : decode cX12_edge 36 = .ok (.istore_n 2, 1) := by decide +kernel
theorem dX12_edge_37 : decode cX12_edge 37 = .ok (.iload_n 2, 1) := by decide +kernel
theorem dX12_edge_38 : decode cX12_edge 38 = .ok (.aload_n 0, 1) := by decide +kernel
theorem dX12_edge_39 : decode cX12_edge 39 = .ok (.getfield 154, 3) := by decide +kernel
theorem dX12_edge_42 : decode cX12_edge 42 = .ok (.if_icmp .ge 21, 3) := by decide +kernel
theorem dX12_edge_45 : decode cX12_edge 45 = .ok (.aload_n 0, 1) := by decide +kernel
theorem dX12_edge_46 : decode cX12_edge 46 = .ok (.getfield 26, 3) := by decide +kernel
theorem dX12_edge_49 : decode cX12_edge 49 = .ok (.iload_n 2, 1) := by decide +kernel
theorem dX12_edge_50 : decode cX12_edge 50 = .ok (.aload_n 0, 1) := by decide +kernel
theorem dX12_edge_51 : decode cX12_edge 51 = .ok (.getfield 17, 3) := by decide +kernel
theorem dX12_edge_54 : decode cX12_edge 54 = .ok (.iload_n 2, 1) := by decide +kernel
theorem dX12_edge_55 : decode cX12_edge 55 = .ok (.iaload, 1) := by decide +kernel
theorem dX12_edge_56 : decode cX12_edge 56 = .ok (.iastore, 1) := by decide +kernel
theorem dX12_edge_57 : decode cX12_edge 57 = .ok (.iinc 2 1, 3) := by decide +kernel
theorem dX12_edge_60 : decode cX12_edge 60 = .ok (.goto (-23), 3) := by decide +kernel
theorem dX12_edge_63 : decode cX12_edge 63 = .ok (.aload_n 0, 1) := by decide +kernel
theorem dX12_edge_64 : decode cX12_edge 64 = .ok (.aload_n 0, 1) := by decide +kernel
theorem dX12_edge_65 : decode cX12_edge 65 = .ok (.getfield 123, 3) := by decide +kernel
theorem dX12_edge_68 : decode cX12_edge 68 = .ok (.putfield 69, 3) := by decide +kernel
theorem dX12_edge_71 : decode cX12_edge 71 = .ok (.iconst 0, 1) := by decide +kernel
theorem dX12_edge_72 : decode cX12_edge 72 = .ok (.istore_n 2, 1) := by decide +kernel
theorem dX12_edge_73 : decode cX12_edge 73 = .ok (.iload_n 2, 1) := by decide +kernel
theorem dX12_edge_74 : decode cX12_edge 74 = .ok (.iconst 5, 1) := by decide +kernel
theorem dX12_edge_75 : decode cX12_edge 75 = .ok (.aload_n 0, 1) := by decide +kernel
theorem dX12_edge_76 : decode cX12_edge 76 = .ok (.getfield 69, 3) := by decide +kernel
theorem dX12_edge_79 : decode cX12_edge 79 = .ok (.imul, 1) := by decide +kernel
theorem dX12_edge_80 : decode cX12_edge 80 = .ok (.if_icmp .ge 21, 3) := by decide +kernel
theorem dX12_edge_83 : decode cX12_edge 83 = .ok (.aload_n 0, 1) := by decide +kernel
theorem dX12_edge_84 : decode cX12_edge 84 = .ok (.getfield 29, 3) := by decide +kernel
theorem dX12_edge_87 : decode cX12_edge 87 = .ok (.iload_n 2, 1) := by decide +kernel
theorem dX12_edge_88 : decode cX12_edge 88 = .ok (.aload_n 0, 1) := by decide +kernel
theorem dX12_edge_89 : decode cX12_edge 89 = .ok (.getfield 20, 3) := by decide +kernel
theorem dX12_edge_92 : decode cX12_edge 92 = .ok (.iload_n 2, 1) := by decide +kernel
theorem dX12_edge_93 : decode cX12_edge 93 = .ok (.iaload, 1) := by decide +kernel
theorem dX12_edge_94 : decode cX12_edge 94 = .ok (.iastore, 1) := by decide +kernel
theorem dX12_edge_95 : decode cX12_edge 95 = .ok (.iinc 2 1, 3) := by decide +kernel
theorem dX12_edge_98 : decode cX12_edge 98 = .ok (.goto (-25), 3) := by decide +kernel
theorem dX12_edge_101 : decode cX12_edge 101 = .ok (.iconst 0, 1) := by decide +kernel
theorem dX12_edge_102 : decode cX12_edge 102 = .ok (.istore_n 2, 1) := by decide +kernel
theorem dX12_edge_103 : decode cX12_edge 103 = .ok (.iload_n 2, 1) := by decide +kernel
theorem dX12_edge_104 : decode cX12_edge 104 = .ok (.iconst 3, 1) := by decide +kernel
theorem dX12_edge_105 : decode cX12_edge 105 = .ok (.if_icmp .ge 21, 3) := by decide +kernel
theorem dX12_edge_108 : decode cX12_edge 108 = .ok (.aload_n 0, 1) := by decide +kernel
theorem dX12_edge_109 : decode cX12_edge 109 = .ok (.getfield 32, 3) := by decide +kernel
theorem dX12_edge_112 : decode cX12_edge 112 = .ok (.iload_n 2, 1) := by decide +kernel
theorem dX12_edge_113 : decode cX12_edge 113 = .ok (.aload_n 0, 1) := by decide +kernel
theorem dX12_edge_114 : decode cX12_edge 114 = .ok (.getfield 23, 3) := by decide +kernel
theorem dX12_edge_117 : decode cX12_edge 117 = .ok (.iload_n 2, 1) := by decide +kernel
theorem dX12_edge_118 : decode cX12_edge 118 = .ok (.iaload, 1) := by decide +kernel
theorem dX12_edge_119 : decode cX12_edge 119 = .ok (.iastore, 1) := by decide +kernel
theorem dX12_edge_120 : decode cX12_edge 120 = .ok (.iinc 2 1, 3) := by decide +kernel
theorem dX12_edge_123 : decode cX12_edge 123 = .ok (.goto (-20), 3) := by decide +kernel
theorem dX12_edge_126 : decode cX12_edge 126 = .ok (.aload_n 0, 1) := by decide +kernel
theorem dX12_edge_127 : decode cX12_edge 127 = .ok (.invokevirtual 66, 3) := by decide +kernel
theorem dX12_edge_130 : decode cX12_edge 130 = .ok (.aload_n 0, 1) := by decide +kernel
theorem dX12_edge_131 : decode cX12_edge 131 = .ok (.getfield 35, 3) := by decide +kernel
theorem dX12_edge_134 : decode cX12_edge 134 = .ok (.iconst 3, 1) := by decide +kernel
theorem dX12_edge_135 : decode cX12_edge 135 = .ok (.aload_n 0, 1) := by decide +kernel
theorem dX12_edge_136 : decode cX12_edge 136 = .ok (.getfield 136, 3) := by decide +kernel
theorem dX12_edge_139 : decode cX12_edge 139 = .ok (.iastore, 1) := by decide +kernel
theorem dX12_edge_140 : decode cX12_edge 140 = .ok (.aload_n 0, 1) := by decide +kernel
theorem dX12_edge_141 : decode cX12_edge 141 = .ok (.getfield 69, 3) := by decide +kernel
theorem dX12_edge_144 : decode cX12_edge 144 = .ok (.ireturn, 1) := by decide +kernel
theorem dX12_fault_0 : decode cX12_fault 0 = .ok (.aload_n 0, 1) := by decide +kernel
theorem dX12_fault_1 : decode cX12_fault 1 = .ok (.getfield 13, 3) := by decide +kernel
theorem dX12_fault_4 : decode cX12_fault 4 = .ok (.ireturn, 1) := by decide +kernel
theorem dX12_kindOf_0 : decode cX12_kindOf 0 = .ok (.aload_n 0, 1) := by decide +kernel
theorem dX12_kindOf_1 : decode cX12_kindOf 1 = .ok (.getfield 29, 3) := by decide +kernel
theorem dX12_kindOf_4 : decode cX12_kindOf 4 = .ok (.iconst 5, 1) := by decide +kernel
theorem dX12_kindOf_5 : decode cX12_kindOf 5 = .ok (.iload_n 1, 1) := by decide +kernel
theorem dX12_kindOf_6 : decode cX12_kindOf 6 = .ok (.imul, 1) := by decide +kernel
theorem dX12_kindOf_7 : decode cX12_kindOf 7 = .ok (.iaload, 1) := by decide +kernel
theorem dX12_kindOf_8 : decode cX12_kindOf 8 = .ok (.ireturn, 1) := by decide +kernel
theorem dX12_fatherOf_0 : decode cX12_fatherOf 0 = .ok (.aload_n 0, 1) := by decide +kernel
theorem dX12_fatherOf_1 : decode cX12_fatherOf 1 = .ok (.getfield 29, 3) := by decide +kernel
theorem dX12_fatherOf_4 : decode cX12_fatherOf 4 = .ok (.iconst 5, 1) := by decide +kernel
theorem dX12_fatherOf_5 : decode cX12_fatherOf 5 = .ok (.iload_n 1, 1) := by decide +kernel
theorem dX12_fatherOf_6 : decode cX12_fatherOf 6 = .ok (.imul, 1) := by decide +kernel
theorem dX12_fatherOf_7 : decode cX12_fatherOf 7 = .ok (.iconst 4, 1) := by decide +kernel
theorem dX12_fatherOf_8 : decode cX12_fatherOf 8 = .ok (.iadd, 1) := by decide +kernel
theorem dX12_fatherOf_9 : decode cX12_fatherOf 9 = .ok (.iaload, 1) := by decide +kernel
theorem dX12_fatherOf_10 : decode cX12_fatherOf 10 = .ok (.ireturn, 1) := by decide +kernel
theorem dX12_forceOf_0 : decode cX12_forceOf 0 = .ok (.aload_n 0, 1) := by decide +kernel
theorem dX12_forceOf_1 : decode cX12_forceOf 1 = .ok (.getfield 29, 3) := by decide +kernel
theorem dX12_forceOf_4 : decode cX12_forceOf 4 = .ok (.iconst 5, 1) := by decide +kernel
theorem dX12_forceOf_5 : decode cX12_forceOf 5 = .ok (.iload_n 2, 1) := by decide +kernel
theorem dX12_forceOf_6 : decode cX12_forceOf 6 = .ok (.imul, 1) := by decide +kernel
theorem dX12_forceOf_7 : decode cX12_forceOf 7 = .ok (.iconst 1, 1) := by decide +kernel
theorem dX12_forceOf_8 : decode cX12_forceOf 8 = .ok (.iadd, 1) := by decide +kernel
theorem dX12_forceOf_9 : decode cX12_forceOf 9 = .ok (.iaload, 1) := by decide +kernel
theorem dX12_forceOf_10 : decode cX12_forceOf 10 = .ok (.aload_n 1, 1) := by decide +kernel
theorem dX12_forceOf_11 : decode cX12_forceOf 11 = .ok (.bipush 7, 2) := by decide +kernel
theorem dX12_forceOf_13 : decode cX12_forceOf 13 = .ok (.iload_n 2, 1) := by decide +kernel
theorem dX12_forceOf_14 : decode cX12_forceOf 14 = .ok (.iadd, 1) := by decide +kernel
theorem dX12_forceOf_15 : decode cX12_forceOf 15 = .ok (.iaload, 1) := by decide +kernel
theorem dX12_forceOf_16 : decode cX12_forceOf 16 = .ok (.iconst 2, 1) := by decide +kernel
theorem dX12_forceOf_17 : decode cX12_forceOf 17 = .ok (.idiv, 1) := by decide +kernel
theorem dX12_forceOf_18 : decode cX12_forceOf 18 = .ok (.isub, 1) := by decide +kernel
theorem dX12_forceOf_19 : decode cX12_forceOf 19 = .ok (.istore_n 3, 1) := by decide +kernel
theorem dX12_forceOf_20 : decode cX12_forceOf 20 = .ok (.iload_n 3, 1) := by decide +kernel
theorem dX12_forceOf_21 : decode cX12_forceOf 21 = .ok (.ifCond .ge 7, 3) := by decide +kernel
theorem dX12_forceOf_24 : decode cX12_forceOf 24 = .ok (.iconst 0, 1) := by decide +kernel
theorem dX12_forceOf_25 : decode cX12_forceOf 25 = .ok (.goto 4, 3) := by decide +kernel
theorem dX12_forceOf_28 : decode cX12_forceOf 28 = .ok (.iload_n 3, 1) := by decide +kernel
theorem dX12_forceOf_29 : decode cX12_forceOf 29 = .ok (.istore_n 3, 1) := by decide +kernel
theorem dX12_forceOf_30 : decode cX12_forceOf 30 = .ok (.aload_n 1, 1) := by decide +kernel
theorem dX12_forceOf_31 : decode cX12_forceOf 31 = .ok (.iconst 0, 1) := by decide +kernel
theorem dX12_forceOf_32 : decode cX12_forceOf 32 = .ok (.iaload, 1) := by decide +kernel
theorem dX12_forceOf_33 : decode cX12_forceOf 33 = .ok (.iconst 3, 1) := by decide +kernel
theorem dX12_forceOf_34 : decode cX12_forceOf 34 = .ok (.irem, 1) := by decide +kernel
theorem dX12_forceOf_35 : decode cX12_forceOf 35 = .ok (.iconst 2, 1) := by decide +kernel
theorem dX12_forceOf_36 : decode cX12_forceOf 36 = .ok (.if_icmp .ne 9, 3) := by decide +kernel
theorem dX12_forceOf_39 : decode cX12_forceOf 39 = .ok (.iload_n 3, 1) := by decide +kernel
theorem dX12_forceOf_40 : decode cX12_forceOf 40 = .ok (.iconst 2, 1) := by decide +kernel
theorem dX12_forceOf_41 : decode cX12_forceOf 41 = .ok (.idiv, 1) := by decide +kernel
theorem dX12_forceOf_42 : decode cX12_forceOf 42 = .ok (.goto 4, 3) := by decide +kernel
theorem dX12_forceOf_45 : decode cX12_forceOf 45 = .ok (.iload_n 3, 1) := by decide +kernel
theorem dX12_forceOf_46 : decode cX12_forceOf 46 = .ok (.istore 4, 2) := by decide +kernel
theorem dX12_forceOf_48 : decode cX12_forceOf 48 = .ok (.aload_n 0, 1) := by decide +kernel
theorem dX12_forceOf_49 : decode cX12_forceOf 49 = .ok (.iload_n 2, 1) := by decide +kernel
theorem dX12_forceOf_50 : decode cX12_forceOf 50 = .ok (.invokevirtual 157, 3) := by decide +kernel
theorem dX12_forceOf_53 : decode cX12_forceOf 53 = .ok (.tableswitch 69 2 4 #[27, 51, 54], 27) := by decide +kernel
theorem dX12_forceOf_80 : decode cX12_forceOf 80 = .ok (.aload_n 1, 1) := by decide +kernel
theorem dX12_forceOf_81 : decode cX12_forceOf 81 = .ok (.bipush 19, 2) := by decide +kernel
theorem dX12_forceOf_83 : decode cX12_forceOf 83 = .ok (.iload_n 2, 1) := by decide +kernel
theorem dX12_forceOf_84 : decode cX12_forceOf 84 = .ok (.iadd, 1) := by decide +kernel
theorem dX12_forceOf_85 : decode cX12_forceOf 85 = .ok (.iaload, 1) := by decide +kernel
theorem dX12_forceOf_86 : decode cX12_forceOf 86 = .ok (.ifCond .le 7, 3) := by decide +kernel
theorem dX12_forceOf_89 : decode cX12_forceOf 89 = .ok (.iconst 0, 1) := by decide +kernel
theorem dX12_forceOf_90 : decode cX12_forceOf 90 = .ok (.goto 13, 3) := by decide +kernel
theorem dX12_forceOf_93 : decode cX12_forceOf 93 = .ok (.aload_n 0, 1) := by decide +kernel
theorem dX12_forceOf_94 : decode cX12_forceOf 94 = .ok (.getfield 29, 3) := by decide +kernel
theorem dX12_forceOf_97 : decode cX12_forceOf 97 = .ok (.iconst 5, 1) := by decide +kernel
theorem dX12_forceOf_98 : decode cX12_forceOf 98 = .ok (.iload_n 2, 1) := by decide +kernel
theorem dX12_forceOf_99 : decode cX12_forceOf 99 = .ok (.imul, 1) := by decide +kernel
theorem dX12_forceOf_100 : decode cX12_forceOf 100 = .ok (.iconst 1, 1) := by decide +kernel
theorem dX12_forceOf_101 : decode cX12_forceOf 101 = .ok (.iadd, 1) := by decide +kernel
theorem dX12_forceOf_102 : decode cX12_forceOf 102 = .ok (.iaload, 1) := by decide +kernel
theorem dX12_forceOf_103 : decode cX12_forceOf 103 = .ok (.ireturn, 1) := by decide +kernel
theorem dX12_forceOf_104 : decode cX12_forceOf 104 = .ok (.iload 4, 2) := by decide +kernel
theorem dX12_forceOf_106 : decode cX12_forceOf 106 = .ok (.ireturn, 1) := by decide +kernel
theorem dX12_forceOf_107 : decode cX12_forceOf 107 = .ok (.aload_n 1, 1) := by decide +kernel
theorem dX12_forceOf_108 : decode cX12_forceOf 108 = .ok (.iconst 3, 1) := by decide +kernel
theorem dX12_forceOf_109 : decode cX12_forceOf 109 = .ok (.iaload, 1) := by decide +kernel
theorem dX12_forceOf_110 : decode cX12_forceOf 110 = .ok (.ifCond .le 10, 3) := by decide +kernel
theorem dX12_forceOf_113 : decode cX12_forceOf 113 = .ok (.iload 4, 2) := by decide +kernel
theorem dX12_forceOf_115 : decode cX12_forceOf 115 = .ok (.iconst 2, 1) := by decide +kernel
theorem dX12_forceOf_116 : decode cX12_forceOf 116 = .ok (.iadd, 1) := by decide +kernel
theorem dX12_forceOf_117 : decode cX12_forceOf 117 = .ok (.goto 4, 3) := by decide +kernel
theorem dX12_forceOf_120 : decode cX12_forceOf 120 = .ok (.iconst 0, 1) := by decide +kernel
theorem dX12_forceOf_121 : decode cX12_forceOf 121 = .ok (.ireturn, 1) := by decide +kernel
theorem dX12_forceOf_122 : decode cX12_forceOf 122 = .ok (.iload_n 3, 1) := by decide +kernel
theorem dX12_forceOf_123 : decode cX12_forceOf 123 = .ok (.ireturn, 1) := by decide +kernel
theorem dX12_forceOfAll_0 : decode cX12_forceOfAll 0 = .ok (.aload_n 1, 1) := by decide +kernel
theorem dX12_forceOfAll_1 : decode cX12_forceOfAll 1 = .ok (.iconst 4, 1) := by decide +kernel
theorem dX12_forceOfAll_2 : decode cX12_forceOfAll 2 = .ok (.iaload, 1) := by decide +kernel
theorem dX12_forceOfAll_3 : decode cX12_forceOfAll 3 = .ok (.iconst (-1), 1) := by decide +kernel
theorem dX12_forceOfAll_4 : decode cX12_forceOfAll 4 = .ok (.if_icmp .ne 7, 3) := by decide +kernel
theorem dX12_forceOfAll_7 : decode cX12_forceOfAll 7 = .ok (.iconst 0, 1) := by decide +kernel
theorem dX12_forceOfAll_8 : decode cX12_forceOfAll 8 = .ok (.goto 11, 3) := by decide +kernel
theorem dX12_forceOfAll_11 : decode cX12_forceOfAll 11 = .ok (.aload_n 0, 1) := by decide +kernel
theorem dX12_forceOfAll_12 : decode cX12_forceOfAll 12 = .ok (.aload_n 1, 1) := by decide +kernel
theorem dX12_forceOfAll_13 : decode cX12_forceOfAll 13 = .ok (.aload_n 1, 1) := by decide +kernel
theorem dX12_forceOfAll_14 : decode cX12_forceOfAll 14 = .ok (.iconst 4, 1) := by decide +kernel
theorem dX12_forceOfAll_15 : decode cX12_forceOfAll 15 = .ok (.iaload, 1) := by decide +kernel
theorem dX12_forceOfAll_16 : decode cX12_forceOfAll 16 = .ok (.invokevirtual 161, 3) := by decide +kernel
theorem dX12_forceOfAll_19 : decode cX12_forceOfAll 19 = .ok (.istore_n 2, 1) := by decide +kernel
theorem dX12_forceOfAll_20 : decode cX12_forceOfAll 20 = .ok (.aload_n 1, 1) := by decide +kernel
theorem dX12_forceOfAll_21 : decode cX12_forceOfAll 21 = .ok (.iconst 5, 1) := by decide +kernel
theorem dX12_forceOfAll_22 : decode cX12_forceOfAll 22 = .ok (.iaload, 1) := by decide +kernel
theorem dX12_forceOfAll_23 : decode cX12_forceOfAll 23 = .ok (.iconst (-1), 1) := by decide +kernel
theorem dX12_forceOfAll_24 : decode cX12_forceOfAll 24 = .ok (.if_icmp .ne 7, 3) := by decide +kernel
theorem dX12_forceOfAll_27 : decode cX12_forceOfAll 27 = .ok (.iload_n 2, 1) := by decide +kernel
theorem dX12_forceOfAll_28 : decode cX12_forceOfAll 28 = .ok (.goto 13, 3) := by decide +kernel
theorem dX12_forceOfAll_31 : decode cX12_forceOfAll 31 = .ok (.iload_n 2, 1) := by decide +kernel
theorem dX12_forceOfAll_32 : decode cX12_forceOfAll 32 = .ok (.aload_n 0, 1) := by decide +kernel
theorem dX12_forceOfAll_33 : decode cX12_forceOfAll 33 = .ok (.aload_n 1, 1) := by decide +kernel
theorem dX12_forceOfAll_34 : decode cX12_forceOfAll 34 = .ok (.aload_n 1, 1) := by decide +kernel
theorem dX12_forceOfAll_35 : decode cX12_forceOfAll 35 = .ok (.iconst 5, 1) := by decide +kernel
theorem dX12_forceOfAll_36 : decode cX12_forceOfAll 36 = .ok (.iaload, 1) := by decide +kernel
theorem dX12_forceOfAll_37 : decode cX12_forceOfAll 37 = .ok (.invokevirtual 161, 3) := by decide +kernel
theorem dX12_forceOfAll_40 : decode cX12_forceOfAll 40 = .ok (.iadd, 1) := by decide +kernel
theorem dX12_forceOfAll_41 : decode cX12_forceOfAll 41 = .ok (.ireturn, 1) := by decide +kernel
theorem dX12_weightOf_0 : decode cX12_weightOf 0 = .ok (.aload_n 0, 1) := by decide +kernel
theorem dX12_weightOf_1 : decode cX12_weightOf 1 = .ok (.getfield 154, 3) := by decide +kernel
theorem dX12_weightOf_4 : decode cX12_weightOf 4 = .ok (.ifCond .ne 7, 3) := by decide +kernel
theorem dX12_weightOf_7 : decode cX12_weightOf 7 = .ok (.iconst 0, 1) := by decide +kernel
theorem dX12_weightOf_8 : decode cX12_weightOf 8 = .ok (.goto 16, 3) := by decide +kernel
theorem dX12_weightOf_11 : decode cX12_weightOf 11 = .ok (.aload_n 0, 1) := by decide +kernel
theorem dX12_weightOf_12 : decode cX12_weightOf 12 = .ok (.getfield 26, 3) := by decide +kernel
theorem dX12_weightOf_15 : decode cX12_weightOf 15 = .ok (.aload_n 1, 1) := by decide +kernel
theorem dX12_weightOf_16 : decode cX12_weightOf 16 = .ok (.iconst 0, 1) := by decide +kernel
theorem dX12_weightOf_17 : decode cX12_weightOf 17 = .ok (.iaload, 1) := by decide +kernel
theorem dX12_weightOf_18 : decode cX12_weightOf 18 = .ok (.aload_n 0, 1) := by decide +kernel
theorem dX12_weightOf_19 : decode cX12_weightOf 19 = .ok (.getfield 154, 3) := by decide +kernel
theorem dX12_weightOf_22 : decode cX12_weightOf 22 = .ok (.irem, 1) := by decide +kernel
theorem dX12_weightOf_23 : decode cX12_weightOf 23 = .ok (.iaload, 1) := by decide +kernel
theorem dX12_weightOf_24 : decode cX12_weightOf 24 = .ok (.ireturn, 1) := by decide +kernel
theorem dX12_pass_0 : decode cX12_pass 0 = .ok (.aload_n 0, 1) := by decide +kernel
theorem dX12_pass_1 : decode cX12_pass 1 = .ok (.aload_n 1, 1) := by decide +kernel
theorem dX12_pass_2 : decode cX12_pass 2 = .ok (.invokevirtual 165, 3) := by decide +kernel
theorem dX12_pass_5 : decode cX12_pass 5 = .ok (.iload_n 2, 1) := by decide +kernel
theorem dX12_pass_6 : decode cX12_pass 6 = .ok (.isub, 1) := by decide +kernel
theorem dX12_pass_7 : decode cX12_pass 7 = .ok (.istore_n 3, 1) := by decide +kernel
theorem dX12_pass_8 : decode cX12_pass 8 = .ok (.iload_n 3, 1) := by decide +kernel
theorem dX12_pass_9 : decode cX12_pass 9 = .ok (.ifCond .ge 7, 3) := by decide +kernel
theorem dX12_pass_12 : decode cX12_pass 12 = .ok (.iconst 0, 1) := by decide +kernel
theorem dX12_pass_13 : decode cX12_pass 13 = .ok (.goto 4, 3) := by decide +kernel
theorem dX12_pass_16 : decode cX12_pass 16 = .ok (.iload_n 3, 1) := by decide +kernel
theorem dX12_pass_17 : decode cX12_pass 17 = .ok (.istore_n 3, 1) := by decide +kernel
theorem dX12_pass_18 : decode cX12_pass 18 = .ok (.aload_n 0, 1) := by decide +kernel
theorem dX12_pass_19 : decode cX12_pass 19 = .ok (.aload_n 1, 1) := by decide +kernel
theorem dX12_pass_20 : decode cX12_pass 20 = .ok (.invokevirtual 169, 3) := by decide +kernel
theorem dX12_pass_23 : decode cX12_pass 23 = .ok (.istore 4, 2) := by decide +kernel
theorem dX12_pass_25 : decode cX12_pass 25 = .ok (.iload 4, 2) := by decide +kernel
theorem dX12_pass_27 : decode cX12_pass 27 = .ok (.iload_n 3, 1) := by decide +kernel
theorem dX12_pass_28 : decode cX12_pass 28 = .ok (.if_icmp .ge 35, 3) := by decide +kernel
theorem dX12_pass_31 : decode cX12_pass 31 = .ok (.aload_n 1, 1) := by decide +kernel
theorem dX12_pass_32 : decode cX12_pass 32 = .ok (.iconst 1, 1) := by decide +kernel
theorem dX12_pass_33 : decode cX12_pass 33 = .ok (.aload_n 1, 1) := by decide +kernel
theorem dX12_pass_34 : decode cX12_pass 34 = .ok (.iconst 1, 1) := by decide +kernel
theorem dX12_pass_35 : decode cX12_pass 35 = .ok (.iaload, 1) := by decide +kernel
theorem dX12_pass_36 : decode cX12_pass 36 = .ok (.iload_n 3, 1) := by decide +kernel
theorem dX12_pass_37 : decode cX12_pass 37 = .ok (.iadd, 1) := by decide +kernel
theorem dX12_pass_38 : decode cX12_pass 38 = .ok (.iload 4, 2) := by decide +kernel
theorem dX12_pass_40 : decode cX12_pass 40 = .ok (.isub, 1) := by decide +kernel
theorem dX12_pass_41 : decode cX12_pass 41 = .ok (.bipush 99, 2) := by decide +kernel
theorem dX12_pass_43 : decode cX12_pass 43 = .ok (.if_icmp .le 8, 3) := by decide +kernel
theorem dX12_pass_46 : decode cX12_pass 46 = .ok (.bipush 99, 2) := by decide +kernel
theorem dX12_pass_48 : decode cX12_pass 48 = .ok (.goto 11, 3) := by decide +kernel
theorem dX12_pass_51 : decode cX12_pass 51 = .ok (.aload_n 1, 1) := by decide +kernel
theorem dX12_pass_52 : decode cX12_pass 52 = .ok (.iconst 1, 1) := by decide +kernel
theorem dX12_pass_53 : decode cX12_pass 53 = .ok (.iaload, 1) := by decide +kernel
theorem dX12_pass_54 : decode cX12_pass 54 = .ok (.iload_n 3, 1) := by decide +kernel
theorem dX12_pass_55 : decode cX12_pass 55 = .ok (.iadd, 1) := by decide +kernel
theorem dX12_pass_56 : decode cX12_pass 56 = .ok (.iload 4, 2) := by decide +kernel
theorem dX12_pass_58 : decode cX12_pass 58 = .ok (.isub, 1) := by decide +kernel
theorem dX12_pass_59 : decode cX12_pass 59 = .ok (.iastore, 1) := by decide +kernel
theorem dX12_pass_60 : decode cX12_pass 60 = .ok (.goto 27, 3) := by decide +kernel
theorem dX12_pass_63 : decode cX12_pass 63 = .ok (.iload 4, 2) := by decide +kernel
theorem dX12_pass_65 : decode cX12_pass 65 = .ok (.iload_n 3, 1) := by decide +kernel
theorem dX12_pass_66 : decode cX12_pass 66 = .ok (.if_icmp .le 21, 3) := by decide +kernel
theorem dX12_pass_69 : decode cX12_pass 69 = .ok (.aload_n 1, 1) := by decide +kernel
theorem dX12_pass_70 : decode cX12_pass 70 = .ok (.iconst 1, 1) := by decide +kernel
theorem dX12_pass_71 : decode cX12_pass 71 = .ok (.aload_n 1, 1) := by decide +kernel
theorem dX12_pass_72 : decode cX12_pass 72 = .ok (.iconst 1, 1) := by decide +kernel
theorem dX12_pass_73 : decode cX12_pass 73 = .ok (.iaload, 1) := by decide +kernel
theorem dX12_pass_74 : decode cX12_pass 74 = .ok (.ifCond .le 11, 3) := by decide +kernel
theorem dX12_pass_77 : decode cX12_pass 77 = .ok (.aload_n 1, 1) := by decide +kernel
theorem dX12_pass_78 : decode cX12_pass 78 = .ok (.iconst 1, 1) := by decide +kernel
theorem dX12_pass_79 : decode cX12_pass 79 = .ok (.iaload, 1) := by decide +kernel
theorem dX12_pass_80 : decode cX12_pass 80 = .ok (.iconst 1, 1) := by decide +kernel
theorem dX12_pass_81 : decode cX12_pass 81 = .ok (.isub, 1) := by decide +kernel
theorem dX12_pass_82 : decode cX12_pass 82 = .ok (.goto 4, 3) := by decide +kernel
theorem dX12_pass_85 : decode cX12_pass 85 = .ok (.iconst 0, 1) := by decide +kernel
theorem dX12_pass_86 : decode cX12_pass 86 = .ok (.iastore, 1) := by decide +kernel
theorem dX12_pass_87 : decode cX12_pass 87 = .ok (.aload_n 1, 1) := by decide +kernel
theorem dX12_pass_88 : decode cX12_pass 88 = .ok (.iconst 5, 1) := by decide +kernel
theorem dX12_pass_89 : decode cX12_pass 89 = .ok (.iaload, 1) := by decide +kernel
theorem dX12_pass_90 : decode cX12_pass 90 = .ok (.iconst (-1), 1) := by decide +kernel
theorem dX12_pass_91 : decode cX12_pass 91 = .ok (.if_icmp .ne 25, 3) := by decide +kernel
theorem dX12_pass_94 : decode cX12_pass 94 = .ok (.aload_n 0, 1) := by decide +kernel
theorem dX12_pass_95 : decode cX12_pass 95 = .ok (.aload_n 1, 1) := by decide +kernel
theorem dX12_pass_96 : decode cX12_pass 96 = .ok (.iconst 4, 1) := by decide +kernel
theorem dX12_pass_97 : decode cX12_pass 97 = .ok (.iaload, 1) := by decide +kernel
theorem dX12_pass_98 : decode cX12_pass 98 = .ok (.invokevirtual 157, 3) := by decide +kernel
theorem dX12_pass_101 : decode cX12_pass 101 = .ok (.iconst 1, 1) := by decide +kernel
theorem dX12_pass_102 : decode cX12_pass 102 = .ok (.if_icmp .ne 14, 3) := by decide +kernel
theorem dX12_pass_105 : decode cX12_pass 105 = .ok (.aload_n 1, 1) := by decide +kernel
theorem dX12_pass_106 : decode cX12_pass 106 = .ok (.iconst 1, 1) := by decide +kernel
theorem dX12_pass_107 : decode cX12_pass 107 = .ok (.iaload, 1) := by decide +kernel
theorem dX12_pass_108 : decode cX12_pass 108 = .ok (.iconst 2, 1) := by decide +kernel
theorem dX12_pass_109 : decode cX12_pass 109 = .ok (.if_icmp .ge 7, 3) := by decide +kernel
theorem dX12_pass_112 : decode cX12_pass 112 = .ok (.aload_n 1, 1) := by decide +kernel
theorem dX12_pass_113 : decode cX12_pass 113 = .ok (.iconst 1, 1) := by decide +kernel
theorem dX12_pass_114 : decode cX12_pass 114 = .ok (.iconst 2, 1) := by decide +kernel
theorem dX12_pass_115 : decode cX12_pass 115 = .ok (.iastore, 1) := by decide +kernel
theorem dX12_pass_116 : decode cX12_pass 116 = .ok (.aload_n 1, 1) := by decide +kernel
theorem dX12_pass_117 : decode cX12_pass 117 = .ok (.iconst 2, 1) := by decide +kernel
theorem dX12_pass_118 : decode cX12_pass 118 = .ok (.aload_n 1, 1) := by decide +kernel
theorem dX12_pass_119 : decode cX12_pass 119 = .ok (.iconst 2, 1) := by decide +kernel
theorem dX12_pass_120 : decode cX12_pass 120 = .ok (.iaload, 1) := by decide +kernel
theorem dX12_pass_121 : decode cX12_pass 121 = .ok (.aload_n 1, 1) := by decide +kernel
theorem dX12_pass_122 : decode cX12_pass 122 = .ok (.iconst 1, 1) := by decide +kernel
theorem dX12_pass_123 : decode cX12_pass 123 = .ok (.iaload, 1) := by decide +kernel
theorem dX12_pass_124 : decode cX12_pass 124 = .ok (.iadd, 1) := by decide +kernel
theorem dX12_pass_125 : decode cX12_pass 125 = .ok (.ldc 172, 2) := by decide +kernel
theorem dX12_pass_127 : decode cX12_pass 127 = .ok (.if_icmp .le 8, 3) := by decide +kernel
theorem dX12_pass_130 : decode cX12_pass 130 = .ok (.ldc 172, 2) := by decide +kernel
theorem dX12_pass_132 : decode cX12_pass 132 = .ok (.goto 10, 3) := by decide +kernel
theorem dX12_pass_135 : decode cX12_pass 135 = .ok (.aload_n 1, 1) := by decide +kernel
theorem dX12_pass_136 : decode cX12_pass 136 = .ok (.iconst 2, 1) := by decide +kernel
theorem dX12_pass_137 : decode cX12_pass 137 = .ok (.iaload, 1) := by decide +kernel
theorem dX12_pass_138 : decode cX12_pass 138 = .ok (.aload_n 1, 1) := by decide +kernel
theorem dX12_pass_139 : decode cX12_pass 139 = .ok (.iconst 1, 1) := by decide +kernel
theorem dX12_pass_140 : decode cX12_pass 140 = .ok (.iaload, 1) := by decide +kernel
theorem dX12_pass_141 : decode cX12_pass 141 = .ok (.iadd, 1) := by decide +kernel
theorem dX12_pass_142 : decode cX12_pass 142 = .ok (.iastore, 1) := by decide +kernel
theorem dX12_pass_143 : decode cX12_pass 143 = .ok (.iconst 0, 1) := by decide +kernel
theorem dX12_pass_144 : decode cX12_pass 144 = .ok (.istore 5, 2) := by decide +kernel
theorem dX12_pass_146 : decode cX12_pass 146 = .ok (.iload 5, 2) := by decide +kernel
theorem dX12_pass_148 : decode cX12_pass 148 = .ok (.aload_n 0, 1) := by decide +kernel
theorem dX12_pass_149 : decode cX12_pass 149 = .ok (.getfield 69, 3) := by decide +kernel
theorem dX12_pass_152 : decode cX12_pass 152 = .ok (.if_icmp .ge 143, 3) := by decide +kernel
theorem dX12_pass_155 : decode cX12_pass 155 = .ok (.iload 5, 2) := by decide +kernel
theorem dX12_pass_157 : decode cX12_pass 157 = .ok (.aload_n 1, 1) := by decide +kernel
theorem dX12_pass_158 : decode cX12_pass 158 = .ok (.iconst 4, 1) := by decide +kernel
theorem dX12_pass_159 : decode cX12_pass 159 = .ok (.iaload, 1) := by decide +kernel
theorem dX12_pass_160 : decode cX12_pass 160 = .ok (.if_icmp .eq 11, 3) := by decide +kernel
theorem dX12_pass_163 : decode cX12_pass 163 = .ok (.iload 5, 2) := by decide +kernel
theorem dX12_pass_165 : decode cX12_pass 165 = .ok (.aload_n 1, 1) := by decide +kernel
theorem dX12_pass_166 : decode cX12_pass 166 = .ok (.iconst 5, 1) := by decide +kernel
theorem dX12_pass_167 : decode cX12_pass 167 = .ok (.iaload, 1) := by decide +kernel
theorem dX12_pass_168 : decode cX12_pass 168 = .ok (.if_icmp .ne 88, 3) := by decide +kernel
theorem dX12_pass_171 : decode cX12_pass 171 = .ok (.aload_n 1, 1) := by decide +kernel
theorem dX12_pass_172 : decode cX12_pass 172 = .ok (.bipush 7, 2) := by decide +kernel
theorem dX12_pass_174 : decode cX12_pass 174 = .ok (.iload 5, 2) := by decide +kernel
theorem dX12_pass_176 : decode cX12_pass 176 = .ok (.iadd, 1) := by decide +kernel
theorem dX12_pass_177 : decode cX12_pass 177 = .ok (.aload_n 1, 1) := by decide +kernel
theorem dX12_pass_178 : decode cX12_pass 178 = .ok (.bipush 7, 2) := by decide +kernel
theorem dX12_pass_180 : decode cX12_pass 180 = .ok (.iload 5, 2) := by decide +kernel
theorem dX12_pass_182 : decode cX12_pass 182 = .ok (.iadd, 1) := by decide +kernel
theorem dX12_pass_183 : decode cX12_pass 183 = .ok (.iaload, 1) := by decide +kernel
theorem dX12_pass_184 : decode cX12_pass 184 = .ok (.bipush 20, 2) := by decide +kernel
theorem dX12_pass_186 : decode cX12_pass 186 = .ok (.if_icmp .ge 15, 3) := by decide +kernel
theorem dX12_pass_189 : decode cX12_pass 189 = .ok (.aload_n 1, 1) := by decide +kernel
theorem dX12_pass_190 : decode cX12_pass 190 = .ok (.bipush 7, 2) := by decide +kernel
theorem dX12_pass_192 : decode cX12_pass 192 = .ok (.iload 5, 2) := by decide +kernel
theorem dX12_pass_194 : decode cX12_pass 194 = .ok (.iadd, 1) := by decide +kernel
theorem dX12_pass_195 : decode cX12_pass 195 = .ok (.iaload, 1) := by decide +kernel
theorem dX12_pass_196 : decode cX12_pass 196 = .ok (.iconst 1, 1) := by decide +kernel
theorem dX12_pass_197 : decode cX12_pass 197 = .ok (.iadd, 1) := by decide +kernel
theorem dX12_pass_198 : decode cX12_pass 198 = .ok (.goto 5, 3) := by decide +kernel
theorem dX12_pass_201 : decode cX12_pass 201 = .ok (.bipush 20, 2) := by decide +kernel
theorem dX12_pass_203 : decode cX12_pass 203 = .ok (.iastore, 1) := by decide +kernel
theorem dX12_pass_204 : decode cX12_pass 204 = .ok (.aload_n 1, 1) := by decide +kernel
theorem dX12_pass_205 : decode cX12_pass 205 = .ok (.bipush 13, 2) := by decide +kernel
theorem dX12_pass_207 : decode cX12_pass 207 = .ok (.iload 5, 2) := by decide +kernel
theorem dX12_pass_209 : decode cX12_pass 209 = .ok (.iadd, 1) := by decide +kernel
theorem dX12_pass_210 : decode cX12_pass 210 = .ok (.dup2, 1) := by decide +kernel
theorem dX12_pass_211 : decode cX12_pass 211 = .ok (.iaload, 1) := by decide +kernel
theorem dX12_pass_212 : decode cX12_pass 212 = .ok (.iconst 1, 1) := by decide +kernel
theorem dX12_pass_213 : decode cX12_pass 213 = .ok (.iadd, 1) := by decide +kernel
theorem dX12_pass_214 : decode cX12_pass 214 = .ok (.iastore, 1) := by decide +kernel
theorem dX12_pass_215 : decode cX12_pass 215 = .ok (.aload_n 1, 1) := by decide +kernel
theorem dX12_pass_216 : decode cX12_pass 216 = .ok (.bipush 19, 2) := by decide +kernel
theorem dX12_pass_218 : decode cX12_pass 218 = .ok (.iload 5, 2) := by decide +kernel
theorem dX12_pass_220 : decode cX12_pass 220 = .ok (.iadd, 1) := by decide +kernel
theorem dX12_pass_221 : decode cX12_pass 221 = .ok (.dup2, 1) := by decide +kernel
theorem dX12_pass_222 : decode cX12_pass 222 = .ok (.iaload, 1) := by decide +kernel
theorem dX12_pass_223 : decode cX12_pass 223 = .ok (.iconst 1, 1) := by decide +kernel
theorem dX12_pass_224 : decode cX12_pass 224 = .ok (.iadd, 1) := by decide +kernel
theorem dX12_pass_225 : decode cX12_pass 225 = .ok (.iastore, 1) := by decide +kernel
theorem dX12_pass_226 : decode cX12_pass 226 = .ok (.aload_n 1, 1) := by decide +kernel
theorem dX12_pass_227 : decode cX12_pass 227 = .ok (.iconst 3, 1) := by decide +kernel
theorem dX12_pass_228 : decode cX12_pass 228 = .ok (.dup2, 1) := by decide +kernel
theorem dX12_pass_229 : decode cX12_pass 229 = .ok (.iaload, 1) := by decide +kernel
theorem dX12_pass_230 : decode cX12_pass 230 = .ok (.aload_n 0, 1) := by decide +kernel
theorem dX12_pass_231 : decode cX12_pass 231 = .ok (.iload 5, 2) := by decide +kernel
theorem dX12_pass_233 : decode cX12_pass 233 = .ok (.invokevirtual 157, 3) := by decide +kernel
theorem dX12_pass_236 : decode cX12_pass 236 = .ok (.iconst 4, 1) := by decide +kernel
theorem dX12_pass_237 : decode cX12_pass 237 = .ok (.if_icmp .ne 13, 3) := by decide +kernel
theorem dX12_pass_240 : decode cX12_pass 240 = .ok (.aload_n 1, 1) := by decide +kernel
theorem dX12_pass_241 : decode cX12_pass 241 = .ok (.iconst 3, 1) := by decide +kernel
theorem dX12_pass_242 : decode cX12_pass 242 = .ok (.iaload, 1) := by decide +kernel
theorem dX12_pass_243 : decode cX12_pass 243 = .ok (.ifCond .le 7, 3) := by decide +kernel
theorem dX12_pass_246 : decode cX12_pass 246 = .ok (.iconst 1, 1) := by decide +kernel
theorem dX12_pass_247 : decode cX12_pass 247 = .ok (.goto 4, 3) := by decide +kernel
theorem dX12_pass_250 : decode cX12_pass 250 = .ok (.iconst 0, 1) := by decide +kernel
theorem dX12_pass_251 : decode cX12_pass 251 = .ok (.isub, 1) := by decide +kernel
theorem dX12_pass_252 : decode cX12_pass 252 = .ok (.iastore, 1) := by decide +kernel
theorem dX12_pass_253 : decode cX12_pass 253 = .ok (.goto 36, 3) := by decide +kernel
theorem dX12_pass_256 : decode cX12_pass 256 = .ok (.aload_n 1, 1) := by decide +kernel
theorem dX12_pass_257 : decode cX12_pass 257 = .ok (.bipush 7, 2) := by decide +kernel
theorem dX12_pass_259 : decode cX12_pass 259 = .ok (.iload 5, 2) := by decide +kernel
theorem dX12_pass_261 : decode cX12_pass 261 = .ok (.iadd, 1) := by decide +kernel
theorem dX12_pass_262 : decode cX12_pass 262 = .ok (.dup2, 1) := by decide +kernel
theorem dX12_pass_263 : decode cX12_pass 263 = .ok (.iaload, 1) := by decide +kernel
theorem dX12_pass_264 : decode cX12_pass 264 = .ok (.aload_n 1, 1) := by decide +kernel
theorem dX12_pass_265 : decode cX12_pass 265 = .ok (.bipush 7, 2) := by decide +kernel
theorem dX12_pass_267 : decode cX12_pass 267 = .ok (.iload 5, 2) := by decide +kernel
theorem dX12_pass_269 : decode cX12_pass 269 = .ok (.iadd, 1) := by decide +kernel
theorem dX12_pass_270 : decode cX12_pass 270 = .ok (.iaload, 1) := by decide +kernel
theorem dX12_pass_271 : decode cX12_pass 271 = .ok (.ifCond .le 7, 3) := by decide +kernel
theorem dX12_pass_274 : decode cX12_pass 274 = .ok (.iconst 1, 1) := by decide +kernel
theorem dX12_pass_275 : decode cX12_pass 275 = .ok (.goto 4, 3) := by decide +kernel
theorem dX12_pass_278 : decode cX12_pass 278 = .ok (.iconst 0, 1) := by decide +kernel
theorem dX12_pass_279 : decode cX12_pass 279 = .ok (.isub, 1) := by decide +kernel
theorem dX12_pass_280 : decode cX12_pass 280 = .ok (.iastore, 1) := by decide +kernel
theorem dX12_pass_281 : decode cX12_pass 281 = .ok (.aload_n 1, 1) := by decide +kernel
theorem dX12_pass_282 : decode cX12_pass 282 = .ok (.bipush 19, 2) := by decide +kernel
theorem dX12_pass_284 : decode cX12_pass 284 = .ok (.iload 5, 2) := by decide +kernel
theorem dX12_pass_286 : decode cX12_pass 286 = .ok (.iadd, 1) := by decide +kernel
theorem dX12_pass_287 : decode cX12_pass 287 = .ok (.iconst 0, 1) := by decide +kernel
theorem dX12_pass_288 : decode cX12_pass 288 = .ok (.iastore, 1) := by decide +kernel
theorem dX12_pass_289 : decode cX12_pass 289 = .ok (.iinc 5 1, 3) := by decide +kernel
theorem dX12_pass_292 : decode cX12_pass 292 = .ok (.goto (-146), 3) := by decide +kernel
theorem dX12_pass_295 : decode cX12_pass 295 = .ok (.aload_n 1, 1) := by decide +kernel
theorem dX12_pass_296 : decode cX12_pass 296 = .ok (.iconst 0, 1) := by decide +kernel
theorem dX12_pass_297 : decode cX12_pass 297 = .ok (.dup2, 1) := by decide +kernel
theorem dX12_pass_298 : decode cX12_pass 298 = .ok (.iaload, 1) := by decide +kernel
theorem dX12_pass_299 : decode cX12_pass 299 = .ok (.iconst 1, 1) := by decide +kernel
theorem dX12_pass_300 : decode cX12_pass 300 = .ok (.iadd, 1) := by decide +kernel
theorem dX12_pass_301 : decode cX12_pass 301 = .ok (.iastore, 1) := by decide +kernel
theorem dX12_pass_302 : decode cX12_pass 302 = .ok (.return_, 1) := by decide +kernel
theorem dX12_copy_0 : decode cX12_copy 0 = .ok (.iconst 0, 1) := by decide +kernel
theorem dX12_copy_1 : decode cX12_copy 1 = .ok (.istore 4, 2) := by decide +kernel
theorem dX12_copy_3 : decode cX12_copy 3 = .ok (.iload 4, 2) := by decide +kernel
theorem dX12_copy_5 : decode cX12_copy 5 = .ok (.bipush 31, 2) := by decide +kernel
theorem dX12_copy_7 : decode cX12_copy 7 = .ok (.if_icmp .ge 21, 3) := by decide +kernel
theorem dX12_copy_10 : decode cX12_copy 10 = .ok (.aload_n 2, 1) := by decide +kernel
theorem dX12_copy_11 : decode cX12_copy 11 = .ok (.iload_n 3, 1) := by decide +kernel
theorem dX12_copy_12 : decode cX12_copy 12 = .ok (.iload 4, 2) := by decide +kernel
theorem dX12_copy_14 : decode cX12_copy 14 = .ok (.iadd, 1) := by decide +kernel
theorem dX12_copy_15 : decode cX12_copy 15 = .ok (.aload_n 0, 1) := by decide +kernel
theorem dX12_copy_16 : decode cX12_copy 16 = .ok (.iload_n 1, 1) := by decide +kernel
theorem dX12_copy_17 : decode cX12_copy 17 = .ok (.iload 4, 2) := by decide +kernel
theorem dX12_copy_19 : decode cX12_copy 19 = .ok (.iadd, 1) := by decide +kernel
theorem dX12_copy_20 : decode cX12_copy 20 = .ok (.iaload, 1) := by decide +kernel
theorem dX12_copy_21 : decode cX12_copy 21 = .ok (.iastore, 1) := by decide +kernel
theorem dX12_copy_22 : decode cX12_copy 22 = .ok (.iinc 4 1, 3) := by decide +kernel
theorem dX12_copy_25 : decode cX12_copy 25 = .ok (.goto (-22), 3) := by decide +kernel
theorem dX12_copy_28 : decode cX12_copy 28 = .ok (.return_, 1) := by decide +kernel
theorem dX12_note_0 : decode cX12_note 0 = .ok (.aload_n 0, 1) := by decide +kernel
theorem dX12_note_1 : decode cX12_note 1 = .ok (.getfield 76, 3) := by decide +kernel
theorem dX12_note_4 : decode cX12_note 4 = .ok (.bipush 60, 2) := by decide +kernel
theorem dX12_note_6 : decode cX12_note 6 = .ok (.if_icmp .ne 43, 3) := by decide +kernel
theorem dX12_note_9 : decode cX12_note 9 = .ok (.iconst 0, 1) := by decide +kernel
theorem dX12_note_10 : decode cX12_note 10 = .ok (.istore_n 1, 1) := by decide +kernel
theorem dX12_note_11 : decode cX12_note 11 = .ok (.iload_n 1, 1) := by decide +kernel
theorem dX12_note_12 : decode cX12_note 12 = .ok (.sipush 1829, 3) := by decide +kernel
theorem dX12_note_15 : decode cX12_note 15 = .ok (.if_icmp .ge 24, 3) := by decide +kernel
theorem dX12_note_18 : decode cX12_note 18 = .ok (.aload_n 0, 1) := by decide +kernel
theorem dX12_note_19 : decode cX12_note 19 = .ok (.getfield 48, 3) := by decide +kernel
theorem dX12_note_22 : decode cX12_note 22 = .ok (.iload_n 1, 1) := by decide +kernel
theorem dX12_note_23 : decode cX12_note 23 = .ok (.aload_n 0, 1) := by decide +kernel
theorem dX12_note_24 : decode cX12_note 24 = .ok (.getfield 48, 3) := by decide +kernel
theorem dX12_note_27 : decode cX12_note 27 = .ok (.iload_n 1, 1) := by decide +kernel
theorem dX12_note_28 : decode cX12_note 28 = .ok (.bipush 31, 2) := by decide +kernel
theorem dX12_note_30 : decode cX12_note 30 = .ok (.iadd, 1) := by decide +kernel
theorem dX12_note_31 : decode cX12_note 31 = .ok (.iaload, 1) := by decide +kernel
theorem dX12_note_32 : decode cX12_note 32 = .ok (.iastore, 1) := by decide +kernel
theorem dX12_note_33 : decode cX12_note 33 = .ok (.iinc 1 1, 3) := by decide +kernel
theorem dX12_note_36 : decode cX12_note 36 = .ok (.goto (-25), 3) := by decide +kernel
theorem dX12_note_39 : decode cX12_note 39 = .ok (.aload_n 0, 1) := by decide +kernel
theorem dX12_note_40 : decode cX12_note 40 = .ok (.dup, 1) := by decide +kernel
theorem dX12_note_41 : decode cX12_note 41 = .ok (.getfield 76, 3) := by decide +kernel
theorem dX12_note_44 : decode cX12_note 44 = .ok (.iconst 1, 1) := by decide +kernel
theorem dX12_note_45 : decode cX12_note 45 = .ok (.isub, 1) := by decide +kernel
theorem dX12_note_46 : decode cX12_note 46 = .ok (.putfield 76, 3) := by decide +kernel
theorem dX12_note_49 : decode cX12_note 49 = .ok (.aload_n 0, 1) := by decide +kernel
theorem dX12_note_50 : decode cX12_note 50 = .ok (.getfield 35, 3) := by decide +kernel
theorem dX12_note_53 : decode cX12_note 53 = .ok (.iconst 0, 1) := by decide +kernel
theorem dX12_note_54 : decode cX12_note 54 = .ok (.aload_n 0, 1) := by decide +kernel
theorem dX12_note_55 : decode cX12_note 55 = .ok (.getfield 48, 3) := by decide +kernel
theorem dX12_note_58 : decode cX12_note 58 = .ok (.bipush 31, 2) := by decide +kernel
theorem dX12_note_60 : decode cX12_note 60 = .ok (.aload_n 0, 1) := by decide +kernel
theorem dX12_note_61 : decode cX12_note 61 = .ok (.getfield 76, 3) := by decide +kernel
theorem dX12_note_64 : decode cX12_note 64 = .ok (.imul, 1) := by decide +kernel
theorem dX12_note_65 : decode cX12_note 65 = .ok (.invokestatic 173, 3) := by decide +kernel
theorem dX12_note_68 : decode cX12_note 68 = .ok (.aload_n 0, 1) := by decide +kernel
theorem dX12_note_69 : decode cX12_note 69 = .ok (.dup, 1) := by decide +kernel
theorem dX12_note_70 : decode cX12_note 70 = .ok (.getfield 76, 3) := by decide +kernel
theorem dX12_note_73 : decode cX12_note 73 = .ok (.iconst 1, 1) := by decide +kernel
theorem dX12_note_74 : decode cX12_note 74 = .ok (.iadd, 1) := by decide +kernel
theorem dX12_note_75 : decode cX12_note 75 = .ok (.putfield 76, 3) := by decide +kernel
theorem dX12_note_78 : decode cX12_note 78 = .ok (.return_, 1) := by decide +kernel
theorem dX12_isHere_0 : decode cX12_isHere 0 = .ok (.aload_n 0, 1) := by decide +kernel
theorem dX12_isHere_1 : decode cX12_isHere 1 = .ok (.getfield 154, 3) := by decide +kernel
theorem dX12_isHere_4 : decode cX12_isHere 4 = .ok (.ifCond .le 14, 3) := by decide +kernel
theorem dX12_isHere_7 : decode cX12_isHere 7 = .ok (.aload_n 0, 1) := by decide +kernel
theorem dX12_isHere_8 : decode cX12_isHere 8 = .ok (.getfield 69, 3) := by decide +kernel
theorem dX12_isHere_11 : decode cX12_isHere 11 = .ok (.ifCond .le 7, 3) := by decide +kernel
theorem dX12_isHere_14 : decode cX12_isHere 14 = .ok (.iconst 1, 1) := by decide +kernel
theorem dX12_isHere_15 : decode cX12_isHere 15 = .ok (.goto 4, 3) := by decide +kernel
theorem dX12_isHere_18 : decode cX12_isHere 18 = .ok (.iconst 0, 1) := by decide +kernel
theorem dX12_isHere_19 : decode cX12_isHere 19 = .ok (.ireturn, 1) := by decide +kernel
theorem dX12_told_0 : decode cX12_told 0 = .ok (.iload_n 1, 1) := by decide +kernel
theorem dX12_told_1 : decode cX12_told 1 = .ok (.tableswitch 161 0 13 #[71, 76, 81, 86, 93, 100, 107, 114, 121, 128, 137, 146, 151, 156], 71) := by decide +kernel
theorem dX12_told_72 : decode cX12_told 72 = .ok (.aload_n 0, 1) := by decide +kernel
theorem dX12_told_73 : decode cX12_told 73 = .ok (.getfield 154, 3) := by decide +kernel
theorem dX12_told_76 : decode cX12_told 76 = .ok (.ireturn, 1) := by decide +kernel
theorem dX12_told_77 : decode cX12_told 77 = .ok (.aload_n 0, 1) := by decide +kernel
theorem dX12_told_78 : decode cX12_told 78 = .ok (.getfield 69, 3) := by decide +kernel
theorem dX12_told_81 : decode cX12_told 81 = .ok (.ireturn, 1) := by decide +kernel
theorem dX12_told_82 : decode cX12_told 82 = .ok (.aload_n 0, 1) := by decide +kernel
theorem dX12_told_83 : decode cX12_told 83 = .ok (.getfield 86, 3) := by decide +kernel
theorem dX12_told_86 : decode cX12_told 86 = .ok (.ireturn, 1) := by decide +kernel
theorem dX12_told_87 : decode cX12_told 87 = .ok (.aload_n 0, 1) := by decide +kernel
theorem dX12_told_88 : decode cX12_told 88 = .ok (.getfield 35, 3) := by decide +kernel
theorem dX12_told_91 : decode cX12_told 91 = .ok (.iconst 0, 1) := by decide +kernel
theorem dX12_told_92 : decode cX12_told 92 = .ok (.iaload, 1) := by decide +kernel
theorem dX12_told_93 : decode cX12_told 93 = .ok (.ireturn, 1) := by decide +kernel
theorem dX12_told_94 : decode cX12_told 94 = .ok (.aload_n 0, 1) := by decide +kernel
theorem dX12_told_95 : decode cX12_told 95 = .ok (.getfield 35, 3) := by decide +kernel
theorem dX12_told_98 : decode cX12_told 98 = .ok (.iconst 1, 1) := by decide +kernel
theorem dX12_told_99 : decode cX12_told 99 = .ok (.iaload, 1) := by decide +kernel
theorem dX12_told_100 : decode cX12_told 100 = .ok (.ireturn, 1) := by decide +kernel
theorem dX12_told_101 : decode cX12_told 101 = .ok (.aload_n 0, 1) := by decide +kernel
theorem dX12_told_102 : decode cX12_told 102 = .ok (.getfield 35, 3) := by decide +kernel
theorem dX12_told_105 : decode cX12_told 105 = .ok (.iconst 2, 1) := by decide +kernel
theorem dX12_told_106 : decode cX12_told 106 = .ok (.iaload, 1) := by decide +kernel
theorem dX12_told_107 : decode cX12_told 107 = .ok (.ireturn, 1) := by decide +kernel
theorem dX12_told_108 : decode cX12_told 108 = .ok (.aload_n 0, 1) := by decide +kernel
theorem dX12_told_109 : decode cX12_told 109 = .ok (.getfield 35, 3) := by decide +kernel
theorem dX12_told_112 : decode cX12_told 112 = .ok (.iconst 3, 1) := by decide +kernel
theorem dX12_told_113 : decode cX12_told 113 = .ok (.iaload, 1) := by decide +kernel
theorem dX12_told_114 : decode cX12_told 114 = .ok (.ireturn, 1) := by decide +kernel
theorem dX12_told_115 : decode cX12_told 115 = .ok (.aload_n 0, 1) := by decide +kernel
theorem dX12_told_116 : decode cX12_told 116 = .ok (.getfield 35, 3) := by decide +kernel
theorem dX12_told_119 : decode cX12_told 119 = .ok (.iconst 4, 1) := by decide +kernel
theorem dX12_told_120 : decode cX12_told 120 = .ok (.iaload, 1) := by decide +kernel
theorem dX12_told_121 : decode cX12_told 121 = .ok (.ireturn, 1) := by decide +kernel
theorem dX12_told_122 : decode cX12_told 122 = .ok (.aload_n 0, 1) := by decide +kernel
theorem dX12_told_123 : decode cX12_told 123 = .ok (.getfield 35, 3) := by decide +kernel
theorem dX12_told_126 : decode cX12_told 126 = .ok (.iconst 5, 1) := by decide +kernel
theorem dX12_told_127 : decode cX12_told 127 = .ok (.iaload, 1) := by decide +kernel
theorem dX12_told_128 : decode cX12_told 128 = .ok (.ireturn, 1) := by decide +kernel
theorem dX12_told_129 : decode cX12_told 129 = .ok (.aload_n 0, 1) := by decide +kernel
theorem dX12_told_130 : decode cX12_told 130 = .ok (.aload_n 0, 1) := by decide +kernel
theorem dX12_told_131 : decode cX12_told 131 = .ok (.getfield 35, 3) := by decide +kernel
theorem dX12_told_134 : decode cX12_told 134 = .ok (.invokevirtual 165, 3) := by decide +kernel
theorem dX12_told_137 : decode cX12_told 137 = .ok (.ireturn, 1) := by decide +kernel
theorem dX12_told_138 : decode cX12_told 138 = .ok (.aload_n 0, 1) := by decide +kernel
theorem dX12_told_139 : decode cX12_told 139 = .ok (.aload_n 0, 1) := by decide +kernel
theorem dX12_told_140 : decode cX12_told 140 = .ok (.getfield 35, 3) := by decide +kernel
theorem dX12_told_143 : decode cX12_told 143 = .ok (.invokevirtual 169, 3) := by decide +kernel
theorem dX12_told_146 : decode cX12_told 146 = .ok (.ireturn, 1) := by decide +kernel
theorem dX12_told_147 : decode cX12_told 147 = .ok (.aload_n 0, 1) := by decide +kernel
theorem dX12_told_148 : decode cX12_told 148 = .ok (.getfield 79, 3) := by decide +kernel
theorem dX12_told_151 : decode cX12_told 151 = .ok (.ireturn, 1) := by decide +kernel
theorem dX12_told_152 : decode cX12_told 152 = .ok (.aload_n 0, 1) := by decide +kernel
theorem dX12_told_153 : decode cX12_told 153 = .ok (.getfield 82, 3) := by decide +kernel
theorem dX12_told_156 : decode cX12_told 156 = .ok (.ireturn, 1) := by decide +kernel
theorem dX12_told_157 : decode cX12_told 157 = .ok (.aload_n 0, 1) := by decide +kernel
theorem dX12_told_158 : decode cX12_told 158 = .ok (.getfield 76, 3) := by decide +kernel
theorem dX12_told_161 : decode cX12_told 161 = .ok (.ireturn, 1) := by decide +kernel
theorem dX12_told_162 : decode cX12_told 162 = .ok (.ldc 85, 2) := by decide +kernel
theorem dX12_told_164 : decode cX12_told 164 = .ok (.ireturn, 1) := by decide +kernel
theorem dX12_person_0 : decode cX12_person 0 = .ok (.aload_n 0, 1) := by decide +kernel
theorem dX12_person_1 : decode cX12_person 1 = .ok (.iload_n 1, 1) := by decide +kernel
theorem dX12_person_2 : decode cX12_person 2 = .ok (.invokevirtual 177, 3) := by decide +kernel
theorem dX12_person_5 : decode cX12_person 5 = .ok (.ifCond .ne 6, 3) := by decide +kernel
theorem dX12_person_8 : decode cX12_person 8 = .ok (.ldc 180, 2) := by decide +kernel
theorem dX12_person_10 : decode cX12_person 10 = .ok (.ireturn, 1) := by decide +kernel
theorem dX12_person_11 : decode cX12_person 11 = .ok (.iload_n 2, 1) := by decide +kernel
theorem dX12_person_12 : decode cX12_person 12 = .ok (.tableswitch 117 0 9 #[56, 56, 56, 56, 56, 67, 77, 87, 97, 107], 56) := by decide +kernel
theorem dX12_person_68 : decode cX12_person 68 = .ok (.aload_n 0, 1) := by decide +kernel
theorem dX12_person_69 : decode cX12_person 69 = .ok (.getfield 29, 3) := by decide +kernel
theorem dX12_person_72 : decode cX12_person 72 = .ok (.iconst 5, 1) := by decide +kernel
theorem dX12_person_73 : decode cX12_person 73 = .ok (.iload_n 1, 1) := by decide +kernel
theorem dX12_person_74 : decode cX12_person 74 = .ok (.imul, 1) := by decide +kernel
theorem dX12_person_75 : decode cX12_person 75 = .ok (.iload_n 2, 1) := by decide +kernel
theorem dX12_person_76 : decode cX12_person 76 = .ok (.iadd, 1) := by decide +kernel
theorem dX12_person_77 : decode cX12_person 77 = .ok (.iaload, 1) := by decide +kernel
theorem dX12_person_78 : decode cX12_person 78 = .ok (.ireturn, 1) := by decide +kernel
theorem dX12_person_79 : decode cX12_person 79 = .ok (.aload_n 0, 1) := by decide +kernel
theorem dX12_person_80 : decode cX12_person 80 = .ok (.getfield 35, 3) := by decide +kernel
theorem dX12_person_83 : decode cX12_person 83 = .ok (.bipush 7, 2) := by decide +kernel
theorem dX12_person_85 : decode cX12_person 85 = .ok (.iload_n 1, 1) := by decide +kernel
theorem dX12_person_86 : decode cX12_person 86 = .ok (.iadd, 1) := by decide +kernel
theorem dX12_person_87 : decode cX12_person 87 = .ok (.iaload, 1) := by decide +kernel
theorem dX12_person_88 : decode cX12_person 88 = .ok (.ireturn, 1) := by decide +kernel
theorem dX12_person_89 : decode cX12_person 89 = .ok (.aload_n 0, 1) := by decide +kernel
theorem dX12_person_90 : decode cX12_person 90 = .ok (.getfield 35, 3) := by decide +kernel
theorem dX12_person_93 : decode cX12_person 93 = .ok (.bipush 13, 2) := by decide +kernel
theorem dX12_person_95 : decode cX12_person 95 = .ok (.iload_n 1, 1) := by decide +kernel
theorem dX12_person_96 : decode cX12_person 96 = .ok (.iadd, 1) := by decide +kernel
theorem dX12_person_97 : decode cX12_person 97 = .ok (.iaload, 1) := by decide +kernel
theorem dX12_person_98 : decode cX12_person 98 = .ok (.ireturn, 1) := by decide +kernel
theorem dX12_person_99 : decode cX12_person 99 = .ok (.aload_n 0, 1) := by decide +kernel
theorem dX12_person_100 : decode cX12_person 100 = .ok (.getfield 35, 3) := by decide +kernel
theorem dX12_person_103 : decode cX12_person 103 = .ok (.bipush 25, 2) := by decide +kernel
theorem dX12_person_105 : decode cX12_person 105 = .ok (.iload_n 1, 1) := by decide +kernel
theorem dX12_person_106 : decode cX12_person 106 = .ok (.iadd, 1) := by decide +kernel
theorem dX12_person_107 : decode cX12_person 107 = .ok (.iaload, 1) := by decide +kernel
theorem dX12_person_108 : decode cX12_person 108 = .ok (.ireturn, 1) := by decide +kernel
theorem dX12_person_109 : decode cX12_person 109 = .ok (.aload_n 0, 1) := by decide +kernel
theorem dX12_person_110 : decode cX12_person 110 = .ok (.aload_n 0, 1) := by decide +kernel
theorem dX12_person_111 : decode cX12_person 111 = .ok (.getfield 35, 3) := by decide +kernel
theorem dX12_person_114 : decode cX12_person 114 = .ok (.iload_n 1, 1) := by decide +kernel
theorem dX12_person_115 : decode cX12_person 115 = .ok (.invokevirtual 161, 3) := by decide +kernel
theorem dX12_person_118 : decode cX12_person 118 = .ok (.ireturn, 1) := by decide +kernel
theorem dX12_person_119 : decode cX12_person 119 = .ok (.aload_n 0, 1) := by decide +kernel
theorem dX12_person_120 : decode cX12_person 120 = .ok (.getfield 35, 3) := by decide +kernel
theorem dX12_person_123 : decode cX12_person 123 = .ok (.bipush 19, 2) := by decide +kernel
theorem dX12_person_125 : decode cX12_person 125 = .ok (.iload_n 1, 1) := by decide +kernel
theorem dX12_person_126 : decode cX12_person 126 = .ok (.iadd, 1) := by decide +kernel
theorem dX12_person_127 : decode cX12_person 127 = .ok (.iaload, 1) := by decide +kernel
theorem dX12_person_128 : decode cX12_person 128 = .ok (.ireturn, 1) := by decide +kernel
theorem dX12_person_129 : decode cX12_person 129 = .ok (.ldc 85, 2) := by decide +kernel
theorem dX12_person_131 : decode cX12_person 131 = .ok (.ireturn, 1) := by decide +kernel
theorem dX12_word_0 : decode cX12_word 0 = .ok (.iload_n 1, 1) := by decide +kernel
theorem dX12_word_1 : decode cX12_word 1 = .ok (.iconst 0, 1) := by decide +kernel
theorem dX12_word_2 : decode cX12_word 2 = .ok (.iconst 2, 1) := by decide +kernel
theorem dX12_word_3 : decode cX12_word 3 = .ok (.invokestatic 72, 3) := by decide +kernel
theorem dX12_word_6 : decode cX12_word 6 = .ok (.ifCond .eq 12, 3) := by decide +kernel
theorem dX12_word_9 : decode cX12_word 9 = .ok (.aload_n 0, 1) := by decide +kernel
theorem dX12_word_10 : decode cX12_word 10 = .ok (.getfield 32, 3) := by decide +kernel
theorem dX12_word_13 : decode cX12_word 13 = .ok (.iload_n 1, 1) := by decide +kernel
theorem dX12_word_14 : decode cX12_word 14 = .ok (.iaload, 1) := by decide +kernel
theorem dX12_word_15 : decode cX12_word 15 = .ok (.goto 5, 3) := by decide +kernel
theorem dX12_word_18 : decode cX12_word 18 = .ok (.ldc 85, 2) := by decide +kernel
theorem dX12_word_20 : decode cX12_word 20 = .ok (.ireturn, 1) := by decide +kernel
theorem dX12_hour_0 : decode cX12_hour 0 = .ok (.iload_n 1, 1) := by decide +kernel
theorem dX12_hour_1 : decode cX12_hour 1 = .ok (.iconst 1, 1) := by decide +kernel
theorem dX12_hour_2 : decode cX12_hour 2 = .ok (.bipush 99, 2) := by decide +kernel
theorem dX12_hour_4 : decode cX12_hour 4 = .ok (.invokestatic 72, 3) := by decide +kernel
theorem dX12_hour_7 : decode cX12_hour 7 = .ok (.ifCond .ne 6, 3) := by decide +kernel
theorem dX12_hour_10 : decode cX12_hour 10 = .ok (.ldc 85, 2) := by decide +kernel
theorem dX12_hour_12 : decode cX12_hour 12 = .ok (.ireturn, 1) := by decide +kernel
theorem dX12_hour_13 : decode cX12_hour 13 = .ok (.aload_n 0, 1) := by decide +kernel
theorem dX12_hour_14 : decode cX12_hour 14 = .ok (.invokevirtual 181, 3) := by decide +kernel
theorem dX12_hour_17 : decode cX12_hour 17 = .ok (.ifCond .ne 6, 3) := by decide +kernel
theorem dX12_hour_20 : decode cX12_hour 20 = .ok (.ldc 184, 2) := by decide +kernel
theorem dX12_hour_22 : decode cX12_hour 22 = .ok (.ireturn, 1) := by decide +kernel
theorem dX12_hour_23 : decode cX12_hour 23 = .ok (.iconst 0, 1) := by decide +kernel
theorem dX12_hour_24 : decode cX12_hour 24 = .ok (.istore_n 2, 1) := by decide +kernel
theorem dX12_hour_25 : decode cX12_hour 25 = .ok (.iload_n 2, 1) := by decide +kernel
theorem dX12_hour_26 : decode cX12_hour 26 = .ok (.iload_n 1, 1) := by decide +kernel
theorem dX12_hour_27 : decode cX12_hour 27 = .ok (.if_icmp .ge 22, 3) := by decide +kernel
theorem dX12_hour_30 : decode cX12_hour 30 = .ok (.aload_n 0, 1) := by decide +kernel
theorem dX12_hour_31 : decode cX12_hour 31 = .ok (.invokevirtual 185, 3) := by decide +kernel
theorem dX12_hour_34 : decode cX12_hour 34 = .ok (.aload_n 0, 1) := by decide +kernel
theorem dX12_hour_35 : decode cX12_hour 35 = .ok (.aload_n 0, 1) := by decide +kernel
theorem dX12_hour_36 : decode cX12_hour 36 = .ok (.getfield 35, 3) := by decide +kernel
theorem dX12_hour_39 : decode cX12_hour 39 = .ok (.iconst 0, 1) := by decide +kernel
theorem dX12_hour_40 : decode cX12_hour 40 = .ok (.invokevirtual 188, 3) := by decide +kernel
theorem dX12_hour_43 : decode cX12_hour 43 = .ok (.iinc 2 1, 3) := by decide +kernel
theorem dX12_hour_46 : decode cX12_hour 46 = .ok (.goto (-21), 3) := by decide +kernel
theorem dX12_hour_49 : decode cX12_hour 49 = .ok (.aload_n 0, 1) := by decide +kernel
theorem dX12_hour_50 : decode cX12_hour 50 = .ok (.getfield 35, 3) := by decide +kernel
theorem dX12_hour_53 : decode cX12_hour 53 = .ok (.iconst 1, 1) := by decide +kernel
theorem dX12_hour_54 : decode cX12_hour 54 = .ok (.iaload, 1) := by decide +kernel
theorem dX12_hour_55 : decode cX12_hour 55 = .ok (.ireturn, 1) := by decide +kernel
theorem dX12_holds_0 : decode cX12_holds 0 = .ok (.iload_n 1, 1) := by decide +kernel
theorem dX12_holds_1 : decode cX12_holds 1 = .ok (.aload_n 0, 1) := by decide +kernel
theorem dX12_holds_2 : decode cX12_holds 2 = .ok (.iconst 4, 1) := by decide +kernel
theorem dX12_holds_3 : decode cX12_holds 3 = .ok (.iaload, 1) := by decide +kernel
theorem dX12_holds_4 : decode cX12_holds 4 = .ok (.if_icmp .eq 10, 3) := by decide +kernel
theorem dX12_holds_7 : decode cX12_holds 7 = .ok (.iload_n 1, 1) := by decide +kernel
theorem dX12_holds_8 : decode cX12_holds 8 = .ok (.aload_n 0, 1) := by decide +kernel
theorem dX12_holds_9 : decode cX12_holds 9 = .ok (.iconst 5, 1) := by decide +kernel
theorem dX12_holds_10 : decode cX12_holds 10 = .ok (.iaload, 1) := by decide +kernel
theorem dX12_holds_11 : decode cX12_holds 11 = .ok (.if_icmp .ne 7, 3) := by decide +kernel
theorem dX12_holds_14 : decode cX12_holds 14 = .ok (.iconst 1, 1) := by decide +kernel
theorem dX12_holds_15 : decode cX12_holds 15 = .ok (.goto 4, 3) := by decide +kernel
theorem dX12_holds_18 : decode cX12_holds 18 = .ok (.iconst 0, 1) := by decide +kernel
theorem dX12_holds_19 : decode cX12_holds 19 = .ok (.ireturn, 1) := by decide +kernel
theorem dX12_falls_0 : decode cX12_falls 0 = .ok (.aload_n 0, 1) := by decide +kernel
theorem dX12_falls_1 : decode cX12_falls 1 = .ok (.getfield 32, 3) := by decide +kernel
theorem dX12_falls_4 : decode cX12_falls 4 = .ok (.iload_n 3, 1) := by decide +kernel
theorem dX12_falls_5 : decode cX12_falls 5 = .ok (.iaload, 1) := by decide +kernel
theorem dX12_falls_6 : decode cX12_falls 6 = .ok (.aload_n 0, 1) := by decide +kernel
theorem dX12_falls_7 : decode cX12_falls 7 = .ok (.getfield 29, 3) := by decide +kernel
theorem dX12_falls_10 : decode cX12_falls 10 = .ok (.iconst 5, 1) := by decide +kernel
theorem dX12_falls_11 : decode cX12_falls 11 = .ok (.iload_n 2, 1) := by decide +kernel
theorem dX12_falls_12 : decode cX12_falls 12 = .ok (.imul, 1) := by decide +kernel
theorem dX12_falls_13 : decode cX12_falls 13 = .ok (.iconst 3, 1) := by decide +kernel
theorem dX12_falls_14 : decode cX12_falls 14 = .ok (.iadd, 1) := by decide +kernel
theorem dX12_falls_15 : decode cX12_falls 15 = .ok (.iaload, 1) := by decide +kernel
theorem dX12_falls_16 : decode cX12_falls 16 = .ok (.if_icmp .le 20, 3) := by decide +kernel
theorem dX12_falls_19 : decode cX12_falls 19 = .ok (.aload_n 1, 1) := by decide +kernel
theorem dX12_falls_20 : decode cX12_falls 20 = .ok (.bipush 25, 2) := by decide +kernel
theorem dX12_falls_22 : decode cX12_falls 22 = .ok (.iload_n 2, 1) := by decide +kernel
theorem dX12_falls_23 : decode cX12_falls 23 = .ok (.iadd, 1) := by decide +kernel
theorem dX12_falls_24 : decode cX12_falls 24 = .ok (.iaload, 1) := by decide +kernel
theorem dX12_falls_25 : decode cX12_falls 25 = .ok (.iload_n 3, 1) := by decide +kernel
theorem dX12_falls_26 : decode cX12_falls 26 = .ok (.invokestatic 192, 3) := by decide +kernel
theorem dX12_falls_29 : decode cX12_falls 29 = .ok (.ifCond .ne 7, 3) := by decide +kernel
theorem dX12_falls_32 : decode cX12_falls 32 = .ok (.iconst 1, 1) := by decide +kernel
theorem dX12_falls_33 : decode cX12_falls 33 = .ok (.goto 4, 3) := by decide +kernel
theorem dX12_falls_36 : decode cX12_falls 36 = .ok (.iconst 0, 1) := by decide +kernel
theorem dX12_falls_37 : decode cX12_falls 37 = .ok (.ireturn, 1) := by decide +kernel
theorem dX12_offers_0 : decode cX12_offers 0 = .ok (.aload_n 0, 1) := by decide +kernel
theorem dX12_offers_1 : decode cX12_offers 1 = .ok (.aload_n 1, 1) := by decide +kernel
theorem dX12_offers_2 : decode cX12_offers 2 = .ok (.iload_n 2, 1) := by decide +kernel
theorem dX12_offers_3 : decode cX12_offers 3 = .ok (.iload_n 3, 1) := by decide +kernel
theorem dX12_offers_4 : decode cX12_offers 4 = .ok (.invokevirtual 195, 3) := by decide +kernel
theorem dX12_offers_7 : decode cX12_offers 7 = .ok (.ifCond .ne 5, 3) := by decide +kernel
theorem dX12_offers_10 : decode cX12_offers 10 = .ok (.iconst 0, 1) := by decide +kernel
theorem dX12_offers_11 : decode cX12_offers 11 = .ok (.ireturn, 1) := by decide +kernel
theorem dX12_offers_12 : decode cX12_offers 12 = .ok (.aload_n 1, 1) := by decide +kernel
theorem dX12_offers_13 : decode cX12_offers 13 = .ok (.bipush 25, 2) := by decide +kernel
theorem dX12_offers_15 : decode cX12_offers 15 = .ok (.iload_n 2, 1) := by decide +kernel
theorem dX12_offers_16 : decode cX12_offers 16 = .ok (.iadd, 1) := by decide +kernel
theorem dX12_offers_17 : decode cX12_offers 17 = .ok (.aload_n 1, 1) := by decide +kernel
theorem dX12_offers_18 : decode cX12_offers 18 = .ok (.bipush 25, 2) := by decide +kernel
theorem dX12_offers_20 : decode cX12_offers 20 = .ok (.iload_n 2, 1) := by decide +kernel
theorem dX12_offers_21 : decode cX12_offers 21 = .ok (.iadd, 1) := by decide +kernel
theorem dX12_offers_22 : decode cX12_offers 22 = .ok (.iaload, 1) := by decide +kernel
theorem dX12_offers_23 : decode cX12_offers 23 = .ok (.iconst 1, 1) := by decide +kernel
theorem dX12_offers_24 : decode cX12_offers 24 = .ok (.iload_n 3, 1) := by decide +kernel
theorem dX12_offers_25 : decode cX12_offers 25 = .ok (.ishl, 1) := by decide +kernel
theorem dX12_offers_26 : decode cX12_offers 26 = .ok (.ior, 1) := by decide +kernel
theorem dX12_offers_27 : decode cX12_offers 27 = .ok (.iastore, 1) := by decide +kernel
theorem dX12_offers_28 : decode cX12_offers 28 = .ok (.aload_n 1, 1) := by decide +kernel
theorem dX12_offers_29 : decode cX12_offers 29 = .ok (.iconst 4, 1) := by decide +kernel
theorem dX12_offers_30 : decode cX12_offers 30 = .ok (.iload_n 2, 1) := by decide +kernel
theorem dX12_offers_31 : decode cX12_offers 31 = .ok (.iastore, 1) := by decide +kernel
theorem dX12_offers_32 : decode cX12_offers 32 = .ok (.aload_n 1, 1) := by decide +kernel
theorem dX12_offers_33 : decode cX12_offers 33 = .ok (.iconst 5, 1) := by decide +kernel
theorem dX12_offers_34 : decode cX12_offers 34 = .ok (.iconst (-1), 1) := by decide +kernel
theorem dX12_offers_35 : decode cX12_offers 35 = .ok (.iastore, 1) := by decide +kernel
theorem dX12_offers_36 : decode cX12_offers 36 = .ok (.iconst 1, 1) := by decide +kernel
theorem dX12_offers_37 : decode cX12_offers 37 = .ok (.ireturn, 1) := by decide +kernel
theorem dX12_offer_0 : decode cX12_offer 0 = .ok (.aload_n 0, 1) := by decide +kernel
theorem dX12_offer_1 : decode cX12_offer 1 = .ok (.iload_n 1, 1) := by decide +kernel
theorem dX12_offer_2 : decode cX12_offer 2 = .ok (.invokevirtual 177, 3) := by decide +kernel
theorem dX12_offer_5 : decode cX12_offer 5 = .ok (.ifCond .ne 6, 3) := by decide +kernel
theorem dX12_offer_8 : decode cX12_offer 8 = .ok (.ldc 180, 2) := by decide +kernel
theorem dX12_offer_10 : decode cX12_offer 10 = .ok (.ireturn, 1) := by decide +kernel
theorem dX12_offer_11 : decode cX12_offer 11 = .ok (.iload_n 2, 1) := by decide +kernel
theorem dX12_offer_12 : decode cX12_offer 12 = .ok (.iconst 0, 1) := by decide +kernel
theorem dX12_offer_13 : decode cX12_offer 13 = .ok (.iconst 2, 1) := by decide +kernel
theorem dX12_offer_14 : decode cX12_offer 14 = .ok (.invokestatic 72, 3) := by decide +kernel
theorem dX12_offer_17 : decode cX12_offer 17 = .ok (.ifCond .ne 6, 3) := by decide +kernel
theorem dX12_offer_20 : decode cX12_offer 20 = .ok (.ldc 85, 2) := by decide +kernel
theorem dX12_offer_22 : decode cX12_offer 22 = .ok (.ireturn, 1) := by decide +kernel
theorem dX12_offer_23 : decode cX12_offer 23 = .ok (.aload_n 0, 1) := by decide +kernel
theorem dX12_offer_24 : decode cX12_offer 24 = .ok (.getfield 35, 3) := by decide +kernel
theorem dX12_offer_27 : decode cX12_offer 27 = .ok (.iload_n 1, 1) := by decide +kernel
theorem dX12_offer_28 : decode cX12_offer 28 = .ok (.invokestatic 199, 3) := by decide +kernel
theorem dX12_offer_31 : decode cX12_offer 31 = .ok (.ifCond .eq 6, 3) := by decide +kernel
theorem dX12_offer_34 : decode cX12_offer 34 = .ok (.ldc 184, 2) := by decide +kernel
theorem dX12_offer_36 : decode cX12_offer 36 = .ok (.ireturn, 1) := by decide +kernel
theorem dX12_offer_37 : decode cX12_offer 37 = .ok (.aload_n 0, 1) := by decide +kernel
theorem dX12_offer_38 : decode cX12_offer 38 = .ok (.aload_n 0, 1) := by decide +kernel
theorem dX12_offer_39 : decode cX12_offer 39 = .ok (.getfield 35, 3) := by decide +kernel
theorem dX12_offer_42 : decode cX12_offer 42 = .ok (.iload_n 1, 1) := by decide +kernel
theorem dX12_offer_43 : decode cX12_offer 43 = .ok (.iload_n 2, 1) := by decide +kernel
theorem dX12_offer_44 : decode cX12_offer 44 = .ok (.invokevirtual 203, 3) := by decide +kernel
theorem dX12_offer_47 : decode cX12_offer 47 = .ok (.ifCond .eq 7, 3) := by decide +kernel
theorem dX12_offer_50 : decode cX12_offer 50 = .ok (.iconst 1, 1) := by decide +kernel
theorem dX12_offer_51 : decode cX12_offer 51 = .ok (.goto 4, 3) := by decide +kernel
theorem dX12_offer_54 : decode cX12_offer 54 = .ok (.iconst 0, 1) := by decide +kernel
theorem dX12_offer_55 : decode cX12_offer 55 = .ok (.ireturn, 1) := by decide +kernel
theorem dX12_isSonOfWhoHolds_0 : decode cX12_isSonOfWhoHolds 0 = .ok (.aload_n 0, 1) := by decide +kernel
theorem dX12_isSonOfWhoHolds_1 : decode cX12_isSonOfWhoHolds 1 = .ok (.iload_n 1, 1) := by decide +kernel
theorem dX12_isSonOfWhoHolds_2 : decode cX12_isSonOfWhoHolds 2 = .ok (.invokevirtual 206, 3) := by decide +kernel
theorem dX12_isSonOfWhoHolds_5 : decode cX12_isSonOfWhoHolds 5 = .ok (.iconst (-1), 1) := by decide +kernel
theorem dX12_isSonOfWhoHolds_6 : decode cX12_isSonOfWhoHolds 6 = .ok (.if_icmp .eq 33, 3) := by decide +kernel
theorem dX12_isSonOfWhoHolds_9 : decode cX12_isSonOfWhoHolds 9 = .ok (.aload_n 0, 1) := by decide +kernel
theorem dX12_isSonOfWhoHolds_10 : decode cX12_isSonOfWhoHolds 10 = .ok (.getfield 35, 3) := by decide +kernel
theorem dX12_isSonOfWhoHolds_13 : decode cX12_isSonOfWhoHolds 13 = .ok (.aload_n 0, 1) := by decide +kernel
theorem dX12_isSonOfWhoHolds_14 : decode cX12_isSonOfWhoHolds 14 = .ok (.iload_n 1, 1) := by decide +kernel
theorem dX12_isSonOfWhoHolds_15 : decode cX12_isSonOfWhoHolds 15 = .ok (.invokevirtual 206, 3) := by decide +kernel
theorem dX12_isSonOfWhoHolds_18 : decode cX12_isSonOfWhoHolds 18 = .ok (.invokestatic 199, 3) := by decide +kernel
theorem dX12_isSonOfWhoHolds_21 : decode cX12_isSonOfWhoHolds 21 = .ok (.ifCond .eq 18, 3) := by decide +kernel
theorem dX12_isSonOfWhoHolds_24 : decode cX12_isSonOfWhoHolds 24 = .ok (.aload_n 0, 1) := by decide +kernel
theorem dX12_isSonOfWhoHolds_25 : decode cX12_isSonOfWhoHolds 25 = .ok (.getfield 35, 3) := by decide +kernel
theorem dX12_isSonOfWhoHolds_28 : decode cX12_isSonOfWhoHolds 28 = .ok (.iload_n 1, 1) := by decide +kernel
theorem dX12_isSonOfWhoHolds_29 : decode cX12_isSonOfWhoHolds 29 = .ok (.invokestatic 199, 3) := by decide +kernel
theorem dX12_isSonOfWhoHolds_32 : decode cX12_isSonOfWhoHolds 32 = .ok (.ifCond .ne 7, 3) := by decide +kernel
theorem dX12_isSonOfWhoHolds_35 : decode cX12_isSonOfWhoHolds 35 = .ok (.iconst 1, 1) := by decide +kernel
theorem dX12_isSonOfWhoHolds_36 : decode cX12_isSonOfWhoHolds 36 = .ok (.goto 4, 3) := by decide +kernel
theorem dX12_isSonOfWhoHolds_39 : decode cX12_isSonOfWhoHolds 39 = .ok (.iconst 0, 1) := by decide +kernel
theorem dX12_isSonOfWhoHolds_40 : decode cX12_isSonOfWhoHolds 40 = .ok (.ireturn, 1) := by decide +kernel
theorem dX12_takesIt_0 : decode cX12_takesIt 0 = .ok (.aload_n 0, 1) := by decide +kernel
theorem dX12_takesIt_1 : decode cX12_takesIt 1 = .ok (.getfield 35, 3) := by decide +kernel
theorem dX12_takesIt_4 : decode cX12_takesIt 4 = .ok (.iconst 4, 1) := by decide +kernel
theorem dX12_takesIt_5 : decode cX12_takesIt 5 = .ok (.iload_n 1, 1) := by decide +kernel
theorem dX12_takesIt_6 : decode cX12_takesIt 6 = .ok (.iastore, 1) := by decide +kernel
theorem dX12_takesIt_7 : decode cX12_takesIt 7 = .ok (.aload_n 0, 1) := by decide +kernel
theorem dX12_takesIt_8 : decode cX12_takesIt 8 = .ok (.getfield 35, 3) := by decide +kernel
theorem dX12_takesIt_11 : decode cX12_takesIt 11 = .ok (.iconst 5, 1) := by decide +kernel
theorem dX12_takesIt_12 : decode cX12_takesIt 12 = .ok (.iconst (-1), 1) := by decide +kernel
theorem dX12_takesIt_13 : decode cX12_takesIt 13 = .ok (.iastore, 1) := by decide +kernel
theorem dX12_takesIt_14 : decode cX12_takesIt 14 = .ok (.return_, 1) := by decide +kernel
theorem dX12_take_0 : decode cX12_take 0 = .ok (.aload_n 0, 1) := by decide +kernel
theorem dX12_take_1 : decode cX12_take 1 = .ok (.iload_n 1, 1) := by decide +kernel
theorem dX12_take_2 : decode cX12_take 2 = .ok (.invokevirtual 177, 3) := by decide +kernel
theorem dX12_take_5 : decode cX12_take 5 = .ok (.ifCond .ne 6, 3) := by decide +kernel
theorem dX12_take_8 : decode cX12_take 8 = .ok (.ldc 180, 2) := by decide +kernel
theorem dX12_take_10 : decode cX12_take 10 = .ok (.ireturn, 1) := by decide +kernel
theorem dX12_take_11 : decode cX12_take 11 = .ok (.aload_n 0, 1) := by decide +kernel
theorem dX12_take_12 : decode cX12_take 12 = .ok (.iload_n 1, 1) := by decide +kernel
theorem dX12_take_13 : decode cX12_take 13 = .ok (.invokevirtual 209, 3) := by decide +kernel
theorem dX12_take_16 : decode cX12_take 16 = .ok (.ifCond .ne 6, 3) := by decide +kernel
theorem dX12_take_19 : decode cX12_take 19 = .ok (.ldc 184, 2) := by decide +kernel
theorem dX12_take_21 : decode cX12_take 21 = .ok (.ireturn, 1) := by decide +kernel
theorem dX12_take_22 : decode cX12_take 22 = .ok (.aload_n 0, 1) := by decide +kernel
theorem dX12_take_23 : decode cX12_take 23 = .ok (.iload_n 1, 1) := by decide +kernel
theorem dX12_take_24 : decode cX12_take 24 = .ok (.invokevirtual 212, 3) := by decide +kernel
theorem dX12_take_27 : decode cX12_take 27 = .ok (.aload_n 0, 1) := by decide +kernel
theorem dX12_take_28 : decode cX12_take 28 = .ok (.iload_n 1, 1) := by decide +kernel
theorem dX12_take_29 : decode cX12_take 29 = .ok (.invokevirtual 206, 3) := by decide +kernel
theorem dX12_take_32 : decode cX12_take 32 = .ok (.ireturn, 1) := by decide +kernel
theorem dX12_areLevel_0 : decode cX12_areLevel 0 = .ok (.aload_n 0, 1) := by decide +kernel
theorem dX12_areLevel_1 : decode cX12_areLevel 1 = .ok (.getfield 29, 3) := by decide +kernel
theorem dX12_areLevel_4 : decode cX12_areLevel 4 = .ok (.iconst 5, 1) := by decide +kernel
theorem dX12_areLevel_5 : decode cX12_areLevel 5 = .ok (.iload_n 1, 1) := by decide +kernel
theorem dX12_areLevel_6 : decode cX12_areLevel 6 = .ok (.imul, 1) := by decide +kernel
theorem dX12_areLevel_7 : decode cX12_areLevel 7 = .ok (.iconst 2, 1) := by decide +kernel
theorem dX12_areLevel_8 : decode cX12_areLevel 8 = .ok (.iadd, 1) := by decide +kernel
theorem dX12_areLevel_9 : decode cX12_areLevel 9 = .ok (.iaload, 1) := by decide +kernel
theorem dX12_areLevel_10 : decode cX12_areLevel 10 = .ok (.aload_n 0, 1) := by decide +kernel
theorem dX12_areLevel_11 : decode cX12_areLevel 11 = .ok (.getfield 29, 3) := by decide +kernel
theorem dX12_areLevel_14 : decode cX12_areLevel 14 = .ok (.iconst 5, 1) := by decide +kernel
theorem dX12_areLevel_15 : decode cX12_areLevel 15 = .ok (.iload_n 2, 1) := by decide +kernel
theorem dX12_areLevel_16 : decode cX12_areLevel 16 = .ok (.imul, 1) := by decide +kernel
theorem dX12_areLevel_17 : decode cX12_areLevel 17 = .ok (.iconst 2, 1) := by decide +kernel
theorem dX12_areLevel_18 : decode cX12_areLevel 18 = .ok (.iadd, 1) := by decide +kernel
theorem dX12_areLevel_19 : decode cX12_areLevel 19 = .ok (.iaload, 1) := by decide +kernel
theorem dX12_areLevel_20 : decode cX12_areLevel 20 = .ok (.isub, 1) := by decide +kernel
theorem dX12_areLevel_21 : decode cX12_areLevel 21 = .ok (.istore_n 3, 1) := by decide +kernel
theorem dX12_areLevel_22 : decode cX12_areLevel 22 = .ok (.iload_n 3, 1) := by decide +kernel
theorem dX12_areLevel_23 : decode cX12_areLevel 23 = .ok (.iconst (-1), 1) := by decide +kernel
theorem dX12_areLevel_24 : decode cX12_areLevel 24 = .ok (.iconst 1, 1) := by decide +kernel
theorem dX12_areLevel_25 : decode cX12_areLevel 25 = .ok (.invokestatic 72, 3) := by decide +kernel
theorem dX12_areLevel_28 : decode cX12_areLevel 28 = .ok (.ireturn, 1) := by decide +kernel
theorem dX12_join_0 : decode cX12_join 0 = .ok (.aload_n 0, 1) := by decide +kernel
theorem dX12_join_1 : decode cX12_join 1 = .ok (.iload_n 1, 1) := by decide +kernel
theorem dX12_join_2 : decode cX12_join 2 = .ok (.invokevirtual 177, 3) := by decide +kernel
theorem dX12_join_5 : decode cX12_join 5 = .ok (.ifCond .ne 6, 3) := by decide +kernel
theorem dX12_join_8 : decode cX12_join 8 = .ok (.ldc 180, 2) := by decide +kernel
theorem dX12_join_10 : decode cX12_join 10 = .ok (.ireturn, 1) := by decide +kernel
theorem dX12_join_11 : decode cX12_join 11 = .ok (.aload_n 0, 1) := by decide +kernel
theorem dX12_join_12 : decode cX12_join 12 = .ok (.getfield 35, 3) := by decide +kernel
theorem dX12_join_15 : decode cX12_join 15 = .ok (.iload_n 1, 1) := by decide +kernel
theorem dX12_join_16 : decode cX12_join 16 = .ok (.invokestatic 199, 3) := by decide +kernel
theorem dX12_join_19 : decode cX12_join 19 = .ok (.ifCond .ne 27, 3) := by decide +kernel
theorem dX12_join_22 : decode cX12_join 22 = .ok (.aload_n 0, 1) := by decide +kernel
theorem dX12_join_23 : decode cX12_join 23 = .ok (.getfield 35, 3) := by decide +kernel
theorem dX12_join_26 : decode cX12_join 26 = .ok (.iconst 5, 1) := by decide +kernel
theorem dX12_join_27 : decode cX12_join 27 = .ok (.iaload, 1) := by decide +kernel
theorem dX12_join_28 : decode cX12_join 28 = .ok (.iconst (-1), 1) := by decide +kernel
theorem dX12_join_29 : decode cX12_join 29 = .ok (.if_icmp .ne 17, 3) := by decide +kernel
theorem dX12_join_32 : decode cX12_join 32 = .ok (.aload_n 0, 1) := by decide +kernel
theorem dX12_join_33 : decode cX12_join 33 = .ok (.iload_n 1, 1) := by decide +kernel
theorem dX12_join_34 : decode cX12_join 34 = .ok (.aload_n 0, 1) := by decide +kernel
theorem dX12_join_35 : decode cX12_join 35 = .ok (.getfield 35, 3) := by decide +kernel
theorem dX12_join_38 : decode cX12_join 38 = .ok (.iconst 4, 1) := by decide +kernel
theorem dX12_join_39 : decode cX12_join 39 = .ok (.iaload, 1) := by decide +kernel
theorem dX12_join_40 : decode cX12_join 40 = .ok (.invokevirtual 216, 3) := by decide +kernel
theorem dX12_join_43 : decode cX12_join 43 = .ok (.ifCond .ne 6, 3) := by decide +kernel
theorem dX12_join_46 : decode cX12_join 46 = .ok (.ldc 184, 2) := by decide +kernel
theorem dX12_join_48 : decode cX12_join 48 = .ok (.ireturn, 1) := by decide +kernel
theorem dX12_join_49 : decode cX12_join 49 = .ok (.aload_n 0, 1) := by decide +kernel
theorem dX12_join_50 : decode cX12_join 50 = .ok (.getfield 35, 3) := by decide +kernel
theorem dX12_join_53 : decode cX12_join 53 = .ok (.iconst 5, 1) := by decide +kernel
theorem dX12_join_54 : decode cX12_join 54 = .ok (.iload_n 1, 1) := by decide +kernel
theorem dX12_join_55 : decode cX12_join 55 = .ok (.iastore, 1) := by decide +kernel
theorem dX12_join_56 : decode cX12_join 56 = .ok (.aload_n 0, 1) := by decide +kernel
theorem dX12_join_57 : decode cX12_join 57 = .ok (.aload_n 0, 1) := by decide +kernel
theorem dX12_join_58 : decode cX12_join 58 = .ok (.getfield 35, 3) := by decide +kernel
theorem dX12_join_61 : decode cX12_join 61 = .ok (.invokevirtual 169, 3) := by decide +kernel
theorem dX12_join_64 : decode cX12_join 64 = .ok (.ireturn, 1) := by decide +kernel
theorem dX12_fruit_0 : decode cX12_fruit 0 = .ok (.iload_n 1, 1) := by decide +kernel
theorem dX12_fruit_1 : decode cX12_fruit 1 = .ok (.iconst 0, 1) := by decide +kernel
theorem dX12_fruit_2 : decode cX12_fruit 2 = .ok (.bipush 99, 2) := by decide +kernel
theorem dX12_fruit_4 : decode cX12_fruit 4 = .ok (.invokestatic 72, 3) := by decide +kernel
theorem dX12_fruit_7 : decode cX12_fruit 7 = .ok (.ifCond .ne 6, 3) := by decide +kernel
theorem dX12_fruit_10 : decode cX12_fruit 10 = .ok (.ldc 85, 2) := by decide +kernel
theorem dX12_fruit_12 : decode cX12_fruit 12 = .ok (.ireturn, 1) := by decide +kernel
theorem dX12_fruit_13 : decode cX12_fruit 13 = .ok (.aload_n 0, 1) := by decide +kernel
theorem dX12_fruit_14 : decode cX12_fruit 14 = .ok (.getfield 35, 3) := by decide +kernel
theorem dX12_fruit_17 : decode cX12_fruit 17 = .ok (.iconst 3, 1) := by decide +kernel
theorem dX12_fruit_18 : decode cX12_fruit 18 = .ok (.aload_n 0, 1) := by decide +kernel
theorem dX12_fruit_19 : decode cX12_fruit 19 = .ok (.getfield 35, 3) := by decide +kernel
theorem dX12_fruit_22 : decode cX12_fruit 22 = .ok (.iconst 3, 1) := by decide +kernel
theorem dX12_fruit_23 : decode cX12_fruit 23 = .ok (.iaload, 1) := by decide +kernel
theorem dX12_fruit_24 : decode cX12_fruit 24 = .ok (.iload_n 1, 1) := by decide +kernel
theorem dX12_fruit_25 : decode cX12_fruit 25 = .ok (.iadd, 1) := by decide +kernel
theorem dX12_fruit_26 : decode cX12_fruit 26 = .ok (.sipush 999, 3) := by decide +kernel
theorem dX12_fruit_29 : decode cX12_fruit 29 = .ok (.if_icmp .le 9, 3) := by decide +kernel
theorem dX12_fruit_32 : decode cX12_fruit 32 = .ok (.sipush 999, 3) := by decide +kernel
theorem dX12_fruit_35 : decode cX12_fruit 35 = .ok (.goto 11, 3) := by decide +kernel
theorem dX12_fruit_38 : decode cX12_fruit 38 = .ok (.aload_n 0, 1) := by decide +kernel
theorem dX12_fruit_39 : decode cX12_fruit 39 = .ok (.getfield 35, 3) := by decide +kernel
theorem dX12_fruit_42 : decode cX12_fruit 42 = .ok (.iconst 3, 1) := by decide +kernel
theorem dX12_fruit_43 : decode cX12_fruit 43 = .ok (.iaload, 1) := by decide +kernel
theorem dX12_fruit_44 : decode cX12_fruit 44 = .ok (.iload_n 1, 1) := by decide +kernel
theorem dX12_fruit_45 : decode cX12_fruit 45 = .ok (.iadd, 1) := by decide +kernel
theorem dX12_fruit_46 : decode cX12_fruit 46 = .ok (.iastore, 1) := by decide +kernel
theorem dX12_fruit_47 : decode cX12_fruit 47 = .ok (.aload_n 0, 1) := by decide +kernel
theorem dX12_fruit_48 : decode cX12_fruit 48 = .ok (.getfield 35, 3) := by decide +kernel
theorem dX12_fruit_51 : decode cX12_fruit 51 = .ok (.iconst 3, 1) := by decide +kernel
theorem dX12_fruit_52 : decode cX12_fruit 52 = .ok (.iaload, 1) := by decide +kernel
theorem dX12_fruit_53 : decode cX12_fruit 53 = .ok (.ireturn, 1) := by decide +kernel
theorem dX12_draw_0 : decode cX12_draw 0 = .ok (.aload_n 0, 1) := by decide +kernel
theorem dX12_draw_1 : decode cX12_draw 1 = .ok (.getfield 35, 3) := by decide +kernel
theorem dX12_draw_4 : decode cX12_draw 4 = .ok (.bipush 6, 2) := by decide +kernel
theorem dX12_draw_6 : decode cX12_draw 6 = .ok (.aload_n 0, 1) := by decide +kernel
theorem dX12_draw_7 : decode cX12_draw 7 = .ok (.getfield 35, 3) := by decide +kernel
theorem dX12_draw_10 : decode cX12_draw 10 = .ok (.bipush 6, 2) := by decide +kernel
theorem dX12_draw_12 : decode cX12_draw 12 = .ok (.iaload, 1) := by decide +kernel
theorem dX12_draw_13 : decode cX12_draw 13 = .ok (.i2l, 1) := by decide +kernel
theorem dX12_draw_14 : decode cX12_draw 14 = .ok (.ldc2_w 219, 3) := by decide +kernel
theorem dX12_draw_17 : decode cX12_draw 17 = .ok (.lmul, 1) := by decide +kernel
theorem dX12_draw_18 : decode cX12_draw 18 = .ok (.ldc2_w 221, 3) := by decide +kernel
theorem dX12_draw_21 : decode cX12_draw 21 = .ok (.ladd, 1) := by decide +kernel
theorem dX12_draw_22 : decode cX12_draw 22 = .ok (.ldc2_w 223, 3) := by decide +kernel
theorem dX12_draw_25 : decode cX12_draw 25 = .ok (.lrem, 1) := by decide +kernel
theorem dX12_draw_26 : decode cX12_draw 26 = .ok (.l2i, 1) := by decide +kernel
theorem dX12_draw_27 : decode cX12_draw 27 = .ok (.iastore, 1) := by decide +kernel
theorem dX12_draw_28 : decode cX12_draw 28 = .ok (.aload_n 0, 1) := by decide +kernel
theorem dX12_draw_29 : decode cX12_draw 29 = .ok (.getfield 35, 3) := by decide +kernel
theorem dX12_draw_32 : decode cX12_draw 32 = .ok (.bipush 6, 2) := by decide +kernel
theorem dX12_draw_34 : decode cX12_draw 34 = .ok (.iaload, 1) := by decide +kernel
theorem dX12_draw_35 : decode cX12_draw 35 = .ok (.ldc 225, 2) := by decide +kernel
theorem dX12_draw_37 : decode cX12_draw 37 = .ok (.idiv, 1) := by decide +kernel
theorem dX12_draw_38 : decode cX12_draw 38 = .ok (.iload_n 1, 1) := by decide +kernel
theorem dX12_draw_39 : decode cX12_draw 39 = .ok (.irem, 1) := by decide +kernel
theorem dX12_draw_40 : decode cX12_draw 40 = .ok (.ireturn, 1) := by decide +kernel
theorem dX12_drift_0 : decode cX12_drift 0 = .ok (.iload_n 1, 1) := by decide +kernel
theorem dX12_drift_1 : decode cX12_drift 1 = .ok (.iconst 1, 1) := by decide +kernel
theorem dX12_drift_2 : decode cX12_drift 2 = .ok (.bipush 99, 2) := by decide +kernel
theorem dX12_drift_4 : decode cX12_drift 4 = .ok (.invokestatic 72, 3) := by decide +kernel
theorem dX12_drift_7 : decode cX12_drift 7 = .ok (.ifCond .ne 6, 3) := by decide +kernel
theorem dX12_drift_10 : decode cX12_drift 10 = .ok (.ldc 85, 2) := by decide +kernel
theorem dX12_drift_12 : decode cX12_drift 12 = .ok (.ireturn, 1) := by decide +kernel
theorem dX12_drift_13 : decode cX12_drift 13 = .ok (.aload_n 0, 1) := by decide +kernel
theorem dX12_drift_14 : decode cX12_drift 14 = .ok (.invokevirtual 181, 3) := by decide +kernel
theorem dX12_drift_17 : decode cX12_drift 17 = .ok (.ifCond .ne 6, 3) := by decide +kernel
theorem dX12_drift_20 : decode cX12_drift 20 = .ok (.ldc 184, 2) := by decide +kernel
theorem dX12_drift_22 : decode cX12_drift 22 = .ok (.ireturn, 1) := by decide +kernel
theorem dX12_drift_23 : decode cX12_drift 23 = .ok (.aload_n 0, 1) := by decide +kernel
theorem dX12_drift_24 : decode cX12_drift 24 = .ok (.getfield 35, 3) := by decide +kernel
theorem dX12_drift_27 : decode cX12_drift 27 = .ok (.iconst 2, 1) := by decide +kernel
theorem dX12_drift_28 : decode cX12_drift 28 = .ok (.iaload, 1) := by decide +kernel
theorem dX12_drift_29 : decode cX12_drift 29 = .ok (.istore_n 2, 1) := by decide +kernel
theorem dX12_drift_30 : decode cX12_drift 30 = .ok (.iconst 0, 1) := by decide +kernel
theorem dX12_drift_31 : decode cX12_drift 31 = .ok (.istore_n 3, 1) := by decide +kernel
theorem dX12_drift_32 : decode cX12_drift 32 = .ok (.iload_n 3, 1) := by decide +kernel
theorem dX12_drift_33 : decode cX12_drift 33 = .ok (.iload_n 1, 1) := by decide +kernel
theorem dX12_drift_34 : decode cX12_drift 34 = .ok (.if_icmp .ge 82, 3) := by decide +kernel
theorem dX12_drift_37 : decode cX12_drift 37 = .ok (.aload_n 0, 1) := by decide +kernel
theorem dX12_drift_38 : decode cX12_drift 38 = .ok (.aload_n 0, 1) := by decide +kernel
theorem dX12_drift_39 : decode cX12_drift 39 = .ok (.getfield 69, 3) := by decide +kernel
theorem dX12_drift_42 : decode cX12_drift 42 = .ok (.invokevirtual 226, 3) := by decide +kernel
theorem dX12_drift_45 : decode cX12_drift 45 = .ok (.istore 4, 2) := by decide +kernel
theorem dX12_drift_47 : decode cX12_drift 47 = .ok (.aload_n 0, 1) := by decide +kernel
theorem dX12_drift_48 : decode cX12_drift 48 = .ok (.iload 4, 2) := by decide +kernel
theorem dX12_drift_50 : decode cX12_drift 50 = .ok (.invokevirtual 209, 3) := by decide +kernel
theorem dX12_drift_53 : decode cX12_drift 53 = .ok (.ifCond .eq 12, 3) := by decide +kernel
theorem dX12_drift_56 : decode cX12_drift 56 = .ok (.aload_n 0, 1) := by decide +kernel
theorem dX12_drift_57 : decode cX12_drift 57 = .ok (.iload 4, 2) := by decide +kernel
theorem dX12_drift_59 : decode cX12_drift 59 = .ok (.invokevirtual 212, 3) := by decide +kernel
theorem dX12_drift_62 : decode cX12_drift 62 = .ok (.goto 35, 3) := by decide +kernel
theorem dX12_drift_65 : decode cX12_drift 65 = .ok (.aload_n 0, 1) := by decide +kernel
theorem dX12_drift_66 : decode cX12_drift 66 = .ok (.getfield 35, 3) := by decide +kernel
theorem dX12_drift_69 : decode cX12_drift 69 = .ok (.iload 4, 2) := by decide +kernel
theorem dX12_drift_71 : decode cX12_drift 71 = .ok (.invokestatic 199, 3) := by decide +kernel
theorem dX12_drift_74 : decode cX12_drift 74 = .ok (.ifCond .ne 23, 3) := by decide +kernel
theorem dX12_drift_77 : decode cX12_drift 77 = .ok (.aload_n 0, 1) := by decide +kernel
theorem dX12_drift_78 : decode cX12_drift 78 = .ok (.iconst 3, 1) := by decide +kernel
theorem dX12_drift_79 : decode cX12_drift 79 = .ok (.invokevirtual 226, 3) := by decide +kernel
theorem dX12_drift_82 : decode cX12_drift 82 = .ok (.istore 5, 2) := by decide +kernel
theorem dX12_drift_84 : decode cX12_drift 84 = .ok (.aload_n 0, 1) := by decide +kernel
theorem dX12_drift_85 : decode cX12_drift 85 = .ok (.aload_n 0, 1) := by decide +kernel
theorem dX12_drift_86 : decode cX12_drift 86 = .ok (.getfield 35, 3) := by decide +kernel
theorem dX12_drift_89 : decode cX12_drift 89 = .ok (.iload 4, 2) := by decide +kernel
theorem dX12_drift_91 : decode cX12_drift 91 = .ok (.iload 5, 2) := by decide +kernel
theorem dX12_drift_93 : decode cX12_drift 93 = .ok (.invokevirtual 203, 3) := by decide +kernel
theorem dX12_drift_96 : decode cX12_drift 96 = .ok (.pop, 1) := by decide +kernel
theorem dX12_drift_97 : decode cX12_drift 97 = .ok (.aload_n 0, 1) := by decide +kernel
theorem dX12_drift_98 : decode cX12_drift 98 = .ok (.invokevirtual 185, 3) := by decide +kernel
theorem dX12_drift_101 : decode cX12_drift 101 = .ok (.aload_n 0, 1) := by decide +kernel
theorem dX12_drift_102 : decode cX12_drift 102 = .ok (.aload_n 0, 1) := by decide +kernel
theorem dX12_drift_103 : decode cX12_drift 103 = .ok (.getfield 35, 3) := by decide +kernel
theorem dX12_drift_106 : decode cX12_drift 106 = .ok (.iconst 0, 1) := by decide +kernel
theorem dX12_drift_107 : decode cX12_drift 107 = .ok (.invokevirtual 188, 3) := by decide +kernel
theorem dX12_drift_110 : decode cX12_drift 110 = .ok (.iinc 3 1, 3) := by decide +kernel
theorem dX12_drift_113 : decode cX12_drift 113 = .ok (.goto (-81), 3) := by decide +kernel
theorem dX12_drift_116 : decode cX12_drift 116 = .ok (.aload_n 0, 1) := by decide +kernel
theorem dX12_drift_117 : decode cX12_drift 117 = .ok (.getfield 35, 3) := by decide +kernel
theorem dX12_drift_120 : decode cX12_drift 120 = .ok (.iconst 2, 1) := by decide +kernel
theorem dX12_drift_121 : decode cX12_drift 121 = .ok (.iaload, 1) := by decide +kernel
theorem dX12_drift_122 : decode cX12_drift 122 = .ok (.iload_n 2, 1) := by decide +kernel
theorem dX12_drift_123 : decode cX12_drift 123 = .ok (.isub, 1) := by decide +kernel
theorem dX12_drift_124 : decode cX12_drift 124 = .ok (.ireturn, 1) := by decide +kernel
theorem dX12_undo_0 : decode cX12_undo 0 = .ok (.iload_n 1, 1) := by decide +kernel
theorem dX12_undo_1 : decode cX12_undo 1 = .ok (.iconst 1, 1) := by decide +kernel
theorem dX12_undo_2 : decode cX12_undo 2 = .ok (.bipush 60, 2) := by decide +kernel
theorem dX12_undo_4 : decode cX12_undo 4 = .ok (.invokestatic 72, 3) := by decide +kernel
theorem dX12_undo_7 : decode cX12_undo 7 = .ok (.ifCond .ne 6, 3) := by decide +kernel
theorem dX12_undo_10 : decode cX12_undo 10 = .ok (.ldc 85, 2) := by decide +kernel
theorem dX12_undo_12 : decode cX12_undo 12 = .ok (.ireturn, 1) := by decide +kernel
theorem dX12_undo_13 : decode cX12_undo 13 = .ok (.iload_n 1, 1) := by decide +kernel
theorem dX12_undo_14 : decode cX12_undo 14 = .ok (.aload_n 0, 1) := by decide +kernel
theorem dX12_undo_15 : decode cX12_undo 15 = .ok (.getfield 76, 3) := by decide +kernel
theorem dX12_undo_18 : decode cX12_undo 18 = .ok (.if_icmp .le 6, 3) := by decide +kernel
theorem dX12_undo_21 : decode cX12_undo 21 = .ok (.ldc 184, 2) := by decide +kernel
theorem dX12_undo_23 : decode cX12_undo 23 = .ok (.ireturn, 1) := by decide +kernel
theorem dX12_undo_24 : decode cX12_undo 24 = .ok (.aload_n 0, 1) := by decide +kernel
theorem dX12_undo_25 : decode cX12_undo 25 = .ok (.dup, 1) := by decide +kernel
theorem dX12_undo_26 : decode cX12_undo 26 = .ok (.getfield 76, 3) := by decide +kernel
theorem dX12_undo_29 : decode cX12_undo 29 = .ok (.iload_n 1, 1) := by decide +kernel
theorem dX12_undo_30 : decode cX12_undo 30 = .ok (.isub, 1) := by decide +kernel
theorem dX12_undo_31 : decode cX12_undo 31 = .ok (.putfield 76, 3) := by decide +kernel
theorem dX12_undo_34 : decode cX12_undo 34 = .ok (.aload_n 0, 1) := by decide +kernel
theorem dX12_undo_35 : decode cX12_undo 35 = .ok (.getfield 35, 3) := by decide +kernel
theorem dX12_undo_38 : decode cX12_undo 38 = .ok (.bipush 6, 2) := by decide +kernel
theorem dX12_undo_40 : decode cX12_undo 40 = .ok (.iaload, 1) := by decide +kernel
theorem dX12_undo_41 : decode cX12_undo 41 = .ok (.istore_n 2, 1) := by decide +kernel
theorem dX12_undo_42 : decode cX12_undo 42 = .ok (.aload_n 0, 1) := by decide +kernel
theorem dX12_undo_43 : decode cX12_undo 43 = .ok (.getfield 48, 3) := by decide +kernel
theorem dX12_undo_46 : decode cX12_undo 46 = .ok (.bipush 31, 2) := by decide +kernel
theorem dX12_undo_48 : decode cX12_undo 48 = .ok (.aload_n 0, 1) := by decide +kernel
theorem dX12_undo_49 : decode cX12_undo 49 = .ok (.getfield 76, 3) := by decide +kernel
theorem dX12_undo_52 : decode cX12_undo 52 = .ok (.imul, 1) := by decide +kernel
theorem dX12_undo_53 : decode cX12_undo 53 = .ok (.aload_n 0, 1) := by decide +kernel
theorem dX12_undo_54 : decode cX12_undo 54 = .ok (.getfield 35, 3) := by decide +kernel
theorem dX12_undo_57 : decode cX12_undo 57 = .ok (.iconst 0, 1) := by decide +kernel
theorem dX12_undo_58 : decode cX12_undo 58 = .ok (.invokestatic 173, 3) := by decide +kernel
theorem dX12_undo_61 : decode cX12_undo 61 = .ok (.aload_n 0, 1) := by decide +kernel
theorem dX12_undo_62 : decode cX12_undo 62 = .ok (.getfield 35, 3) := by decide +kernel
theorem dX12_undo_65 : decode cX12_undo 65 = .ok (.bipush 6, 2) := by decide +kernel
theorem dX12_undo_67 : decode cX12_undo 67 = .ok (.iload_n 2, 1) := by decide +kernel
theorem dX12_undo_68 : decode cX12_undo 68 = .ok (.iastore, 1) := by decide +kernel
theorem dX12_undo_69 : decode cX12_undo 69 = .ok (.aload_n 0, 1) := by decide +kernel
theorem dX12_undo_70 : decode cX12_undo 70 = .ok (.getfield 35, 3) := by decide +kernel
theorem dX12_undo_73 : decode cX12_undo 73 = .ok (.iconst 0, 1) := by decide +kernel
theorem dX12_undo_74 : decode cX12_undo 74 = .ok (.iaload, 1) := by decide +kernel
theorem dX12_undo_75 : decode cX12_undo 75 = .ok (.ireturn, 1) := by decide +kernel
theorem dX12_power_0 : decode cX12_power 0 = .ok (.iconst 1, 1) := by decide +kernel
theorem dX12_power_1 : decode cX12_power 1 = .ok (.istore_n 2, 1) := by decide +kernel
theorem dX12_power_2 : decode cX12_power 2 = .ok (.iconst 0, 1) := by decide +kernel
theorem dX12_power_3 : decode cX12_power 3 = .ok (.istore_n 3, 1) := by decide +kernel
theorem dX12_power_4 : decode cX12_power 4 = .ok (.iload_n 3, 1) := by decide +kernel
theorem dX12_power_5 : decode cX12_power 5 = .ok (.iload_n 1, 1) := by decide +kernel
theorem dX12_power_6 : decode cX12_power 6 = .ok (.if_icmp .ge 13, 3) := by decide +kernel
theorem dX12_power_9 : decode cX12_power 9 = .ok (.iload_n 2, 1) := by decide +kernel
theorem dX12_power_10 : decode cX12_power 10 = .ok (.iload_n 0, 1) := by decide +kernel
theorem dX12_power_11 : decode cX12_power 11 = .ok (.imul, 1) := by decide +kernel
theorem dX12_power_12 : decode cX12_power 12 = .ok (.istore_n 2, 1) := by decide +kernel
theorem dX12_power_13 : decode cX12_power 13 = .ok (.iinc 3 1, 3) := by decide +kernel
theorem dX12_power_16 : decode cX12_power 16 = .ok (.goto (-12), 3) := by decide +kernel
theorem dX12_power_19 : decode cX12_power 19 = .ok (.iload_n 2, 1) := by decide +kernel
theorem dX12_power_20 : decode cX12_power 20 = .ok (.ireturn, 1) := by decide +kernel
theorem dX12_lay_0 : decode cX12_lay 0 = .ok (.iload_n 1, 1) := by decide +kernel
theorem dX12_lay_1 : decode cX12_lay 1 = .ok (.istore_n 3, 1) := by decide +kernel
theorem dX12_lay_2 : decode cX12_lay 2 = .ok (.iload_n 2, 1) := by decide +kernel
theorem dX12_lay_3 : decode cX12_lay 3 = .ok (.iconst 1, 1) := by decide +kernel
theorem dX12_lay_4 : decode cX12_lay 4 = .ok (.isub, 1) := by decide +kernel
theorem dX12_lay_5 : decode cX12_lay 5 = .ok (.istore 4, 2) := by decide +kernel
theorem dX12_lay_7 : decode cX12_lay 7 = .ok (.iload 4, 2) := by decide +kernel
theorem dX12_lay_9 : decode cX12_lay 9 = .ok (.ifCond .lt 29, 3) := by decide +kernel
theorem dX12_lay_12 : decode cX12_lay 12 = .ok (.aload_n 0, 1) := by decide +kernel
theorem dX12_lay_13 : decode cX12_lay 13 = .ok (.getfield 57, 3) := by decide +kernel
theorem dX12_lay_16 : decode cX12_lay 16 = .ok (.iload 4, 2) := by decide +kernel
theorem dX12_lay_18 : decode cX12_lay 18 = .ok (.iload_n 3, 1) := by decide +kernel
theorem dX12_lay_19 : decode cX12_lay 19 = .ok (.aload_n 0, 1) := by decide +kernel
theorem dX12_lay_20 : decode cX12_lay 20 = .ok (.getfield 69, 3) := by decide +kernel
theorem dX12_lay_23 : decode cX12_lay 23 = .ok (.irem, 1) := by decide +kernel
theorem dX12_lay_24 : decode cX12_lay 24 = .ok (.iastore, 1) := by decide +kernel
theorem dX12_lay_25 : decode cX12_lay 25 = .ok (.iload_n 3, 1) := by decide +kernel
theorem dX12_lay_26 : decode cX12_lay 26 = .ok (.aload_n 0, 1) := by decide +kernel
theorem dX12_lay_27 : decode cX12_lay 27 = .ok (.getfield 69, 3) := by decide +kernel
theorem dX12_lay_30 : decode cX12_lay 30 = .ok (.idiv, 1) := by decide +kernel
theorem dX12_lay_31 : decode cX12_lay 31 = .ok (.istore_n 3, 1) := by decide +kernel
theorem dX12_lay_32 : decode cX12_lay 32 = .ok (.iinc 4 (-1), 3) := by decide +kernel
theorem dX12_lay_35 : decode cX12_lay 35 = .ok (.goto (-28), 3) := by decide +kernel
theorem dX12_lay_38 : decode cX12_lay 38 = .ok (.return_, 1) := by decide +kernel
theorem dX12_goesFor_0 : decode cX12_goesFor 0 = .ok (.aload_n 0, 1) := by decide +kernel
theorem dX12_goesFor_1 : decode cX12_goesFor 1 = .ok (.getfield 35, 3) := by decide +kernel
theorem dX12_goesFor_4 : decode cX12_goesFor 4 = .ok (.iconst 0, 1) := by decide +kernel
theorem dX12_goesFor_5 : decode cX12_goesFor 5 = .ok (.aload_n 0, 1) := by decide +kernel
theorem dX12_goesFor_6 : decode cX12_goesFor 6 = .ok (.getfield 38, 3) := by decide +kernel
theorem dX12_goesFor_9 : decode cX12_goesFor 9 = .ok (.iconst 0, 1) := by decide +kernel
theorem dX12_goesFor_10 : decode cX12_goesFor 10 = .ok (.invokestatic 173, 3) := by decide +kernel
theorem dX12_goesFor_13 : decode cX12_goesFor 13 = .ok (.iconst 0, 1) := by decide +kernel
theorem dX12_goesFor_14 : decode cX12_goesFor 14 = .ok (.istore_n 3, 1) := by decide +kernel
theorem dX12_goesFor_15 : decode cX12_goesFor 15 = .ok (.iload_n 3, 1) := by decide +kernel
theorem dX12_goesFor_16 : decode cX12_goesFor 16 = .ok (.iload_n 1, 1) := by decide +kernel
theorem dX12_goesFor_17 : decode cX12_goesFor 17 = .ok (.if_icmp .ge 49, 3) := by decide +kernel
theorem dX12_goesFor_20 : decode cX12_goesFor 20 = .ok (.aload_n 0, 1) := by decide +kernel
theorem dX12_goesFor_21 : decode cX12_goesFor 21 = .ok (.getfield 38, 3) := by decide +kernel
theorem dX12_goesFor_24 : decode cX12_goesFor 24 = .ok (.iconst 4, 1) := by decide +kernel
theorem dX12_goesFor_25 : decode cX12_goesFor 25 = .ok (.aload_n 0, 1) := by decide +kernel
theorem dX12_goesFor_26 : decode cX12_goesFor 26 = .ok (.getfield 57, 3) := by decide +kernel
theorem dX12_goesFor_29 : decode cX12_goesFor 29 = .ok (.iload_n 3, 1) := by decide +kernel
theorem dX12_goesFor_30 : decode cX12_goesFor 30 = .ok (.iaload, 1) := by decide +kernel
theorem dX12_goesFor_31 : decode cX12_goesFor 31 = .ok (.iastore, 1) := by decide +kernel
theorem dX12_goesFor_32 : decode cX12_goesFor 32 = .ok (.aload_n 0, 1) := by decide +kernel
end
section
theorem dX12_goesFor_33 : decode cX12_goesFor 33 = .ok (.getfield 38, 3) := by decide +kernel
theorem dX12_goesFor_36 : decode cX12_goesFor 36 = .ok (.iconst 5, 1) := by decide +kernel
theorem dX12_goesFor_37 : decode cX12_goesFor 37 = .ok (.iconst (-1), 1) := by decide +kernel
theorem dX12_goesFor_38 : decode cX12_goesFor 38 = .ok (.iastore, 1) := by decide +kernel
theorem dX12_goesFor_39 : decode cX12_goesFor 39 = .ok (.aload_n 0, 1) := by decide +kernel
theorem dX12_goesFor_40 : decode cX12_goesFor 40 = .ok (.aload_n 0, 1) := by decide +kernel
theorem dX12_goesFor_41 : decode cX12_goesFor 41 = .ok (.getfield 38, 3) := by decide +kernel
theorem dX12_goesFor_44 : decode cX12_goesFor 44 = .ok (.iconst 0, 1) := by decide +kernel
theorem dX12_goesFor_45 : decode cX12_goesFor 45 = .ok (.invokevirtual 188, 3) := by decide +kernel
theorem dX12_goesFor_48 : decode cX12_goesFor 48 = .ok (.aload_n 0, 1) := by decide +kernel
theorem dX12_goesFor_49 : decode cX12_goesFor 49 = .ok (.getfield 38, 3) := by decide +kernel
theorem dX12_goesFor_52 : decode cX12_goesFor 52 = .ok (.iconst 1, 1) := by decide +kernel
theorem dX12_goesFor_53 : decode cX12_goesFor 53 = .ok (.iaload, 1) := by decide +kernel
theorem dX12_goesFor_54 : decode cX12_goesFor 54 = .ok (.iload_n 2, 1) := by decide +kernel
theorem dX12_goesFor_55 : decode cX12_goesFor 55 = .ok (.if_icmp .le 5, 3) := by decide +kernel
theorem dX12_goesFor_58 : decode cX12_goesFor 58 = .ok (.iload_n 3, 1) := by decide +kernel
theorem dX12_goesFor_59 : decode cX12_goesFor 59 = .ok (.ireturn, 1) := by decide +kernel
theorem dX12_goesFor_60 : decode cX12_goesFor 60 = .ok (.iinc 3 1, 3) := by decide +kernel
theorem dX12_goesFor_63 : decode cX12_goesFor 63 = .ok (.goto (-48), 3) := by decide +kernel
theorem dX12_goesFor_66 : decode cX12_goesFor 66 = .ok (.iload_n 1, 1) := by decide +kernel
theorem dX12_goesFor_67 : decode cX12_goesFor 67 = .ok (.ireturn, 1) := by decide +kernel
theorem dX12_mostOf_0 : decode cX12_mostOf 0 = .ok (.iconst 0, 1) := by decide +kernel
theorem dX12_mostOf_1 : decode cX12_mostOf 1 = .ok (.istore_n 2, 1) := by decide +kernel
theorem dX12_mostOf_2 : decode cX12_mostOf 2 = .ok (.iconst 0, 1) := by decide +kernel
theorem dX12_mostOf_3 : decode cX12_mostOf 3 = .ok (.istore_n 3, 1) := by decide +kernel
theorem dX12_mostOf_4 : decode cX12_mostOf 4 = .ok (.iload_n 3, 1) := by decide +kernel
theorem dX12_mostOf_5 : decode cX12_mostOf 5 = .ok (.aload_n 0, 1) := by decide +kernel
theorem dX12_mostOf_6 : decode cX12_mostOf 6 = .ok (.getfield 69, 3) := by decide +kernel
theorem dX12_mostOf_9 : decode cX12_mostOf 9 = .ok (.if_icmp .ge 61, 3) := by decide +kernel
theorem dX12_mostOf_12 : decode cX12_mostOf 12 = .ok (.iconst 0, 1) := by decide +kernel
theorem dX12_mostOf_13 : decode cX12_mostOf 13 = .ok (.istore 4, 2) := by decide +kernel
theorem dX12_mostOf_15 : decode cX12_mostOf 15 = .ok (.iconst 0, 1) := by decide +kernel
theorem dX12_mostOf_16 : decode cX12_mostOf 16 = .ok (.istore 5, 2) := by decide +kernel
theorem dX12_mostOf_18 : decode cX12_mostOf 18 = .ok (.iload 5, 2) := by decide +kernel
theorem dX12_mostOf_20 : decode cX12_mostOf 20 = .ok (.iload_n 1, 1) := by decide +kernel
theorem dX12_mostOf_21 : decode cX12_mostOf 21 = .ok (.if_icmp .ge 30, 3) := by decide +kernel
theorem dX12_mostOf_24 : decode cX12_mostOf 24 = .ok (.iload 4, 2) := by decide +kernel
theorem dX12_mostOf_26 : decode cX12_mostOf 26 = .ok (.aload_n 0, 1) := by decide +kernel
theorem dX12_mostOf_27 : decode cX12_mostOf 27 = .ok (.getfield 57, 3) := by decide +kernel
theorem dX12_mostOf_30 : decode cX12_mostOf 30 = .ok (.iload 5, 2) := by decide +kernel
theorem dX12_mostOf_32 : decode cX12_mostOf 32 = .ok (.iaload, 1) := by decide +kernel
theorem dX12_mostOf_33 : decode cX12_mostOf 33 = .ok (.iload_n 3, 1) := by decide +kernel
theorem dX12_mostOf_34 : decode cX12_mostOf 34 = .ok (.if_icmp .ne 7, 3) := by decide +kernel
theorem dX12_mostOf_37 : decode cX12_mostOf 37 = .ok (.iconst 1, 1) := by decide +kernel
theorem dX12_mostOf_38 : decode cX12_mostOf 38 = .ok (.goto 4, 3) := by decide +kernel
theorem dX12_mostOf_41 : decode cX12_mostOf 41 = .ok (.iconst 0, 1) := by decide +kernel
theorem dX12_mostOf_42 : decode cX12_mostOf 42 = .ok (.iadd, 1) := by decide +kernel
theorem dX12_mostOf_43 : decode cX12_mostOf 43 = .ok (.istore 4, 2) := by decide +kernel
theorem dX12_mostOf_45 : decode cX12_mostOf 45 = .ok (.iinc 5 1, 3) := by decide +kernel
theorem dX12_mostOf_48 : decode cX12_mostOf 48 = .ok (.goto (-30), 3) := by decide +kernel
theorem dX12_mostOf_51 : decode cX12_mostOf 51 = .ok (.iload 4, 2) := by decide +kernel
theorem dX12_mostOf_53 : decode cX12_mostOf 53 = .ok (.iload_n 2, 1) := by decide +kernel
theorem dX12_mostOf_54 : decode cX12_mostOf 54 = .ok (.if_icmp .le 8, 3) := by decide +kernel
theorem dX12_mostOf_57 : decode cX12_mostOf 57 = .ok (.iload 4, 2) := by decide +kernel
theorem dX12_mostOf_59 : decode cX12_mostOf 59 = .ok (.goto 4, 3) := by decide +kernel
theorem dX12_mostOf_62 : decode cX12_mostOf 62 = .ok (.iload_n 2, 1) := by decide +kernel
theorem dX12_mostOf_63 : decode cX12_mostOf 63 = .ok (.istore_n 2, 1) := by decide +kernel
theorem dX12_mostOf_64 : decode cX12_mostOf 64 = .ok (.iinc 3 1, 3) := by decide +kernel
theorem dX12_mostOf_67 : decode cX12_mostOf 67 = .ok (.goto (-63), 3) := by decide +kernel
theorem dX12_mostOf_70 : decode cX12_mostOf 70 = .ok (.iload_n 2, 1) := by decide +kernel
theorem dX12_mostOf_71 : decode cX12_mostOf 71 = .ok (.ireturn, 1) := by decide +kernel
theorem dX12_shifts_0 : decode cX12_shifts 0 = .ok (.iload_n 1, 1) := by decide +kernel
theorem dX12_shifts_1 : decode cX12_shifts 1 = .ok (.iconst 1, 1) := by decide +kernel
theorem dX12_shifts_2 : decode cX12_shifts 2 = .ok (.iconst 5, 1) := by decide +kernel
theorem dX12_shifts_3 : decode cX12_shifts 3 = .ok (.invokestatic 72, 3) := by decide +kernel
theorem dX12_shifts_6 : decode cX12_shifts 6 = .ok (.ifCond .eq 13, 3) := by decide +kernel
theorem dX12_shifts_9 : decode cX12_shifts 9 = .ok (.iload_n 2, 1) := by decide +kernel
theorem dX12_shifts_10 : decode cX12_shifts 10 = .ok (.iconst 0, 1) := by decide +kernel
theorem dX12_shifts_11 : decode cX12_shifts 11 = .ok (.bipush 99, 2) := by decide +kernel
theorem dX12_shifts_13 : decode cX12_shifts 13 = .ok (.invokestatic 72, 3) := by decide +kernel
theorem dX12_shifts_16 : decode cX12_shifts 16 = .ok (.ifCond .ne 6, 3) := by decide +kernel
theorem dX12_shifts_19 : decode cX12_shifts 19 = .ok (.ldc 85, 2) := by decide +kernel
theorem dX12_shifts_21 : decode cX12_shifts 21 = .ok (.ireturn, 1) := by decide +kernel
theorem dX12_shifts_22 : decode cX12_shifts 22 = .ok (.aload_n 0, 1) := by decide +kernel
theorem dX12_shifts_23 : decode cX12_shifts 23 = .ok (.invokevirtual 181, 3) := by decide +kernel
theorem dX12_shifts_26 : decode cX12_shifts 26 = .ok (.ifCond .ne 6, 3) := by decide +kernel
theorem dX12_shifts_29 : decode cX12_shifts 29 = .ok (.ldc 184, 2) := by decide +kernel
theorem dX12_shifts_31 : decode cX12_shifts 31 = .ok (.ireturn, 1) := by decide +kernel
theorem dX12_shifts_32 : decode cX12_shifts 32 = .ok (.iconst (-1), 1) := by decide +kernel
theorem dX12_shifts_33 : decode cX12_shifts 33 = .ok (.istore 4, 2) := by decide +kernel
theorem dX12_shifts_35 : decode cX12_shifts 35 = .ok (.iconst 0, 1) := by decide +kernel
theorem dX12_shifts_36 : decode cX12_shifts 36 = .ok (.istore 5, 2) := by decide +kernel
theorem dX12_shifts_38 : decode cX12_shifts 38 = .ok (.iload 5, 2) := by decide +kernel
theorem dX12_shifts_40 : decode cX12_shifts 40 = .ok (.aload_n 0, 1) := by decide +kernel
theorem dX12_shifts_41 : decode cX12_shifts 41 = .ok (.getfield 69, 3) := by decide +kernel
theorem dX12_shifts_44 : decode cX12_shifts 44 = .ok (.iload_n 1, 1) := by decide +kernel
theorem dX12_shifts_45 : decode cX12_shifts 45 = .ok (.invokestatic 229, 3) := by decide +kernel
theorem dX12_shifts_48 : decode cX12_shifts 48 = .ok (.if_icmp .ge 79, 3) := by decide +kernel
theorem dX12_shifts_51 : decode cX12_shifts 51 = .ok (.aload_n 0, 1) := by decide +kernel
theorem dX12_shifts_52 : decode cX12_shifts 52 = .ok (.iload 5, 2) := by decide +kernel
theorem dX12_shifts_54 : decode cX12_shifts 54 = .ok (.iload_n 1, 1) := by decide +kernel
theorem dX12_shifts_55 : decode cX12_shifts 55 = .ok (.invokevirtual 233, 3) := by decide +kernel
theorem dX12_shifts_58 : decode cX12_shifts 58 = .ok (.aload_n 0, 1) := by decide +kernel
theorem dX12_shifts_59 : decode cX12_shifts 59 = .ok (.iload_n 1, 1) := by decide +kernel
theorem dX12_shifts_60 : decode cX12_shifts 60 = .ok (.invokevirtual 237, 3) := by decide +kernel
theorem dX12_shifts_63 : decode cX12_shifts 63 = .ok (.istore 6, 2) := by decide +kernel
theorem dX12_shifts_65 : decode cX12_shifts 65 = .ok (.iload 4, 2) := by decide +kernel
theorem dX12_shifts_67 : decode cX12_shifts 67 = .ok (.iconst (-1), 1) := by decide +kernel
theorem dX12_shifts_68 : decode cX12_shifts 68 = .ok (.if_icmp .eq 10, 3) := by decide +kernel
theorem dX12_shifts_71 : decode cX12_shifts 71 = .ok (.iload 6, 2) := by decide +kernel
theorem dX12_shifts_73 : decode cX12_shifts 73 = .ok (.iload 4, 2) := by decide +kernel
theorem dX12_shifts_75 : decode cX12_shifts 75 = .ok (.if_icmp .ge 46, 3) := by decide +kernel
theorem dX12_shifts_78 : decode cX12_shifts 78 = .ok (.aload_n 0, 1) := by decide +kernel
theorem dX12_shifts_79 : decode cX12_shifts 79 = .ok (.iload_n 1, 1) := by decide +kernel
theorem dX12_shifts_80 : decode cX12_shifts 80 = .ok (.iload_n 2, 1) := by decide +kernel
theorem dX12_shifts_81 : decode cX12_shifts 81 = .ok (.invokevirtual 240, 3) := by decide +kernel
theorem dX12_shifts_84 : decode cX12_shifts 84 = .ok (.iload_n 1, 1) := by decide +kernel
theorem dX12_shifts_85 : decode cX12_shifts 85 = .ok (.if_icmp .ne 36, 3) := by decide +kernel
theorem dX12_shifts_88 : decode cX12_shifts 88 = .ok (.iload 6, 2) := by decide +kernel
theorem dX12_shifts_90 : decode cX12_shifts 90 = .ok (.istore 4, 2) := by decide +kernel
theorem dX12_shifts_92 : decode cX12_shifts 92 = .ok (.iconst 0, 1) := by decide +kernel
theorem dX12_shifts_93 : decode cX12_shifts 93 = .ok (.istore 7, 2) := by decide +kernel
theorem dX12_shifts_95 : decode cX12_shifts 95 = .ok (.iload 7, 2) := by decide +kernel
theorem dX12_shifts_97 : decode cX12_shifts 97 = .ok (.iload_n 1, 1) := by decide +kernel
theorem dX12_shifts_98 : decode cX12_shifts 98 = .ok (.if_icmp .ge 23, 3) := by decide +kernel
theorem dX12_shifts_101 : decode cX12_shifts 101 = .ok (.aload_n 0, 1) := by decide +kernel
theorem dX12_shifts_102 : decode cX12_shifts 102 = .ok (.getfield 60, 3) := by decide +kernel
theorem dX12_shifts_105 : decode cX12_shifts 105 = .ok (.iload 7, 2) := by decide +kernel
theorem dX12_shifts_107 : decode cX12_shifts 107 = .ok (.aload_n 0, 1) := by decide +kernel
theorem dX12_shifts_108 : decode cX12_shifts 108 = .ok (.getfield 57, 3) := by decide +kernel
theorem dX12_shifts_111 : decode cX12_shifts 111 = .ok (.iload 7, 2) := by decide +kernel
theorem dX12_shifts_113 : decode cX12_shifts 113 = .ok (.iaload, 1) := by decide +kernel
theorem dX12_shifts_114 : decode cX12_shifts 114 = .ok (.iastore, 1) := by decide +kernel
theorem dX12_shifts_115 : decode cX12_shifts 115 = .ok (.iinc 7 1, 3) := by decide +kernel
theorem dX12_shifts_118 : decode cX12_shifts 118 = .ok (.goto (-23), 3) := by decide +kernel
theorem dX12_shifts_121 : decode cX12_shifts 121 = .ok (.iinc 5 1, 3) := by decide +kernel
theorem dX12_shifts_124 : decode cX12_shifts 124 = .ok (.goto (-86), 3) := by decide +kernel
theorem dX12_shifts_127 : decode cX12_shifts 127 = .ok (.iload_n 3, 1) := by decide +kernel
theorem dX12_shifts_128 : decode cX12_shifts 128 = .ok (.iconst (-1), 1) := by decide +kernel
theorem dX12_shifts_129 : decode cX12_shifts 129 = .ok (.if_icmp .ne 8, 3) := by decide +kernel
theorem dX12_shifts_132 : decode cX12_shifts 132 = .ok (.iload 4, 2) := by decide +kernel
theorem dX12_shifts_134 : decode cX12_shifts 134 = .ok (.goto 30, 3) := by decide +kernel
theorem dX12_shifts_137 : decode cX12_shifts 137 = .ok (.iload 4, 2) := by decide +kernel
theorem dX12_shifts_139 : decode cX12_shifts 139 = .ok (.iconst (-1), 1) := by decide +kernel
theorem dX12_shifts_140 : decode cX12_shifts 140 = .ok (.if_icmp .eq 14, 3) := by decide +kernel
theorem dX12_shifts_143 : decode cX12_shifts 143 = .ok (.iload_n 3, 1) := by decide +kernel
theorem dX12_shifts_144 : decode cX12_shifts 144 = .ok (.iconst 0, 1) := by decide +kernel
theorem dX12_shifts_145 : decode cX12_shifts 145 = .ok (.iload_n 1, 1) := by decide +kernel
theorem dX12_shifts_146 : decode cX12_shifts 146 = .ok (.iconst 1, 1) := by decide +kernel
theorem dX12_shifts_147 : decode cX12_shifts 147 = .ok (.isub, 1) := by decide +kernel
theorem dX12_shifts_148 : decode cX12_shifts 148 = .ok (.invokestatic 72, 3) := by decide +kernel
theorem dX12_shifts_151 : decode cX12_shifts 151 = .ok (.ifCond .ne 7, 3) := by decide +kernel
theorem dX12_shifts_154 : decode cX12_shifts 154 = .ok (.iconst (-1), 1) := by decide +kernel
theorem dX12_shifts_155 : decode cX12_shifts 155 = .ok (.goto 9, 3) := by decide +kernel
theorem dX12_shifts_158 : decode cX12_shifts 158 = .ok (.aload_n 0, 1) := by decide +kernel
theorem dX12_shifts_159 : decode cX12_shifts 159 = .ok (.getfield 60, 3) := by decide +kernel
theorem dX12_shifts_162 : decode cX12_shifts 162 = .ok (.iload_n 3, 1) := by decide +kernel
theorem dX12_shifts_163 : decode cX12_shifts 163 = .ok (.iaload, 1) := by decide +kernel
theorem dX12_shifts_164 : decode cX12_shifts 164 = .ok (.ireturn, 1) := by decide +kernel
theorem dX12_sinks_0 : decode cX12_sinks 0 = .ok (.iload_n 1, 1) := by decide +kernel
theorem dX12_sinks_1 : decode cX12_sinks 1 = .ok (.iconst 1, 1) := by decide +kernel
theorem dX12_sinks_2 : decode cX12_sinks 2 = .ok (.iconst 5, 1) := by decide +kernel
theorem dX12_sinks_3 : decode cX12_sinks 3 = .ok (.invokestatic 72, 3) := by decide +kernel
theorem dX12_sinks_6 : decode cX12_sinks 6 = .ok (.ifCond .eq 13, 3) := by decide +kernel
theorem dX12_sinks_9 : decode cX12_sinks 9 = .ok (.iload_n 2, 1) := by decide +kernel
theorem dX12_sinks_10 : decode cX12_sinks 10 = .ok (.iconst 0, 1) := by decide +kernel
theorem dX12_sinks_11 : decode cX12_sinks 11 = .ok (.bipush 99, 2) := by decide +kernel
theorem dX12_sinks_13 : decode cX12_sinks 13 = .ok (.invokestatic 72, 3) := by decide +kernel
theorem dX12_sinks_16 : decode cX12_sinks 16 = .ok (.ifCond .ne 6, 3) := by decide +kernel
theorem dX12_sinks_19 : decode cX12_sinks 19 = .ok (.ldc 85, 2) := by decide +kernel
theorem dX12_sinks_21 : decode cX12_sinks 21 = .ok (.ireturn, 1) := by decide +kernel
theorem dX12_sinks_22 : decode cX12_sinks 22 = .ok (.aload_n 0, 1) := by decide +kernel
theorem dX12_sinks_23 : decode cX12_sinks 23 = .ok (.invokevirtual 181, 3) := by decide +kernel
theorem dX12_sinks_26 : decode cX12_sinks 26 = .ok (.ifCond .ne 6, 3) := by decide +kernel
theorem dX12_sinks_29 : decode cX12_sinks 29 = .ok (.ldc 184, 2) := by decide +kernel
theorem dX12_sinks_31 : decode cX12_sinks 31 = .ok (.ireturn, 1) := by decide +kernel
theorem dX12_sinks_32 : decode cX12_sinks 32 = .ok (.iconst 0, 1) := by decide +kernel
theorem dX12_sinks_33 : decode cX12_sinks 33 = .ok (.istore_n 3, 1) := by decide +kernel
theorem dX12_sinks_34 : decode cX12_sinks 34 = .ok (.iconst 0, 1) := by decide +kernel
theorem dX12_sinks_35 : decode cX12_sinks 35 = .ok (.istore 4, 2) := by decide +kernel
theorem dX12_sinks_37 : decode cX12_sinks 37 = .ok (.iload 4, 2) := by decide +kernel
theorem dX12_sinks_39 : decode cX12_sinks 39 = .ok (.aload_n 0, 1) := by decide +kernel
theorem dX12_sinks_40 : decode cX12_sinks 40 = .ok (.getfield 69, 3) := by decide +kernel
theorem dX12_sinks_43 : decode cX12_sinks 43 = .ok (.iload_n 1, 1) := by decide +kernel
theorem dX12_sinks_44 : decode cX12_sinks 44 = .ok (.invokestatic 229, 3) := by decide +kernel
theorem dX12_sinks_47 : decode cX12_sinks 47 = .ok (.if_icmp .ge 37, 3) := by decide +kernel
theorem dX12_sinks_50 : decode cX12_sinks 50 = .ok (.aload_n 0, 1) := by decide +kernel
theorem dX12_sinks_51 : decode cX12_sinks 51 = .ok (.iload 4, 2) := by decide +kernel
theorem dX12_sinks_53 : decode cX12_sinks 53 = .ok (.iload_n 1, 1) := by decide +kernel
theorem dX12_sinks_54 : decode cX12_sinks 54 = .ok (.invokevirtual 233, 3) := by decide +kernel
theorem dX12_sinks_57 : decode cX12_sinks 57 = .ok (.aload_n 0, 1) := by decide +kernel
theorem dX12_sinks_58 : decode cX12_sinks 58 = .ok (.iload_n 1, 1) := by decide +kernel
theorem dX12_sinks_59 : decode cX12_sinks 59 = .ok (.iload_n 2, 1) := by decide +kernel
theorem dX12_sinks_60 : decode cX12_sinks 60 = .ok (.invokevirtual 240, 3) := by decide +kernel
theorem dX12_sinks_63 : decode cX12_sinks 63 = .ok (.istore 5, 2) := by decide +kernel
theorem dX12_sinks_65 : decode cX12_sinks 65 = .ok (.iload 5, 2) := by decide +kernel
theorem dX12_sinks_67 : decode cX12_sinks 67 = .ok (.iload_n 3, 1) := by decide +kernel
theorem dX12_sinks_68 : decode cX12_sinks 68 = .ok (.if_icmp .le 8, 3) := by decide +kernel
theorem dX12_sinks_71 : decode cX12_sinks 71 = .ok (.iload 5, 2) := by decide +kernel
theorem dX12_sinks_73 : decode cX12_sinks 73 = .ok (.goto 4, 3) := by decide +kernel
theorem dX12_sinks_76 : decode cX12_sinks 76 = .ok (.iload_n 3, 1) := by decide +kernel
theorem dX12_sinks_77 : decode cX12_sinks 77 = .ok (.istore_n 3, 1) := by decide +kernel
theorem dX12_sinks_78 : decode cX12_sinks 78 = .ok (.iinc 4 1, 3) := by decide +kernel
theorem dX12_sinks_81 : decode cX12_sinks 81 = .ok (.goto (-44), 3) := by decide +kernel
theorem dX12_sinks_84 : decode cX12_sinks 84 = .ok (.iload_n 3, 1) := by decide +kernel
theorem dX12_sinks_85 : decode cX12_sinks 85 = .ok (.iload_n 1, 1) := by decide +kernel
theorem dX12_sinks_86 : decode cX12_sinks 86 = .ok (.if_icmp .ne 7, 3) := by decide +kernel
theorem dX12_sinks_89 : decode cX12_sinks 89 = .ok (.iconst (-1), 1) := by decide +kernel
theorem dX12_sinks_90 : decode cX12_sinks 90 = .ok (.goto 4, 3) := by decide +kernel
theorem dX12_sinks_93 : decode cX12_sinks 93 = .ok (.iload_n 3, 1) := by decide +kernel
theorem dX12_sinks_94 : decode cX12_sinks 94 = .ok (.ireturn, 1) := by decide +kernel
theorem dX12_fallsNow_0 : decode cX12_fallsNow 0 = .ok (.aload_n 0, 1) := by decide +kernel
theorem dX12_fallsNow_1 : decode cX12_fallsNow 1 = .ok (.aload_n 0, 1) := by decide +kernel
theorem dX12_fallsNow_2 : decode cX12_fallsNow 2 = .ok (.getfield 35, 3) := by decide +kernel
theorem dX12_fallsNow_5 : decode cX12_fallsNow 5 = .ok (.iload_n 1, 1) := by decide +kernel
theorem dX12_fallsNow_6 : decode cX12_fallsNow 6 = .ok (.iconst 0, 1) := by decide +kernel
theorem dX12_fallsNow_7 : decode cX12_fallsNow 7 = .ok (.invokevirtual 195, 3) := by decide +kernel
theorem dX12_fallsNow_10 : decode cX12_fallsNow 10 = .ok (.ifCond .ne 29, 3) := by decide +kernel
theorem dX12_fallsNow_13 : decode cX12_fallsNow 13 = .ok (.aload_n 0, 1) := by decide +kernel
theorem dX12_fallsNow_14 : decode cX12_fallsNow 14 = .ok (.aload_n 0, 1) := by decide +kernel
theorem dX12_fallsNow_15 : decode cX12_fallsNow 15 = .ok (.getfield 35, 3) := by decide +kernel
theorem dX12_fallsNow_18 : decode cX12_fallsNow 18 = .ok (.iload_n 1, 1) := by decide +kernel
theorem dX12_fallsNow_19 : decode cX12_fallsNow 19 = .ok (.iconst 1, 1) := by decide +kernel
theorem dX12_fallsNow_20 : decode cX12_fallsNow 20 = .ok (.invokevirtual 195, 3) := by decide +kernel
theorem dX12_fallsNow_23 : decode cX12_fallsNow 23 = .ok (.ifCond .ne 16, 3) := by decide +kernel
theorem dX12_fallsNow_26 : decode cX12_fallsNow 26 = .ok (.aload_n 0, 1) := by decide +kernel
theorem dX12_fallsNow_27 : decode cX12_fallsNow 27 = .ok (.aload_n 0, 1) := by decide +kernel
theorem dX12_fallsNow_28 : decode cX12_fallsNow 28 = .ok (.getfield 35, 3) := by decide +kernel
theorem dX12_fallsNow_31 : decode cX12_fallsNow 31 = .ok (.iload_n 1, 1) := by decide +kernel
theorem dX12_fallsNow_32 : decode cX12_fallsNow 32 = .ok (.iconst 2, 1) := by decide +kernel
theorem dX12_fallsNow_33 : decode cX12_fallsNow 33 = .ok (.invokevirtual 195, 3) := by decide +kernel
theorem dX12_fallsNow_36 : decode cX12_fallsNow 36 = .ok (.ifCond .eq 7, 3) := by decide +kernel
theorem dX12_fallsNow_39 : decode cX12_fallsNow 39 = .ok (.iconst 1, 1) := by decide +kernel
theorem dX12_fallsNow_40 : decode cX12_fallsNow 40 = .ok (.goto 4, 3) := by decide +kernel
theorem dX12_fallsNow_43 : decode cX12_fallsNow 43 = .ok (.iconst 0, 1) := by decide +kernel
theorem dX12_fallsNow_44 : decode cX12_fallsNow 44 = .ok (.ireturn, 1) := by decide +kernel
theorem dX12_isNext_0 : decode cX12_isNext 0 = .ok (.iload_n 1, 1) := by decide +kernel
theorem dX12_isNext_1 : decode cX12_isNext 1 = .ok (.iconst (-1), 1) := by decide +kernel
theorem dX12_isNext_2 : decode cX12_isNext 2 = .ok (.if_icmp .ne 36, 3) := by decide +kernel
theorem dX12_isNext_5 : decode cX12_isNext 5 = .ok (.aload_n 0, 1) := by decide +kernel
theorem dX12_isNext_6 : decode cX12_isNext 6 = .ok (.getfield 35, 3) := by decide +kernel
theorem dX12_isNext_9 : decode cX12_isNext 9 = .ok (.iload_n 2, 1) := by decide +kernel
theorem dX12_isNext_10 : decode cX12_isNext 10 = .ok (.invokestatic 199, 3) := by decide +kernel
theorem dX12_isNext_13 : decode cX12_isNext 13 = .ok (.ifCond .ne 23, 3) := by decide +kernel
theorem dX12_isNext_16 : decode cX12_isNext 16 = .ok (.aload_n 0, 1) := by decide +kernel
theorem dX12_isNext_17 : decode cX12_isNext 17 = .ok (.iload_n 2, 1) := by decide +kernel
theorem dX12_isNext_18 : decode cX12_isNext 18 = .ok (.invokevirtual 243, 3) := by decide +kernel
theorem dX12_isNext_21 : decode cX12_isNext 21 = .ok (.ifCond .ne 11, 3) := by decide +kernel
theorem dX12_isNext_24 : decode cX12_isNext 24 = .ok (.aload_n 0, 1) := by decide +kernel
theorem dX12_isNext_25 : decode cX12_isNext 25 = .ok (.iload_n 2, 1) := by decide +kernel
theorem dX12_isNext_26 : decode cX12_isNext 26 = .ok (.invokevirtual 209, 3) := by decide +kernel
theorem dX12_isNext_29 : decode cX12_isNext 29 = .ok (.ifCond .eq 7, 3) := by decide +kernel
theorem dX12_isNext_32 : decode cX12_isNext 32 = .ok (.iconst 1, 1) := by decide +kernel
theorem dX12_isNext_33 : decode cX12_isNext 33 = .ok (.goto 4, 3) := by decide +kernel
theorem dX12_isNext_36 : decode cX12_isNext 36 = .ok (.iconst 0, 1) := by decide +kernel
theorem dX12_isNext_37 : decode cX12_isNext 37 = .ok (.ireturn, 1) := by decide +kernel
theorem dX12_isNext_38 : decode cX12_isNext 38 = .ok (.iload_n 2, 1) := by decide +kernel
theorem dX12_isNext_39 : decode cX12_isNext 39 = .ok (.iload_n 1, 1) := by decide +kernel
theorem dX12_isNext_40 : decode cX12_isNext 40 = .ok (.if_icmp .eq 24, 3) := by decide +kernel
theorem dX12_isNext_43 : decode cX12_isNext 43 = .ok (.aload_n 0, 1) := by decide +kernel
theorem dX12_isNext_44 : decode cX12_isNext 44 = .ok (.iload_n 2, 1) := by decide +kernel
theorem dX12_isNext_45 : decode cX12_isNext 45 = .ok (.invokevirtual 243, 3) := by decide +kernel
theorem dX12_isNext_48 : decode cX12_isNext 48 = .ok (.ifCond .ne 12, 3) := by decide +kernel
theorem dX12_isNext_51 : decode cX12_isNext 51 = .ok (.aload_n 0, 1) := by decide +kernel
theorem dX12_isNext_52 : decode cX12_isNext 52 = .ok (.iload_n 2, 1) := by decide +kernel
theorem dX12_isNext_53 : decode cX12_isNext 53 = .ok (.invokevirtual 206, 3) := by decide +kernel
theorem dX12_isNext_56 : decode cX12_isNext 56 = .ok (.iload_n 1, 1) := by decide +kernel
theorem dX12_isNext_57 : decode cX12_isNext 57 = .ok (.if_icmp .ne 7, 3) := by decide +kernel
theorem dX12_isNext_60 : decode cX12_isNext 60 = .ok (.iconst 1, 1) := by decide +kernel
theorem dX12_isNext_61 : decode cX12_isNext 61 = .ok (.goto 4, 3) := by decide +kernel
theorem dX12_isNext_64 : decode cX12_isNext 64 = .ok (.iconst 0, 1) := by decide +kernel
theorem dX12_isNext_65 : decode cX12_isNext 65 = .ok (.ireturn, 1) := by decide +kernel
theorem dX12_layFar_0 : decode cX12_layFar 0 = .ok (.iconst 0, 1) := by decide +kernel
theorem dX12_layFar_1 : decode cX12_layFar 1 = .ok (.istore_n 2, 1) := by decide +kernel
theorem dX12_layFar_2 : decode cX12_layFar 2 = .ok (.iload_n 2, 1) := by decide +kernel
theorem dX12_layFar_3 : decode cX12_layFar 3 = .ok (.aload_n 0, 1) := by decide +kernel
theorem dX12_layFar_4 : decode cX12_layFar 4 = .ok (.getfield 69, 3) := by decide +kernel
theorem dX12_layFar_7 : decode cX12_layFar 7 = .ok (.if_icmp .ge 26, 3) := by decide +kernel
theorem dX12_layFar_10 : decode cX12_layFar 10 = .ok (.aload_n 0, 1) := by decide +kernel
theorem dX12_layFar_11 : decode cX12_layFar 11 = .ok (.getfield 60, 3) := by decide +kernel
theorem dX12_layFar_14 : decode cX12_layFar 14 = .ok (.iload_n 2, 1) := by decide +kernel
theorem dX12_layFar_15 : decode cX12_layFar 15 = .ok (.iload_n 2, 1) := by decide +kernel
theorem dX12_layFar_16 : decode cX12_layFar 16 = .ok (.iload_n 1, 1) := by decide +kernel
theorem dX12_layFar_17 : decode cX12_layFar 17 = .ok (.if_icmp .ne 7, 3) := by decide +kernel
theorem dX12_layFar_20 : decode cX12_layFar 20 = .ok (.iconst 0, 1) := by decide +kernel
theorem dX12_layFar_21 : decode cX12_layFar 21 = .ok (.goto 5, 3) := by decide +kernel
theorem dX12_layFar_24 : decode cX12_layFar 24 = .ok (.bipush 99, 2) := by decide +kernel
theorem dX12_layFar_26 : decode cX12_layFar 26 = .ok (.iastore, 1) := by decide +kernel
theorem dX12_layFar_27 : decode cX12_layFar 27 = .ok (.iinc 2 1, 3) := by decide +kernel
theorem dX12_layFar_30 : decode cX12_layFar 30 = .ok (.goto (-28), 3) := by decide +kernel
theorem dX12_layFar_33 : decode cX12_layFar 33 = .ok (.iconst 0, 1) := by decide +kernel
theorem dX12_layFar_34 : decode cX12_layFar 34 = .ok (.istore_n 2, 1) := by decide +kernel
theorem dX12_layFar_35 : decode cX12_layFar 35 = .ok (.iload_n 2, 1) := by decide +kernel
theorem dX12_layFar_36 : decode cX12_layFar 36 = .ok (.aload_n 0, 1) := by decide +kernel
theorem dX12_layFar_37 : decode cX12_layFar 37 = .ok (.getfield 69, 3) := by decide +kernel
theorem dX12_layFar_40 : decode cX12_layFar 40 = .ok (.if_icmp .ge 86, 3) := by decide +kernel
theorem dX12_layFar_43 : decode cX12_layFar 43 = .ok (.iconst 0, 1) := by decide +kernel
theorem dX12_layFar_44 : decode cX12_layFar 44 = .ok (.istore_n 3, 1) := by decide +kernel
theorem dX12_layFar_45 : decode cX12_layFar 45 = .ok (.iload_n 3, 1) := by decide +kernel
theorem dX12_layFar_46 : decode cX12_layFar 46 = .ok (.aload_n 0, 1) := by decide +kernel
theorem dX12_layFar_47 : decode cX12_layFar 47 = .ok (.getfield 69, 3) := by decide +kernel
theorem dX12_layFar_50 : decode cX12_layFar 50 = .ok (.if_icmp .ge 70, 3) := by decide +kernel
theorem dX12_layFar_53 : decode cX12_layFar 53 = .ok (.iconst 0, 1) := by decide +kernel
theorem dX12_layFar_54 : decode cX12_layFar 54 = .ok (.istore 4, 2) := by decide +kernel
theorem dX12_layFar_56 : decode cX12_layFar 56 = .ok (.iload 4, 2) := by decide +kernel
theorem dX12_layFar_58 : decode cX12_layFar 58 = .ok (.aload_n 0, 1) := by decide +kernel
theorem dX12_layFar_59 : decode cX12_layFar 59 = .ok (.getfield 69, 3) := by decide +kernel
theorem dX12_layFar_62 : decode cX12_layFar 62 = .ok (.if_icmp .ge 52, 3) := by decide +kernel
theorem dX12_layFar_65 : decode cX12_layFar 65 = .ok (.aload_n 0, 1) := by decide +kernel
theorem dX12_layFar_66 : decode cX12_layFar 66 = .ok (.iload_n 3, 1) := by decide +kernel
theorem dX12_layFar_67 : decode cX12_layFar 67 = .ok (.iload 4, 2) := by decide +kernel
theorem dX12_layFar_69 : decode cX12_layFar 69 = .ok (.invokevirtual 246, 3) := by decide +kernel
theorem dX12_layFar_72 : decode cX12_layFar 72 = .ok (.ifCond .eq 36, 3) := by decide +kernel
theorem dX12_layFar_75 : decode cX12_layFar 75 = .ok (.aload_n 0, 1) := by decide +kernel
theorem dX12_layFar_76 : decode cX12_layFar 76 = .ok (.getfield 60, 3) := by decide +kernel
theorem dX12_layFar_79 : decode cX12_layFar 79 = .ok (.iload 4, 2) := by decide +kernel
theorem dX12_layFar_81 : decode cX12_layFar 81 = .ok (.iaload, 1) := by decide +kernel
theorem dX12_layFar_82 : decode cX12_layFar 82 = .ok (.iconst 1, 1) := by decide +kernel
theorem dX12_layFar_83 : decode cX12_layFar 83 = .ok (.iadd, 1) := by decide +kernel
theorem dX12_layFar_84 : decode cX12_layFar 84 = .ok (.aload_n 0, 1) := by decide +kernel
theorem dX12_layFar_85 : decode cX12_layFar 85 = .ok (.getfield 60, 3) := by decide +kernel
theorem dX12_layFar_88 : decode cX12_layFar 88 = .ok (.iload_n 3, 1) := by decide +kernel
theorem dX12_layFar_89 : decode cX12_layFar 89 = .ok (.iaload, 1) := by decide +kernel
theorem dX12_layFar_90 : decode cX12_layFar 90 = .ok (.if_icmp .ge 18, 3) := by decide +kernel
theorem dX12_layFar_93 : decode cX12_layFar 93 = .ok (.aload_n 0, 1) := by decide +kernel
theorem dX12_layFar_94 : decode cX12_layFar 94 = .ok (.getfield 60, 3) := by decide +kernel
theorem dX12_layFar_97 : decode cX12_layFar 97 = .ok (.iload_n 3, 1) := by decide +kernel
theorem dX12_layFar_98 : decode cX12_layFar 98 = .ok (.aload_n 0, 1) := by decide +kernel
theorem dX12_layFar_99 : decode cX12_layFar 99 = .ok (.getfield 60, 3) := by decide +kernel
theorem dX12_layFar_102 : decode cX12_layFar 102 = .ok (.iload 4, 2) := by decide +kernel
theorem dX12_layFar_104 : decode cX12_layFar 104 = .ok (.iaload, 1) := by decide +kernel
theorem dX12_layFar_105 : decode cX12_layFar 105 = .ok (.iconst 1, 1) := by decide +kernel
theorem dX12_layFar_106 : decode cX12_layFar 106 = .ok (.iadd, 1) := by decide +kernel
theorem dX12_layFar_107 : decode cX12_layFar 107 = .ok (.iastore, 1) := by decide +kernel
theorem dX12_layFar_108 : decode cX12_layFar 108 = .ok (.iinc 4 1, 3) := by decide +kernel
theorem dX12_layFar_111 : decode cX12_layFar 111 = .ok (.goto (-55), 3) := by decide +kernel
theorem dX12_layFar_114 : decode cX12_layFar 114 = .ok (.iinc 3 1, 3) := by decide +kernel
theorem dX12_layFar_117 : decode cX12_layFar 117 = .ok (.goto (-72), 3) := by decide +kernel
theorem dX12_layFar_120 : decode cX12_layFar 120 = .ok (.iinc 2 1, 3) := by decide +kernel
theorem dX12_layFar_123 : decode cX12_layFar 123 = .ok (.goto (-88), 3) := by decide +kernel
theorem dX12_layFar_126 : decode cX12_layFar 126 = .ok (.return_, 1) := by decide +kernel
theorem dX12_chain_0 : decode cX12_chain 0 = .ok (.aload_n 0, 1) := by decide +kernel
theorem dX12_chain_1 : decode cX12_chain 1 = .ok (.iload_n 1, 1) := by decide +kernel
theorem dX12_chain_2 : decode cX12_chain 2 = .ok (.invokevirtual 177, 3) := by decide +kernel
theorem dX12_chain_5 : decode cX12_chain 5 = .ok (.ifCond .ne 6, 3) := by decide +kernel
theorem dX12_chain_8 : decode cX12_chain 8 = .ok (.ldc 180, 2) := by decide +kernel
theorem dX12_chain_10 : decode cX12_chain 10 = .ok (.ireturn, 1) := by decide +kernel
theorem dX12_chain_11 : decode cX12_chain 11 = .ok (.aload_n 0, 1) := by decide +kernel
theorem dX12_chain_12 : decode cX12_chain 12 = .ok (.getfield 35, 3) := by decide +kernel
theorem dX12_chain_15 : decode cX12_chain 15 = .ok (.iload_n 1, 1) := by decide +kernel
theorem dX12_chain_16 : decode cX12_chain 16 = .ok (.invokestatic 199, 3) := by decide +kernel
theorem dX12_chain_19 : decode cX12_chain 19 = .ok (.ifCond .eq 14, 3) := by decide +kernel
theorem dX12_chain_22 : decode cX12_chain 22 = .ok (.iload_n 2, 1) := by decide +kernel
theorem dX12_chain_23 : decode cX12_chain 23 = .ok (.iconst (-1), 1) := by decide +kernel
theorem dX12_chain_24 : decode cX12_chain 24 = .ok (.if_icmp .ne 7, 3) := by decide +kernel
theorem dX12_chain_27 : decode cX12_chain 27 = .ok (.iconst 0, 1) := by decide +kernel
theorem dX12_chain_28 : decode cX12_chain 28 = .ok (.goto 4, 3) := by decide +kernel
theorem dX12_chain_31 : decode cX12_chain 31 = .ok (.iconst (-1), 1) := by decide +kernel
theorem dX12_chain_32 : decode cX12_chain 32 = .ok (.ireturn, 1) := by decide +kernel
theorem dX12_chain_33 : decode cX12_chain 33 = .ok (.aload_n 0, 1) := by decide +kernel
theorem dX12_chain_34 : decode cX12_chain 34 = .ok (.iload_n 1, 1) := by decide +kernel
theorem dX12_chain_35 : decode cX12_chain 35 = .ok (.invokevirtual 249, 3) := by decide +kernel
theorem dX12_chain_38 : decode cX12_chain 38 = .ok (.iconst (-1), 1) := by decide +kernel
theorem dX12_chain_39 : decode cX12_chain 39 = .ok (.istore_n 3, 1) := by decide +kernel
theorem dX12_chain_40 : decode cX12_chain 40 = .ok (.bipush 99, 2) := by decide +kernel
theorem dX12_chain_42 : decode cX12_chain 42 = .ok (.istore 4, 2) := by decide +kernel
theorem dX12_chain_44 : decode cX12_chain 44 = .ok (.iconst 0, 1) := by decide +kernel
theorem dX12_chain_45 : decode cX12_chain 45 = .ok (.istore 5, 2) := by decide +kernel
theorem dX12_chain_47 : decode cX12_chain 47 = .ok (.iload 5, 2) := by decide +kernel
theorem dX12_chain_49 : decode cX12_chain 49 = .ok (.aload_n 0, 1) := by decide +kernel
theorem dX12_chain_50 : decode cX12_chain 50 = .ok (.getfield 69, 3) := by decide +kernel
theorem dX12_chain_53 : decode cX12_chain 53 = .ok (.if_icmp .ge 49, 3) := by decide +kernel
theorem dX12_chain_56 : decode cX12_chain 56 = .ok (.aload_n 0, 1) := by decide +kernel
theorem dX12_chain_57 : decode cX12_chain 57 = .ok (.iconst (-1), 1) := by decide +kernel
theorem dX12_chain_58 : decode cX12_chain 58 = .ok (.iload 5, 2) := by decide +kernel
theorem dX12_chain_60 : decode cX12_chain 60 = .ok (.invokevirtual 246, 3) := by decide +kernel
theorem dX12_chain_63 : decode cX12_chain 63 = .ok (.ifCond .eq 29, 3) := by decide +kernel
theorem dX12_chain_66 : decode cX12_chain 66 = .ok (.aload_n 0, 1) := by decide +kernel
theorem dX12_chain_67 : decode cX12_chain 67 = .ok (.getfield 60, 3) := by decide +kernel
theorem dX12_chain_70 : decode cX12_chain 70 = .ok (.iload 5, 2) := by decide +kernel
theorem dX12_chain_72 : decode cX12_chain 72 = .ok (.iaload, 1) := by decide +kernel
theorem dX12_chain_73 : decode cX12_chain 73 = .ok (.iconst 1, 1) := by decide +kernel
theorem dX12_chain_74 : decode cX12_chain 74 = .ok (.iadd, 1) := by decide +kernel
theorem dX12_chain_75 : decode cX12_chain 75 = .ok (.iload 4, 2) := by decide +kernel
theorem dX12_chain_77 : decode cX12_chain 77 = .ok (.if_icmp .ge 15, 3) := by decide +kernel
theorem dX12_chain_80 : decode cX12_chain 80 = .ok (.aload_n 0, 1) := by decide +kernel
theorem dX12_chain_81 : decode cX12_chain 81 = .ok (.getfield 60, 3) := by decide +kernel
theorem dX12_chain_84 : decode cX12_chain 84 = .ok (.iload 5, 2) := by decide +kernel
theorem dX12_chain_86 : decode cX12_chain 86 = .ok (.iaload, 1) := by decide +kernel
theorem dX12_chain_87 : decode cX12_chain 87 = .ok (.iconst 1, 1) := by decide +kernel
theorem dX12_chain_88 : decode cX12_chain 88 = .ok (.iadd, 1) := by decide +kernel
theorem dX12_chain_89 : decode cX12_chain 89 = .ok (.goto 5, 3) := by decide +kernel
theorem dX12_chain_92 : decode cX12_chain 92 = .ok (.iload 4, 2) := by decide +kernel
theorem dX12_chain_94 : decode cX12_chain 94 = .ok (.istore 4, 2) := by decide +kernel
theorem dX12_chain_96 : decode cX12_chain 96 = .ok (.iinc 5 1, 3) := by decide +kernel
theorem dX12_chain_99 : decode cX12_chain 99 = .ok (.goto (-52), 3) := by decide +kernel
theorem dX12_chain_102 : decode cX12_chain 102 = .ok (.iload 4, 2) := by decide +kernel
theorem dX12_chain_104 : decode cX12_chain 104 = .ok (.bipush 99, 2) := by decide +kernel
theorem dX12_chain_106 : decode cX12_chain 106 = .ok (.if_icmp .eq 14, 3) := by decide +kernel
theorem dX12_chain_109 : decode cX12_chain 109 = .ok (.iload_n 2, 1) := by decide +kernel
theorem dX12_chain_110 : decode cX12_chain 110 = .ok (.iload 4, 2) := by decide +kernel
theorem dX12_chain_112 : decode cX12_chain 112 = .ok (.if_icmp .ge 8, 3) := by decide +kernel
theorem dX12_chain_115 : decode cX12_chain 115 = .ok (.iload_n 2, 1) := by decide +kernel
theorem dX12_chain_116 : decode cX12_chain 116 = .ok (.iconst (-1), 1) := by decide +kernel
theorem dX12_chain_117 : decode cX12_chain 117 = .ok (.if_icmp .ge 5, 3) := by decide +kernel
theorem dX12_chain_120 : decode cX12_chain 120 = .ok (.iconst (-1), 1) := by decide +kernel
theorem dX12_chain_121 : decode cX12_chain 121 = .ok (.ireturn, 1) := by decide +kernel
theorem dX12_chain_122 : decode cX12_chain 122 = .ok (.iload_n 2, 1) := by decide +kernel
theorem dX12_chain_123 : decode cX12_chain 123 = .ok (.iconst (-1), 1) := by decide +kernel
theorem dX12_chain_124 : decode cX12_chain 124 = .ok (.if_icmp .ne 6, 3) := by decide +kernel
theorem dX12_chain_127 : decode cX12_chain 127 = .ok (.iload 4, 2) := by decide +kernel
theorem dX12_chain_129 : decode cX12_chain 129 = .ok (.ireturn, 1) := by decide +kernel
theorem dX12_chain_130 : decode cX12_chain 130 = .ok (.iload 4, 2) := by decide +kernel
theorem dX12_chain_132 : decode cX12_chain 132 = .ok (.istore 5, 2) := by decide +kernel
theorem dX12_chain_134 : decode cX12_chain 134 = .ok (.iconst 0, 1) := by decide +kernel
theorem dX12_chain_135 : decode cX12_chain 135 = .ok (.istore 6, 2) := by decide +kernel
theorem dX12_chain_137 : decode cX12_chain 137 = .ok (.iload 6, 2) := by decide +kernel
theorem dX12_chain_139 : decode cX12_chain 139 = .ok (.iload_n 2, 1) := by decide +kernel
theorem dX12_chain_140 : decode cX12_chain 140 = .ok (.if_icmp .gt 70, 3) := by decide +kernel
theorem dX12_chain_143 : decode cX12_chain 143 = .ok (.iconst (-1), 1) := by decide +kernel
theorem dX12_chain_144 : decode cX12_chain 144 = .ok (.istore 7, 2) := by decide +kernel
theorem dX12_chain_146 : decode cX12_chain 146 = .ok (.aload_n 0, 1) := by decide +kernel
theorem dX12_chain_147 : decode cX12_chain 147 = .ok (.getfield 69, 3) := by decide +kernel
theorem dX12_chain_150 : decode cX12_chain 150 = .ok (.iconst 1, 1) := by decide +kernel
theorem dX12_chain_151 : decode cX12_chain 151 = .ok (.isub, 1) := by decide +kernel
theorem dX12_chain_152 : decode cX12_chain 152 = .ok (.istore 8, 2) := by decide +kernel
theorem dX12_chain_154 : decode cX12_chain 154 = .ok (.iload 8, 2) := by decide +kernel
theorem dX12_chain_156 : decode cX12_chain 156 = .ok (.ifCond .lt 42, 3) := by decide +kernel
theorem dX12_chain_159 : decode cX12_chain 159 = .ok (.aload_n 0, 1) := by decide +kernel
theorem dX12_chain_160 : decode cX12_chain 160 = .ok (.iload_n 3, 1) := by decide +kernel
theorem dX12_chain_161 : decode cX12_chain 161 = .ok (.iload 8, 2) := by decide +kernel
theorem dX12_chain_163 : decode cX12_chain 163 = .ok (.invokevirtual 246, 3) := by decide +kernel
theorem dX12_chain_166 : decode cX12_chain 166 = .ok (.ifCond .eq 22, 3) := by decide +kernel
theorem dX12_chain_169 : decode cX12_chain 169 = .ok (.aload_n 0, 1) := by decide +kernel
theorem dX12_chain_170 : decode cX12_chain 170 = .ok (.getfield 60, 3) := by decide +kernel
theorem dX12_chain_173 : decode cX12_chain 173 = .ok (.iload 8, 2) := by decide +kernel
theorem dX12_chain_175 : decode cX12_chain 175 = .ok (.iaload, 1) := by decide +kernel
theorem dX12_chain_176 : decode cX12_chain 176 = .ok (.iconst 1, 1) := by decide +kernel
theorem dX12_chain_177 : decode cX12_chain 177 = .ok (.iadd, 1) := by decide +kernel
theorem dX12_chain_178 : decode cX12_chain 178 = .ok (.iload 5, 2) := by decide +kernel
theorem dX12_chain_180 : decode cX12_chain 180 = .ok (.if_icmp .ne 8, 3) := by decide +kernel
theorem dX12_chain_183 : decode cX12_chain 183 = .ok (.iload 8, 2) := by decide +kernel
theorem dX12_chain_185 : decode cX12_chain 185 = .ok (.goto 5, 3) := by decide +kernel
theorem dX12_chain_188 : decode cX12_chain 188 = .ok (.iload 7, 2) := by decide +kernel
theorem dX12_chain_190 : decode cX12_chain 190 = .ok (.istore 7, 2) := by decide +kernel
theorem dX12_chain_192 : decode cX12_chain 192 = .ok (.iinc 8 (-1), 3) := by decide +kernel
theorem dX12_chain_195 : decode cX12_chain 195 = .ok (.goto (-41), 3) := by decide +kernel
theorem dX12_chain_198 : decode cX12_chain 198 = .ok (.iload 7, 2) := by decide +kernel
theorem dX12_chain_200 : decode cX12_chain 200 = .ok (.istore_n 3, 1) := by decide +kernel
theorem dX12_chain_201 : decode cX12_chain 201 = .ok (.iinc 5 (-1), 3) := by decide +kernel
theorem dX12_chain_204 : decode cX12_chain 204 = .ok (.iinc 6 1, 3) := by decide +kernel
theorem dX12_chain_207 : decode cX12_chain 207 = .ok (.goto (-70), 3) := by decide +kernel
theorem dX12_chain_210 : decode cX12_chain 210 = .ok (.iload_n 3, 1) := by decide +kernel
theorem dX12_chain_211 : decode cX12_chain 211 = .ok (.ireturn, 1) := by decide +kernel
theorem dX12_pair_0 : decode cX12_pair 0 = .ok (.iload_n 1, 1) := by decide +kernel
theorem dX12_pair_1 : decode cX12_pair 1 = .ok (.iconst 0, 1) := by decide +kernel
theorem dX12_pair_2 : decode cX12_pair 2 = .ok (.iconst 2, 1) := by decide +kernel
theorem dX12_pair_3 : decode cX12_pair 3 = .ok (.invokestatic 72, 3) := by decide +kernel
theorem dX12_pair_6 : decode cX12_pair 6 = .ok (.ifCond .ne 6, 3) := by decide +kernel
theorem dX12_pair_9 : decode cX12_pair 9 = .ok (.ldc 85, 2) := by decide +kernel
theorem dX12_pair_11 : decode cX12_pair 11 = .ok (.ireturn, 1) := by decide +kernel
theorem dX12_pair_12 : decode cX12_pair 12 = .ok (.iconst (-1), 1) := by decide +kernel
theorem dX12_pair_13 : decode cX12_pair 13 = .ok (.istore_n 2, 1) := by decide +kernel
theorem dX12_pair_14 : decode cX12_pair 14 = .ok (.iconst (-1), 1) := by decide +kernel
theorem dX12_pair_15 : decode cX12_pair 15 = .ok (.istore_n 3, 1) := by decide +kernel
theorem dX12_pair_16 : decode cX12_pair 16 = .ok (.iconst (-1), 1) := by decide +kernel
theorem dX12_pair_17 : decode cX12_pair 17 = .ok (.istore 4, 2) := by decide +kernel
theorem dX12_pair_19 : decode cX12_pair 19 = .ok (.iconst 0, 1) := by decide +kernel
theorem dX12_pair_20 : decode cX12_pair 20 = .ok (.istore 5, 2) := by decide +kernel
theorem dX12_pair_22 : decode cX12_pair 22 = .ok (.iload 5, 2) := by decide +kernel
theorem dX12_pair_24 : decode cX12_pair 24 = .ok (.aload_n 0, 1) := by decide +kernel
theorem dX12_pair_25 : decode cX12_pair 25 = .ok (.getfield 69, 3) := by decide +kernel
theorem dX12_pair_28 : decode cX12_pair 28 = .ok (.if_icmp .ge 81, 3) := by decide +kernel
theorem dX12_pair_31 : decode cX12_pair 31 = .ok (.iload 5, 2) := by decide +kernel
theorem dX12_pair_33 : decode cX12_pair 33 = .ok (.iconst 1, 1) := by decide +kernel
theorem dX12_pair_34 : decode cX12_pair 34 = .ok (.iadd, 1) := by decide +kernel
theorem dX12_pair_35 : decode cX12_pair 35 = .ok (.istore 6, 2) := by decide +kernel
theorem dX12_pair_37 : decode cX12_pair 37 = .ok (.iload 6, 2) := by decide +kernel
theorem dX12_pair_39 : decode cX12_pair 39 = .ok (.aload_n 0, 1) := by decide +kernel
theorem dX12_pair_40 : decode cX12_pair 40 = .ok (.getfield 69, 3) := by decide +kernel
theorem dX12_pair_43 : decode cX12_pair 43 = .ok (.if_icmp .ge 60, 3) := by decide +kernel
theorem dX12_pair_46 : decode cX12_pair 46 = .ok (.aload_n 0, 1) := by decide +kernel
theorem dX12_pair_47 : decode cX12_pair 47 = .ok (.aload_n 0, 1) := by decide +kernel
theorem dX12_pair_48 : decode cX12_pair 48 = .ok (.getfield 35, 3) := by decide +kernel
theorem dX12_pair_51 : decode cX12_pair 51 = .ok (.iload 5, 2) := by decide +kernel
theorem dX12_pair_53 : decode cX12_pair 53 = .ok (.invokevirtual 161, 3) := by decide +kernel
theorem dX12_pair_56 : decode cX12_pair 56 = .ok (.aload_n 0, 1) := by decide +kernel
theorem dX12_pair_57 : decode cX12_pair 57 = .ok (.aload_n 0, 1) := by decide +kernel
theorem dX12_pair_58 : decode cX12_pair 58 = .ok (.getfield 35, 3) := by decide +kernel
theorem dX12_pair_61 : decode cX12_pair 61 = .ok (.iload 6, 2) := by decide +kernel
theorem dX12_pair_63 : decode cX12_pair 63 = .ok (.invokevirtual 161, 3) := by decide +kernel
theorem dX12_pair_66 : decode cX12_pair 66 = .ok (.iadd, 1) := by decide +kernel
theorem dX12_pair_67 : decode cX12_pair 67 = .ok (.istore 7, 2) := by decide +kernel
theorem dX12_pair_69 : decode cX12_pair 69 = .ok (.aload_n 0, 1) := by decide +kernel
theorem dX12_pair_70 : decode cX12_pair 70 = .ok (.iload 5, 2) := by decide +kernel
theorem dX12_pair_72 : decode cX12_pair 72 = .ok (.iload 6, 2) := by decide +kernel
theorem dX12_pair_74 : decode cX12_pair 74 = .ok (.invokevirtual 216, 3) := by decide +kernel
theorem dX12_pair_77 : decode cX12_pair 77 = .ok (.ifCond .eq 20, 3) := by decide +kernel
theorem dX12_pair_80 : decode cX12_pair 80 = .ok (.iload 7, 2) := by decide +kernel
theorem dX12_pair_82 : decode cX12_pair 82 = .ok (.iload 4, 2) := by decide +kernel
theorem dX12_pair_84 : decode cX12_pair 84 = .ok (.if_icmp .le 13, 3) := by decide +kernel
theorem dX12_pair_87 : decode cX12_pair 87 = .ok (.iload 5, 2) := by decide +kernel
theorem dX12_pair_89 : decode cX12_pair 89 = .ok (.istore_n 2, 1) := by decide +kernel
theorem dX12_pair_90 : decode cX12_pair 90 = .ok (.iload 6, 2) := by decide +kernel
theorem dX12_pair_92 : decode cX12_pair 92 = .ok (.istore_n 3, 1) := by decide +kernel
theorem dX12_pair_93 : decode cX12_pair 93 = .ok (.iload 7, 2) := by decide +kernel
theorem dX12_pair_95 : decode cX12_pair 95 = .ok (.istore 4, 2) := by decide +kernel
theorem dX12_pair_97 : decode cX12_pair 97 = .ok (.iinc 6 1, 3) := by decide +kernel
theorem dX12_pair_100 : decode cX12_pair 100 = .ok (.goto (-63), 3) := by decide +kernel
theorem dX12_pair_103 : decode cX12_pair 103 = .ok (.iinc 5 1, 3) := by decide +kernel
theorem dX12_pair_106 : decode cX12_pair 106 = .ok (.goto (-84), 3) := by decide +kernel
theorem dX12_pair_109 : decode cX12_pair 109 = .ok (.iload_n 1, 1) := by decide +kernel
theorem dX12_pair_110 : decode cX12_pair 110 = .ok (.ifCond .ne 7, 3) := by decide +kernel
theorem dX12_pair_113 : decode cX12_pair 113 = .ok (.iload_n 2, 1) := by decide +kernel
theorem dX12_pair_114 : decode cX12_pair 114 = .ok (.goto 14, 3) := by decide +kernel
theorem dX12_pair_117 : decode cX12_pair 117 = .ok (.iload_n 1, 1) := by decide +kernel
theorem dX12_pair_118 : decode cX12_pair 118 = .ok (.iconst 1, 1) := by decide +kernel
theorem dX12_pair_119 : decode cX12_pair 119 = .ok (.if_icmp .ne 7, 3) := by decide +kernel
theorem dX12_pair_122 : decode cX12_pair 122 = .ok (.iload_n 3, 1) := by decide +kernel
theorem dX12_pair_123 : decode cX12_pair 123 = .ok (.goto 5, 3) := by decide +kernel
theorem dX12_pair_126 : decode cX12_pair 126 = .ok (.iload 4, 2) := by decide +kernel
theorem dX12_pair_128 : decode cX12_pair 128 = .ok (.ireturn, 1) := by decide +kernel
theorem dX12_owesOf_0 : decode cX12_owesOf 0 = .ok (.iconst 0, 1) := by decide +kernel
theorem dX12_owesOf_1 : decode cX12_owesOf 1 = .ok (.istore_n 2, 1) := by decide +kernel
theorem dX12_owesOf_2 : decode cX12_owesOf 2 = .ok (.iconst 0, 1) := by decide +kernel
theorem dX12_owesOf_3 : decode cX12_owesOf 3 = .ok (.istore_n 3, 1) := by decide +kernel
theorem dX12_owesOf_4 : decode cX12_owesOf 4 = .ok (.iload_n 3, 1) := by decide +kernel
theorem dX12_owesOf_5 : decode cX12_owesOf 5 = .ok (.aload_n 0, 1) := by decide +kernel
theorem dX12_owesOf_6 : decode cX12_owesOf 6 = .ok (.getfield 69, 3) := by decide +kernel
theorem dX12_owesOf_9 : decode cX12_owesOf 9 = .ok (.if_icmp .ge 21, 3) := by decide +kernel
theorem dX12_owesOf_12 : decode cX12_owesOf 12 = .ok (.iload_n 2, 1) := by decide +kernel
theorem dX12_owesOf_13 : decode cX12_owesOf 13 = .ok (.aload_n 0, 1) := by decide +kernel
theorem dX12_owesOf_14 : decode cX12_owesOf 14 = .ok (.getfield 35, 3) := by decide +kernel
theorem dX12_owesOf_17 : decode cX12_owesOf 17 = .ok (.bipush 13, 2) := by decide +kernel
theorem dX12_owesOf_19 : decode cX12_owesOf 19 = .ok (.iload_n 3, 1) := by decide +kernel
theorem dX12_owesOf_20 : decode cX12_owesOf 20 = .ok (.iadd, 1) := by decide +kernel
theorem dX12_owesOf_21 : decode cX12_owesOf 21 = .ok (.iaload, 1) := by decide +kernel
theorem dX12_owesOf_22 : decode cX12_owesOf 22 = .ok (.iadd, 1) := by decide +kernel
theorem dX12_owesOf_23 : decode cX12_owesOf 23 = .ok (.istore_n 2, 1) := by decide +kernel
theorem dX12_owesOf_24 : decode cX12_owesOf 24 = .ok (.iinc 3 1, 3) := by decide +kernel
theorem dX12_owesOf_27 : decode cX12_owesOf 27 = .ok (.goto (-23), 3) := by decide +kernel
theorem dX12_owesOf_30 : decode cX12_owesOf 30 = .ok (.aload_n 0, 1) := by decide +kernel
theorem dX12_owesOf_31 : decode cX12_owesOf 31 = .ok (.getfield 69, 3) := by decide +kernel
theorem dX12_owesOf_34 : decode cX12_owesOf 34 = .ok (.aload_n 0, 1) := by decide +kernel
theorem dX12_owesOf_35 : decode cX12_owesOf 35 = .ok (.getfield 35, 3) := by decide +kernel
theorem dX12_owesOf_38 : decode cX12_owesOf 38 = .ok (.bipush 13, 2) := by decide +kernel
theorem dX12_owesOf_40 : decode cX12_owesOf 40 = .ok (.iload_n 1, 1) := by decide +kernel
theorem dX12_owesOf_41 : decode cX12_owesOf 41 = .ok (.iadd, 1) := by decide +kernel
theorem dX12_owesOf_42 : decode cX12_owesOf 42 = .ok (.iaload, 1) := by decide +kernel
theorem dX12_owesOf_43 : decode cX12_owesOf 43 = .ok (.imul, 1) := by decide +kernel
theorem dX12_owesOf_44 : decode cX12_owesOf 44 = .ok (.iload_n 2, 1) := by decide +kernel
theorem dX12_owesOf_45 : decode cX12_owesOf 45 = .ok (.isub, 1) := by decide +kernel
theorem dX12_owesOf_46 : decode cX12_owesOf 46 = .ok (.ireturn, 1) := by decide +kernel
theorem dX12_owes_0 : decode cX12_owes 0 = .ok (.aload_n 0, 1) := by decide +kernel
theorem dX12_owes_1 : decode cX12_owes 1 = .ok (.iload_n 1, 1) := by decide +kernel
theorem dX12_owes_2 : decode cX12_owes 2 = .ok (.invokevirtual 177, 3) := by decide +kernel
theorem dX12_owes_5 : decode cX12_owes 5 = .ok (.ifCond .eq 11, 3) := by decide +kernel
theorem dX12_owes_8 : decode cX12_owes 8 = .ok (.aload_n 0, 1) := by decide +kernel
theorem dX12_owes_9 : decode cX12_owes 9 = .ok (.iload_n 1, 1) := by decide +kernel
theorem dX12_owes_10 : decode cX12_owes 10 = .ok (.invokevirtual 252, 3) := by decide +kernel
theorem dX12_owes_13 : decode cX12_owes 13 = .ok (.goto 5, 3) := by decide +kernel
theorem dX12_owes_16 : decode cX12_owes 16 = .ok (.ldc 180, 2) := by decide +kernel
theorem dX12_owes_18 : decode cX12_owes 18 = .ok (.ireturn, 1) := by decide +kernel
theorem dX12_payments_0 : decode cX12_payments 0 = .ok (.iconst 0, 1) := by decide +kernel
theorem dX12_payments_1 : decode cX12_payments 1 = .ok (.istore_n 1, 1) := by decide +kernel
theorem dX12_payments_2 : decode cX12_payments 2 = .ok (.iconst 0, 1) := by decide +kernel
theorem dX12_payments_3 : decode cX12_payments 3 = .ok (.istore_n 2, 1) := by decide +kernel
theorem dX12_payments_4 : decode cX12_payments 4 = .ok (.iload_n 2, 1) := by decide +kernel
theorem dX12_payments_5 : decode cX12_payments 5 = .ok (.aload_n 0, 1) := by decide +kernel
theorem dX12_payments_6 : decode cX12_payments 6 = .ok (.getfield 69, 3) := by decide +kernel
theorem dX12_payments_9 : decode cX12_payments 9 = .ok (.if_icmp .ge 25, 3) := by decide +kernel
theorem dX12_payments_12 : decode cX12_payments 12 = .ok (.iload_n 1, 1) := by decide +kernel
theorem dX12_payments_13 : decode cX12_payments 13 = .ok (.aload_n 0, 1) := by decide +kernel
theorem dX12_payments_14 : decode cX12_payments 14 = .ok (.iload_n 2, 1) := by decide +kernel
theorem dX12_payments_15 : decode cX12_payments 15 = .ok (.invokevirtual 252, 3) := by decide +kernel
theorem dX12_payments_18 : decode cX12_payments 18 = .ok (.ifCond .ne 7, 3) := by decide +kernel
theorem dX12_payments_21 : decode cX12_payments 21 = .ok (.iconst 0, 1) := by decide +kernel
theorem dX12_payments_22 : decode cX12_payments 22 = .ok (.goto 4, 3) := by decide +kernel
theorem dX12_payments_25 : decode cX12_payments 25 = .ok (.iconst 1, 1) := by decide +kernel
theorem dX12_payments_26 : decode cX12_payments 26 = .ok (.iadd, 1) := by decide +kernel
theorem dX12_payments_27 : decode cX12_payments 27 = .ok (.istore_n 1, 1) := by decide +kernel
theorem dX12_payments_28 : decode cX12_payments 28 = .ok (.iinc 2 1, 3) := by decide +kernel
theorem dX12_payments_31 : decode cX12_payments 31 = .ok (.goto (-27), 3) := by decide +kernel
theorem dX12_payments_34 : decode cX12_payments 34 = .ok (.iconst 1, 1) := by decide +kernel
theorem dX12_payments_35 : decode cX12_payments 35 = .ok (.aload_n 0, 1) := by decide +kernel
theorem dX12_payments_36 : decode cX12_payments 36 = .ok (.getfield 69, 3) := by decide +kernel
theorem dX12_payments_39 : decode cX12_payments 39 = .ok (.ishl, 1) := by decide +kernel
theorem dX12_payments_40 : decode cX12_payments 40 = .ok (.iconst 1, 1) := by decide +kernel
theorem dX12_payments_41 : decode cX12_payments 41 = .ok (.isub, 1) := by decide +kernel
theorem dX12_payments_42 : decode cX12_payments 42 = .ok (.istore_n 2, 1) := by decide +kernel
theorem dX12_payments_43 : decode cX12_payments 43 = .ok (.iconst 0, 1) := by decide +kernel
theorem dX12_payments_44 : decode cX12_payments 44 = .ok (.istore_n 3, 1) := by decide +kernel
theorem dX12_payments_45 : decode cX12_payments 45 = .ok (.iload_n 3, 1) := by decide +kernel
theorem dX12_payments_46 : decode cX12_payments 46 = .ok (.iload_n 2, 1) := by decide +kernel
theorem dX12_payments_47 : decode cX12_payments 47 = .ok (.if_icmp .gt 184, 3) := by decide +kernel
theorem dX12_payments_50 : decode cX12_payments 50 = .ok (.iconst 0, 1) := by decide +kernel
theorem dX12_payments_51 : decode cX12_payments 51 = .ok (.istore 4, 2) := by decide +kernel
theorem dX12_payments_53 : decode cX12_payments 53 = .ok (.iconst 0, 1) := by decide +kernel
theorem dX12_payments_54 : decode cX12_payments 54 = .ok (.istore 5, 2) := by decide +kernel
theorem dX12_payments_56 : decode cX12_payments 56 = .ok (.iconst 0, 1) := by decide +kernel
theorem dX12_payments_57 : decode cX12_payments 57 = .ok (.istore 6, 2) := by decide +kernel
theorem dX12_payments_59 : decode cX12_payments 59 = .ok (.iload 6, 2) := by decide +kernel
theorem dX12_payments_61 : decode cX12_payments 61 = .ok (.aload_n 0, 1) := by decide +kernel
theorem dX12_payments_62 : decode cX12_payments 62 = .ok (.getfield 69, 3) := by decide +kernel
theorem dX12_payments_65 : decode cX12_payments 65 = .ok (.if_icmp .ge 80, 3) := by decide +kernel
theorem dX12_payments_68 : decode cX12_payments 68 = .ok (.iload 4, 2) := by decide +kernel
theorem dX12_payments_70 : decode cX12_payments 70 = .ok (.iload_n 3, 1) := by decide +kernel
theorem dX12_payments_71 : decode cX12_payments 71 = .ok (.iload 6, 2) := by decide +kernel
theorem dX12_payments_73 : decode cX12_payments 73 = .ok (.invokestatic 192, 3) := by decide +kernel
theorem dX12_payments_76 : decode cX12_payments 76 = .ok (.ifCond .eq 12, 3) := by decide +kernel
theorem dX12_payments_79 : decode cX12_payments 79 = .ok (.aload_n 0, 1) := by decide +kernel
theorem dX12_payments_80 : decode cX12_payments 80 = .ok (.iload 6, 2) := by decide +kernel
theorem dX12_payments_82 : decode cX12_payments 82 = .ok (.invokevirtual 252, 3) := by decide +kernel
theorem dX12_payments_85 : decode cX12_payments 85 = .ok (.goto 4, 3) := by decide +kernel
theorem dX12_payments_88 : decode cX12_payments 88 = .ok (.iconst 0, 1) := by decide +kernel
theorem dX12_payments_89 : decode cX12_payments 89 = .ok (.iadd, 1) := by decide +kernel
theorem dX12_payments_90 : decode cX12_payments 90 = .ok (.istore 4, 2) := by decide +kernel
theorem dX12_payments_92 : decode cX12_payments 92 = .ok (.iload_n 3, 1) := by decide +kernel
theorem dX12_payments_93 : decode cX12_payments 93 = .ok (.iload 6, 2) := by decide +kernel
theorem dX12_payments_95 : decode cX12_payments 95 = .ok (.invokestatic 192, 3) := by decide +kernel
theorem dX12_payments_98 : decode cX12_payments 98 = .ok (.ifCond .eq 37, 3) := by decide +kernel
theorem dX12_payments_101 : decode cX12_payments 101 = .ok (.aload_n 0, 1) := by decide +kernel
theorem dX12_payments_102 : decode cX12_payments 102 = .ok (.getfield 63, 3) := by decide +kernel
theorem dX12_payments_105 : decode cX12_payments 105 = .ok (.iload_n 3, 1) := by decide +kernel
theorem dX12_payments_106 : decode cX12_payments 106 = .ok (.iconst 1, 1) := by decide +kernel
theorem dX12_payments_107 : decode cX12_payments 107 = .ok (.iload 6, 2) := by decide +kernel
theorem dX12_payments_109 : decode cX12_payments 109 = .ok (.ishl, 1) := by decide +kernel
theorem dX12_payments_110 : decode cX12_payments 110 = .ok (.iconst (-1), 1) := by decide +kernel
theorem dX12_payments_111 : decode cX12_payments 111 = .ok (.ixor, 1) := by decide +kernel
theorem dX12_payments_112 : decode cX12_payments 112 = .ok (.iand, 1) := by decide +kernel
theorem dX12_payments_113 : decode cX12_payments 113 = .ok (.iaload, 1) := by decide +kernel
theorem dX12_payments_114 : decode cX12_payments 114 = .ok (.iload 5, 2) := by decide +kernel
theorem dX12_payments_116 : decode cX12_payments 116 = .ok (.if_icmp .le 19, 3) := by decide +kernel
theorem dX12_payments_119 : decode cX12_payments 119 = .ok (.aload_n 0, 1) := by decide +kernel
theorem dX12_payments_120 : decode cX12_payments 120 = .ok (.getfield 63, 3) := by decide +kernel
theorem dX12_payments_123 : decode cX12_payments 123 = .ok (.iload_n 3, 1) := by decide +kernel
theorem dX12_payments_124 : decode cX12_payments 124 = .ok (.iconst 1, 1) := by decide +kernel
theorem dX12_payments_125 : decode cX12_payments 125 = .ok (.iload 6, 2) := by decide +kernel
theorem dX12_payments_127 : decode cX12_payments 127 = .ok (.ishl, 1) := by decide +kernel
theorem dX12_payments_128 : decode cX12_payments 128 = .ok (.iconst (-1), 1) := by decide +kernel
theorem dX12_payments_129 : decode cX12_payments 129 = .ok (.ixor, 1) := by decide +kernel
theorem dX12_payments_130 : decode cX12_payments 130 = .ok (.iand, 1) := by decide +kernel
theorem dX12_payments_131 : decode cX12_payments 131 = .ok (.iaload, 1) := by decide +kernel
theorem dX12_payments_132 : decode cX12_payments 132 = .ok (.goto 5, 3) := by decide +kernel
theorem dX12_payments_135 : decode cX12_payments 135 = .ok (.iload 5, 2) := by decide +kernel
theorem dX12_payments_137 : decode cX12_payments 137 = .ok (.istore 5, 2) := by decide +kernel
theorem dX12_payments_139 : decode cX12_payments 139 = .ok (.iinc 6 1, 3) := by decide +kernel
theorem dX12_payments_142 : decode cX12_payments 142 = .ok (.goto (-83), 3) := by decide +kernel
theorem dX12_payments_145 : decode cX12_payments 145 = .ok (.iconst 0, 1) := by decide +kernel
theorem dX12_payments_146 : decode cX12_payments 146 = .ok (.istore 6, 2) := by decide +kernel
theorem dX12_payments_148 : decode cX12_payments 148 = .ok (.iconst 0, 1) := by decide +kernel
theorem dX12_payments_149 : decode cX12_payments 149 = .ok (.istore 7, 2) := by decide +kernel
theorem dX12_payments_151 : decode cX12_payments 151 = .ok (.iload 7, 2) := by decide +kernel
theorem dX12_payments_153 : decode cX12_payments 153 = .ok (.aload_n 0, 1) := by decide +kernel
theorem dX12_payments_154 : decode cX12_payments 154 = .ok (.getfield 69, 3) := by decide +kernel
theorem dX12_payments_157 : decode cX12_payments 157 = .ok (.if_icmp .ge 39, 3) := by decide +kernel
theorem dX12_payments_160 : decode cX12_payments 160 = .ok (.iload 6, 2) := by decide +kernel
theorem dX12_payments_162 : decode cX12_payments 162 = .ok (.ifCond .ne 21, 3) := by decide +kernel
theorem dX12_payments_165 : decode cX12_payments 165 = .ok (.iload_n 3, 1) := by decide +kernel
theorem dX12_payments_166 : decode cX12_payments 166 = .ok (.iload 7, 2) := by decide +kernel
theorem dX12_payments_168 : decode cX12_payments 168 = .ok (.invokestatic 192, 3) := by decide +kernel
theorem dX12_payments_171 : decode cX12_payments 171 = .ok (.ifCond .eq 16, 3) := by decide +kernel
theorem dX12_payments_174 : decode cX12_payments 174 = .ok (.aload_n 0, 1) := by decide +kernel
theorem dX12_payments_175 : decode cX12_payments 175 = .ok (.iload 7, 2) := by decide +kernel
theorem dX12_payments_177 : decode cX12_payments 177 = .ok (.invokevirtual 252, 3) := by decide +kernel
theorem dX12_payments_180 : decode cX12_payments 180 = .ok (.ifCond .ne 7, 3) := by decide +kernel
theorem dX12_payments_183 : decode cX12_payments 183 = .ok (.iconst 1, 1) := by decide +kernel
theorem dX12_payments_184 : decode cX12_payments 184 = .ok (.goto 4, 3) := by decide +kernel
theorem dX12_payments_187 : decode cX12_payments 187 = .ok (.iconst 0, 1) := by decide +kernel
theorem dX12_payments_188 : decode cX12_payments 188 = .ok (.istore 6, 2) := by decide +kernel
theorem dX12_payments_190 : decode cX12_payments 190 = .ok (.iinc 7 1, 3) := by decide +kernel
theorem dX12_payments_193 : decode cX12_payments 193 = .ok (.goto (-42), 3) := by decide +kernel
theorem dX12_payments_196 : decode cX12_payments 196 = .ok (.aload_n 0, 1) := by decide +kernel
theorem dX12_payments_197 : decode cX12_payments 197 = .ok (.getfield 63, 3) := by decide +kernel
theorem dX12_payments_200 : decode cX12_payments 200 = .ok (.iload_n 3, 1) := by decide +kernel
theorem dX12_payments_201 : decode cX12_payments 201 = .ok (.iload 4, 2) := by decide +kernel
theorem dX12_payments_203 : decode cX12_payments 203 = .ok (.ifCond .ne 19, 3) := by decide +kernel
theorem dX12_payments_206 : decode cX12_payments 206 = .ok (.iload_n 3, 1) := by decide +kernel
theorem dX12_payments_207 : decode cX12_payments 207 = .ok (.ifCond .eq 15, 3) := by decide +kernel
theorem dX12_payments_210 : decode cX12_payments 210 = .ok (.iload 6, 2) := by decide +kernel
theorem dX12_payments_212 : decode cX12_payments 212 = .ok (.ifCond .ne 10, 3) := by decide +kernel
theorem dX12_payments_215 : decode cX12_payments 215 = .ok (.iload 5, 2) := by decide +kernel
theorem dX12_payments_217 : decode cX12_payments 217 = .ok (.iconst 1, 1) := by decide +kernel
theorem dX12_payments_218 : decode cX12_payments 218 = .ok (.iadd, 1) := by decide +kernel
theorem dX12_payments_219 : decode cX12_payments 219 = .ok (.goto 5, 3) := by decide +kernel
theorem dX12_payments_222 : decode cX12_payments 222 = .ok (.iload 5, 2) := by decide +kernel
theorem dX12_payments_224 : decode cX12_payments 224 = .ok (.iastore, 1) := by decide +kernel
theorem dX12_payments_225 : decode cX12_payments 225 = .ok (.iinc 3 1, 3) := by decide +kernel
theorem dX12_payments_228 : decode cX12_payments 228 = .ok (.goto (-183), 3) := by decide +kernel
theorem dX12_payments_231 : decode cX12_payments 231 = .ok (.iload_n 2, 1) := by decide +kernel
theorem dX12_payments_232 : decode cX12_payments 232 = .ok (.istore_n 3, 1) := by decide +kernel
theorem dX12_payments_233 : decode cX12_payments 233 = .ok (.iconst 0, 1) := by decide +kernel
theorem dX12_payments_234 : decode cX12_payments 234 = .ok (.istore 4, 2) := by decide +kernel
theorem dX12_payments_236 : decode cX12_payments 236 = .ok (.iload 4, 2) := by decide +kernel
theorem dX12_payments_238 : decode cX12_payments 238 = .ok (.aload_n 0, 1) := by decide +kernel
theorem dX12_payments_239 : decode cX12_payments 239 = .ok (.getfield 69, 3) := by decide +kernel
theorem dX12_payments_242 : decode cX12_payments 242 = .ok (.if_icmp .ge 31, 3) := by decide +kernel
theorem dX12_payments_245 : decode cX12_payments 245 = .ok (.aload_n 0, 1) := by decide +kernel
theorem dX12_payments_246 : decode cX12_payments 246 = .ok (.iload 4, 2) := by decide +kernel
theorem dX12_payments_248 : decode cX12_payments 248 = .ok (.invokevirtual 252, 3) := by decide +kernel
theorem dX12_payments_251 : decode cX12_payments 251 = .ok (.ifCond .ne 14, 3) := by decide +kernel
theorem dX12_payments_254 : decode cX12_payments 254 = .ok (.iload_n 3, 1) := by decide +kernel
theorem dX12_payments_255 : decode cX12_payments 255 = .ok (.iconst 1, 1) := by decide +kernel
theorem dX12_payments_256 : decode cX12_payments 256 = .ok (.iload 4, 2) := by decide +kernel
theorem dX12_payments_258 : decode cX12_payments 258 = .ok (.ishl, 1) := by decide +kernel
theorem dX12_payments_259 : decode cX12_payments 259 = .ok (.iconst (-1), 1) := by decide +kernel
theorem dX12_payments_260 : decode cX12_payments 260 = .ok (.ixor, 1) := by decide +kernel
theorem dX12_payments_261 : decode cX12_payments 261 = .ok (.iand, 1) := by decide +kernel
theorem dX12_payments_262 : decode cX12_payments 262 = .ok (.goto 4, 3) := by decide +kernel
theorem dX12_payments_265 : decode cX12_payments 265 = .ok (.iload_n 3, 1) := by decide +kernel
theorem dX12_payments_266 : decode cX12_payments 266 = .ok (.istore_n 3, 1) := by decide +kernel
theorem dX12_payments_267 : decode cX12_payments 267 = .ok (.iinc 4 1, 3) := by decide +kernel
theorem dX12_payments_270 : decode cX12_payments 270 = .ok (.goto (-34), 3) := by decide +kernel
theorem dX12_payments_273 : decode cX12_payments 273 = .ok (.iload_n 1, 1) := by decide +kernel
theorem dX12_payments_274 : decode cX12_payments 274 = .ok (.aload_n 0, 1) := by decide +kernel
theorem dX12_payments_275 : decode cX12_payments 275 = .ok (.getfield 63, 3) := by decide +kernel
theorem dX12_payments_278 : decode cX12_payments 278 = .ok (.iload_n 3, 1) := by decide +kernel
theorem dX12_payments_279 : decode cX12_payments 279 = .ok (.iaload, 1) := by decide +kernel
theorem dX12_payments_280 : decode cX12_payments 280 = .ok (.isub, 1) := by decide +kernel
theorem dX12_payments_281 : decode cX12_payments 281 = .ok (.ireturn, 1) := by decide +kernel
theorem dX12_sons_0 : decode cX12_sons 0 = .ok (.aload_n 0, 1) := by decide +kernel
theorem dX12_sons_1 : decode cX12_sons 1 = .ok (.iload_n 1, 1) := by decide +kernel
theorem dX12_sons_2 : decode cX12_sons 2 = .ok (.invokevirtual 177, 3) := by decide +kernel
theorem dX12_sons_5 : decode cX12_sons 5 = .ok (.ifCond .ne 6, 3) := by decide +kernel
theorem dX12_sons_8 : decode cX12_sons 8 = .ok (.ldc 180, 2) := by decide +kernel
theorem dX12_sons_10 : decode cX12_sons 10 = .ok (.ireturn, 1) := by decide +kernel
theorem dX12_sons_11 : decode cX12_sons 11 = .ok (.iconst 0, 1) := by decide +kernel
theorem dX12_sons_12 : decode cX12_sons 12 = .ok (.istore_n 2, 1) := by decide +kernel
theorem dX12_sons_13 : decode cX12_sons 13 = .ok (.iconst 0, 1) := by decide +kernel
theorem dX12_sons_14 : decode cX12_sons 14 = .ok (.istore_n 3, 1) := by decide +kernel
theorem dX12_sons_15 : decode cX12_sons 15 = .ok (.iload_n 3, 1) := by decide +kernel
theorem dX12_sons_16 : decode cX12_sons 16 = .ok (.aload_n 0, 1) := by decide +kernel
theorem dX12_sons_17 : decode cX12_sons 17 = .ok (.getfield 69, 3) := by decide +kernel
theorem dX12_sons_20 : decode cX12_sons 20 = .ok (.if_icmp .ge 53, 3) := by decide +kernel
theorem dX12_sons_23 : decode cX12_sons 23 = .ok (.iload_n 3, 1) := by decide +kernel
theorem dX12_sons_24 : decode cX12_sons 24 = .ok (.istore 4, 2) := by decide +kernel
theorem dX12_sons_26 : decode cX12_sons 26 = .ok (.iload 4, 2) := by decide +kernel
theorem dX12_sons_28 : decode cX12_sons 28 = .ok (.iconst (-1), 1) := by decide +kernel
theorem dX12_sons_29 : decode cX12_sons 29 = .ok (.if_icmp .eq 20, 3) := by decide +kernel
theorem dX12_sons_32 : decode cX12_sons 32 = .ok (.iload 4, 2) := by decide +kernel
theorem dX12_sons_34 : decode cX12_sons 34 = .ok (.iload_n 1, 1) := by decide +kernel
theorem dX12_sons_35 : decode cX12_sons 35 = .ok (.if_icmp .eq 14, 3) := by decide +kernel
theorem dX12_sons_38 : decode cX12_sons 38 = .ok (.aload_n 0, 1) := by decide +kernel
theorem dX12_sons_39 : decode cX12_sons 39 = .ok (.iload 4, 2) := by decide +kernel
theorem dX12_sons_41 : decode cX12_sons 41 = .ok (.invokevirtual 206, 3) := by decide +kernel
theorem dX12_sons_44 : decode cX12_sons 44 = .ok (.istore 4, 2) := by decide +kernel
theorem dX12_sons_46 : decode cX12_sons 46 = .ok (.goto (-20), 3) := by decide +kernel
theorem dX12_sons_49 : decode cX12_sons 49 = .ok (.iload_n 2, 1) := by decide +kernel
theorem dX12_sons_50 : decode cX12_sons 50 = .ok (.iload 4, 2) := by decide +kernel
theorem dX12_sons_52 : decode cX12_sons 52 = .ok (.iload_n 1, 1) := by decide +kernel
theorem dX12_sons_53 : decode cX12_sons 53 = .ok (.if_icmp .ne 11, 3) := by decide +kernel
theorem dX12_sons_56 : decode cX12_sons 56 = .ok (.aload_n 0, 1) := by decide +kernel
theorem dX12_sons_57 : decode cX12_sons 57 = .ok (.iload_n 3, 1) := by decide +kernel
theorem dX12_sons_58 : decode cX12_sons 58 = .ok (.invokevirtual 252, 3) := by decide +kernel
theorem dX12_sons_61 : decode cX12_sons 61 = .ok (.goto 4, 3) := by decide +kernel
theorem dX12_sons_64 : decode cX12_sons 64 = .ok (.iconst 0, 1) := by decide +kernel
theorem dX12_sons_65 : decode cX12_sons 65 = .ok (.iadd, 1) := by decide +kernel
theorem dX12_sons_66 : decode cX12_sons 66 = .ok (.istore_n 2, 1) := by decide +kernel
theorem dX12_sons_67 : decode cX12_sons 67 = .ok (.iinc 3 1, 3) := by decide +kernel
theorem dX12_sons_70 : decode cX12_sons 70 = .ok (.goto (-55), 3) := by decide +kernel
theorem dX12_sons_73 : decode cX12_sons 73 = .ok (.iload_n 2, 1) := by decide +kernel
theorem dX12_sons_74 : decode cX12_sons 74 = .ok (.ireturn, 1) := by decide +kernel
theorem dX12_words_0 : decode cX12_words 0 = .ok (.iload_n 1, 1) := by decide +kernel
theorem dX12_words_1 : decode cX12_words 1 = .ok (.iconst 0, 1) := by decide +kernel
theorem dX12_words_2 : decode cX12_words 2 = .ok (.bipush 9, 2) := by decide +kernel
theorem dX12_words_4 : decode cX12_words 4 = .ok (.invokestatic 72, 3) := by decide +kernel
theorem dX12_words_7 : decode cX12_words 7 = .ok (.ifCond .eq 44, 3) := by decide +kernel
theorem dX12_words_10 : decode cX12_words 10 = .ok (.iload_n 2, 1) := by decide +kernel
theorem dX12_words_11 : decode cX12_words 11 = .ok (.iconst 0, 1) := by decide +kernel
theorem dX12_words_12 : decode cX12_words 12 = .ok (.bipush 9, 2) := by decide +kernel
theorem dX12_words_14 : decode cX12_words 14 = .ok (.invokestatic 72, 3) := by decide +kernel
theorem dX12_words_17 : decode cX12_words 17 = .ok (.ifCond .eq 34, 3) := by decide +kernel
theorem dX12_words_20 : decode cX12_words 20 = .ok (.iload_n 3, 1) := by decide +kernel
theorem dX12_words_21 : decode cX12_words 21 = .ok (.iconst 0, 1) := by decide +kernel
theorem dX12_words_22 : decode cX12_words 22 = .ok (.bipush 9, 2) := by decide +kernel
theorem dX12_words_24 : decode cX12_words 24 = .ok (.invokestatic 72, 3) := by decide +kernel
theorem dX12_words_27 : decode cX12_words 27 = .ok (.ifCond .eq 24, 3) := by decide +kernel
theorem dX12_words_30 : decode cX12_words 30 = .ok (.iload 4, 2) := by decide +kernel
theorem dX12_words_32 : decode cX12_words 32 = .ok (.iconst 0, 1) := by decide +kernel
theorem dX12_words_33 : decode cX12_words 33 = .ok (.bipush 9, 2) := by decide +kernel
theorem dX12_words_35 : decode cX12_words 35 = .ok (.invokestatic 72, 3) := by decide +kernel
theorem dX12_words_38 : decode cX12_words 38 = .ok (.ifCond .eq 13, 3) := by decide +kernel
theorem dX12_words_41 : decode cX12_words 41 = .ok (.iload 5, 2) := by decide +kernel
theorem dX12_words_43 : decode cX12_words 43 = .ok (.iconst 0, 1) := by decide +kernel
theorem dX12_words_44 : decode cX12_words 44 = .ok (.iconst 3, 1) := by decide +kernel
theorem dX12_words_45 : decode cX12_words 45 = .ok (.invokestatic 72, 3) := by decide +kernel
theorem dX12_words_48 : decode cX12_words 48 = .ok (.ifCond .ne 6, 3) := by decide +kernel
theorem dX12_words_51 : decode cX12_words 51 = .ok (.ldc 85, 2) := by decide +kernel
theorem dX12_words_53 : decode cX12_words 53 = .ok (.ireturn, 1) := by decide +kernel
theorem dX12_words_54 : decode cX12_words 54 = .ok (.iconst 0, 1) := by decide +kernel
theorem dX12_words_55 : decode cX12_words 55 = .ok (.istore 6, 2) := by decide +kernel
theorem dX12_words_57 : decode cX12_words 57 = .ok (.iconst 1, 1) := by decide +kernel
theorem dX12_words_58 : decode cX12_words 58 = .ok (.istore 7, 2) := by decide +kernel
theorem dX12_words_60 : decode cX12_words 60 = .ok (.iload_n 3, 1) := by decide +kernel
theorem dX12_words_61 : decode cX12_words 61 = .ok (.iload 4, 2) := by decide +kernel
theorem dX12_words_63 : decode cX12_words 63 = .ok (.if_icmp .ge 7, 3) := by decide +kernel
theorem dX12_words_66 : decode cX12_words 66 = .ok (.iload_n 3, 1) := by decide +kernel
theorem dX12_words_67 : decode cX12_words 67 = .ok (.goto 5, 3) := by decide +kernel
theorem dX12_words_70 : decode cX12_words 70 = .ok (.iload 4, 2) := by decide +kernel
theorem dX12_words_72 : decode cX12_words 72 = .ok (.istore 8, 2) := by decide +kernel
theorem dX12_words_74 : decode cX12_words 74 = .ok (.iconst 1, 1) := by decide +kernel
theorem dX12_words_75 : decode cX12_words 75 = .ok (.istore 9, 2) := by decide +kernel
theorem dX12_words_77 : decode cX12_words 77 = .ok (.iload_n 1, 1) := by decide +kernel
theorem dX12_words_78 : decode cX12_words 78 = .ok (.iload_n 3, 1) := by decide +kernel
theorem dX12_words_79 : decode cX12_words 79 = .ok (.isub, 1) := by decide +kernel
theorem dX12_words_80 : decode cX12_words 80 = .ok (.iload_n 2, 1) := by decide +kernel
theorem dX12_words_81 : decode cX12_words 81 = .ok (.isub, 1) := by decide +kernel
theorem dX12_words_82 : decode cX12_words 82 = .ok (.iload 4, 2) := by decide +kernel
theorem dX12_words_84 : decode cX12_words 84 = .ok (.iadd, 1) := by decide +kernel
theorem dX12_words_85 : decode cX12_words 85 = .ok (.istore 10, 2) := by decide +kernel
theorem dX12_words_87 : decode cX12_words 87 = .ok (.iload 4, 2) := by decide +kernel
theorem dX12_words_89 : decode cX12_words 89 = .ok (.iload_n 3, 1) := by decide +kernel
theorem dX12_words_90 : decode cX12_words 90 = .ok (.isub, 1) := by decide +kernel
theorem dX12_words_91 : decode cX12_words 91 = .ok (.istore 11, 2) := by decide +kernel
theorem dX12_words_93 : decode cX12_words 93 = .ok (.iload 10, 2) := by decide +kernel
theorem dX12_words_95 : decode cX12_words 95 = .ok (.ifCond .ge 13, 3) := by decide +kernel
theorem dX12_words_98 : decode cX12_words 98 = .ok (.iload 10, 2) := by decide +kernel
theorem dX12_words_100 : decode cX12_words 100 = .ok (.ineg, 1) := by decide +kernel
theorem dX12_words_101 : decode cX12_words 101 = .ok (.istore 10, 2) := by decide +kernel
theorem dX12_words_103 : decode cX12_words 103 = .ok (.iload 11, 2) := by decide +kernel
theorem dX12_words_105 : decode cX12_words 105 = .ok (.ineg, 1) := by decide +kernel
theorem dX12_words_106 : decode cX12_words 106 = .ok (.istore 11, 2) := by decide +kernel
theorem dX12_words_108 : decode cX12_words 108 = .ok (.iload 10, 2) := by decide +kernel
theorem dX12_words_110 : decode cX12_words 110 = .ok (.ifCond .le 54, 3) := by decide +kernel
theorem dX12_words_113 : decode cX12_words 113 = .ok (.iload 11, 2) := by decide +kernel
theorem dX12_words_115 : decode cX12_words 115 = .ok (.ifCond .le 49, 3) := by decide +kernel
theorem dX12_words_118 : decode cX12_words 118 = .ok (.iload 11, 2) := by decide +kernel
theorem dX12_words_120 : decode cX12_words 120 = .ok (.iload 10, 2) := by decide +kernel
theorem dX12_words_122 : decode cX12_words 122 = .ok (.if_icmp .ge 42, 3) := by decide +kernel
theorem dX12_words_125 : decode cX12_words 125 = .ok (.iload_n 3, 1) := by decide +kernel
theorem dX12_words_126 : decode cX12_words 126 = .ok (.iload 10, 2) := by decide +kernel
theorem dX12_words_128 : decode cX12_words 128 = .ok (.imul, 1) := by decide +kernel
theorem dX12_words_129 : decode cX12_words 129 = .ok (.iload 11, 2) := by decide +kernel
theorem dX12_words_131 : decode cX12_words 131 = .ok (.iload_n 1, 1) := by decide +kernel
theorem dX12_words_132 : decode cX12_words 132 = .ok (.iload_n 3, 1) := by decide +kernel
theorem dX12_words_133 : decode cX12_words 133 = .ok (.isub, 1) := by decide +kernel
theorem dX12_words_134 : decode cX12_words 134 = .ok (.imul, 1) := by decide +kernel
theorem dX12_words_135 : decode cX12_words 135 = .ok (.iadd, 1) := by decide +kernel
theorem dX12_words_136 : decode cX12_words 136 = .ok (.istore 12, 2) := by decide +kernel
theorem dX12_words_138 : decode cX12_words 138 = .ok (.iload 12, 2) := by decide +kernel
theorem dX12_words_140 : decode cX12_words 140 = .ok (.iload 8, 2) := by decide +kernel
theorem dX12_words_142 : decode cX12_words 142 = .ok (.iload 10, 2) := by decide +kernel
theorem dX12_words_144 : decode cX12_words 144 = .ok (.imul, 1) := by decide +kernel
theorem dX12_words_145 : decode cX12_words 145 = .ok (.if_icmp .le 19, 3) := by decide +kernel
theorem dX12_words_148 : decode cX12_words 148 = .ok (.iload 11, 2) := by decide +kernel
theorem dX12_words_150 : decode cX12_words 150 = .ok (.istore 6, 2) := by decide +kernel
theorem dX12_words_152 : decode cX12_words 152 = .ok (.iload 10, 2) := by decide +kernel
theorem dX12_words_154 : decode cX12_words 154 = .ok (.istore 7, 2) := by decide +kernel
theorem dX12_words_156 : decode cX12_words 156 = .ok (.iload 12, 2) := by decide +kernel
theorem dX12_words_158 : decode cX12_words 158 = .ok (.istore 8, 2) := by decide +kernel
theorem dX12_words_160 : decode cX12_words 160 = .ok (.iload 10, 2) := by decide +kernel
theorem dX12_words_162 : decode cX12_words 162 = .ok (.istore 9, 2) := by decide +kernel
theorem dX12_words_164 : decode cX12_words 164 = .ok (.iload_n 1, 1) := by decide +kernel
theorem dX12_words_165 : decode cX12_words 165 = .ok (.iload_n 2, 1) := by decide +kernel
theorem dX12_words_166 : decode cX12_words 166 = .ok (.if_icmp .ge 7, 3) := by decide +kernel
theorem dX12_words_169 : decode cX12_words 169 = .ok (.iload_n 1, 1) := by decide +kernel
theorem dX12_words_170 : decode cX12_words 170 = .ok (.goto 4, 3) := by decide +kernel
theorem dX12_words_173 : decode cX12_words 173 = .ok (.iload_n 2, 1) := by decide +kernel
theorem dX12_words_174 : decode cX12_words 174 = .ok (.istore 12, 2) := by decide +kernel
theorem dX12_words_176 : decode cX12_words 176 = .ok (.iload 12, 2) := by decide +kernel
theorem dX12_words_178 : decode cX12_words 178 = .ok (.iload 9, 2) := by decide +kernel
theorem dX12_words_180 : decode cX12_words 180 = .ok (.imul, 1) := by decide +kernel
theorem dX12_words_181 : decode cX12_words 181 = .ok (.iload 8, 2) := by decide +kernel
theorem dX12_words_183 : decode cX12_words 183 = .ok (.if_icmp .le 16, 3) := by decide +kernel
theorem dX12_words_186 : decode cX12_words 186 = .ok (.iconst 1, 1) := by decide +kernel
theorem dX12_words_187 : decode cX12_words 187 = .ok (.istore 6, 2) := by decide +kernel
theorem dX12_words_189 : decode cX12_words 189 = .ok (.iconst 1, 1) := by decide +kernel
theorem dX12_words_190 : decode cX12_words 190 = .ok (.istore 7, 2) := by decide +kernel
theorem dX12_words_192 : decode cX12_words 192 = .ok (.iload 12, 2) := by decide +kernel
theorem dX12_words_194 : decode cX12_words 194 = .ok (.istore 8, 2) := by decide +kernel
theorem dX12_words_196 : decode cX12_words 196 = .ok (.iconst 1, 1) := by decide +kernel
theorem dX12_words_197 : decode cX12_words 197 = .ok (.istore 9, 2) := by decide +kernel
theorem dX12_words_199 : decode cX12_words 199 = .ok (.iload 5, 2) := by decide +kernel
theorem dX12_words_201 : decode cX12_words 201 = .ok (.iconst 2, 1) := by decide +kernel
theorem dX12_words_202 : decode cX12_words 202 = .ok (.if_icmp .ge 8, 3) := by decide +kernel
theorem dX12_words_205 : decode cX12_words 205 = .ok (.iload 8, 2) := by decide +kernel
theorem dX12_words_207 : decode cX12_words 207 = .ok (.goto 5, 3) := by decide +kernel
theorem dX12_words_210 : decode cX12_words 210 = .ok (.iload 6, 2) := by decide +kernel
theorem dX12_words_212 : decode cX12_words 212 = .ok (.istore 13, 2) := by decide +kernel
theorem dX12_words_214 : decode cX12_words 214 = .ok (.iload 5, 2) := by decide +kernel
theorem dX12_words_216 : decode cX12_words 216 = .ok (.iconst 2, 1) := by decide +kernel
theorem dX12_words_217 : decode cX12_words 217 = .ok (.if_icmp .ge 8, 3) := by decide +kernel
theorem dX12_words_220 : decode cX12_words 220 = .ok (.iload 9, 2) := by decide +kernel
theorem dX12_words_222 : decode cX12_words 222 = .ok (.goto 5, 3) := by decide +kernel
theorem dX12_words_225 : decode cX12_words 225 = .ok (.iload 7, 2) := by decide +kernel
theorem dX12_words_227 : decode cX12_words 227 = .ok (.istore 14, 2) := by decide +kernel
theorem dX12_words_229 : decode cX12_words 229 = .ok (.iload 14, 2) := by decide +kernel
theorem dX12_words_231 : decode cX12_words 231 = .ok (.istore 15, 2) := by decide +kernel
theorem dX12_words_233 : decode cX12_words 233 = .ok (.iload 13, 2) := by decide +kernel
theorem dX12_words_235 : decode cX12_words 235 = .ok (.istore 16, 2) := by decide +kernel
theorem dX12_words_237 : decode cX12_words 237 = .ok (.iload 16, 2) := by decide +kernel
theorem dX12_words_239 : decode cX12_words 239 = .ok (.ifCond .eq 21, 3) := by decide +kernel
theorem dX12_words_242 : decode cX12_words 242 = .ok (.iload 15, 2) := by decide +kernel
theorem dX12_words_244 : decode cX12_words 244 = .ok (.iload 16, 2) := by decide +kernel
theorem dX12_words_246 : decode cX12_words 246 = .ok (.irem, 1) := by decide +kernel
theorem dX12_words_247 : decode cX12_words 247 = .ok (.istore 17, 2) := by decide +kernel
theorem dX12_words_249 : decode cX12_words 249 = .ok (.iload 16, 2) := by decide +kernel
theorem dX12_words_251 : decode cX12_words 251 = .ok (.istore 15, 2) := by decide +kernel
theorem dX12_words_253 : decode cX12_words 253 = .ok (.iload 17, 2) := by decide +kernel
theorem dX12_words_255 : decode cX12_words 255 = .ok (.istore 16, 2) := by decide +kernel
theorem dX12_words_257 : decode cX12_words 257 = .ok (.goto (-20), 3) := by decide +kernel
theorem dX12_words_260 : decode cX12_words 260 = .ok (.iload 5, 2) := by decide +kernel
theorem dX12_words_262 : decode cX12_words 262 = .ok (.iconst 2, 1) := by decide +kernel
theorem dX12_words_263 : decode cX12_words 263 = .ok (.irem, 1) := by decide +kernel
theorem dX12_words_264 : decode cX12_words 264 = .ok (.ifCond .ne 8, 3) := by decide +kernel
theorem dX12_words_267 : decode cX12_words 267 = .ok (.iload 13, 2) := by decide +kernel
theorem dX12_words_269 : decode cX12_words 269 = .ok (.goto 5, 3) := by decide +kernel
theorem dX12_words_272 : decode cX12_words 272 = .ok (.iload 14, 2) := by decide +kernel
theorem dX12_words_274 : decode cX12_words 274 = .ok (.iload 15, 2) := by decide +kernel
theorem dX12_words_276 : decode cX12_words 276 = .ok (.idiv, 1) := by decide +kernel
theorem dX12_words_277 : decode cX12_words 277 = .ok (.ireturn, 1) := by decide +kernel
theorem dX12_pillar_0 : decode cX12_pillar 0 = .ok (.iload_n 1, 1) := by decide +kernel
theorem dX12_pillar_1 : decode cX12_pillar 1 = .ok (.iconst 1, 1) := by decide +kernel
theorem dX12_pillar_2 : decode cX12_pillar 2 = .ok (.bipush 30, 2) := by decide +kernel
theorem dX12_pillar_4 : decode cX12_pillar 4 = .ok (.invokestatic 72, 3) := by decide +kernel
theorem dX12_pillar_7 : decode cX12_pillar 7 = .ok (.ifCond .eq 13, 3) := by decide +kernel
theorem dX12_pillar_10 : decode cX12_pillar 10 = .ok (.iload_n 2, 1) := by decide +kernel
theorem dX12_pillar_11 : decode cX12_pillar 11 = .ok (.iconst 1, 1) := by decide +kernel
theorem dX12_pillar_12 : decode cX12_pillar 12 = .ok (.bipush 40, 2) := by decide +kernel
theorem dX12_pillar_14 : decode cX12_pillar 14 = .ok (.invokestatic 72, 3) := by decide +kernel
theorem dX12_pillar_17 : decode cX12_pillar 17 = .ok (.ifCond .ne 6, 3) := by decide +kernel
theorem dX12_pillar_20 : decode cX12_pillar 20 = .ok (.ldc 85, 2) := by decide +kernel
theorem dX12_pillar_22 : decode cX12_pillar 22 = .ok (.ireturn, 1) := by decide +kernel
theorem dX12_pillar_23 : decode cX12_pillar 23 = .ok (.aload_n 0, 1) := by decide +kernel
theorem dX12_pillar_24 : decode cX12_pillar 24 = .ok (.invokevirtual 181, 3) := by decide +kernel
theorem dX12_pillar_27 : decode cX12_pillar 27 = .ok (.ifCond .ne 6, 3) := by decide +kernel
theorem dX12_pillar_30 : decode cX12_pillar 30 = .ok (.ldc 184, 2) := by decide +kernel
theorem dX12_pillar_32 : decode cX12_pillar 32 = .ok (.ireturn, 1) := by decide +kernel
theorem dX12_pillar_33 : decode cX12_pillar 33 = .ok (.aload_n 0, 1) := by decide +kernel
theorem dX12_pillar_34 : decode cX12_pillar 34 = .ok (.getfield 35, 3) := by decide +kernel
theorem dX12_pillar_37 : decode cX12_pillar 37 = .ok (.iconst 0, 1) := by decide +kernel
theorem dX12_pillar_38 : decode cX12_pillar 38 = .ok (.aload_n 0, 1) := by decide +kernel
theorem dX12_pillar_39 : decode cX12_pillar 39 = .ok (.getfield 38, 3) := by decide +kernel
theorem dX12_pillar_42 : decode cX12_pillar 42 = .ok (.iconst 0, 1) := by decide +kernel
theorem dX12_pillar_43 : decode cX12_pillar 43 = .ok (.invokestatic 173, 3) := by decide +kernel
theorem dX12_pillar_46 : decode cX12_pillar 46 = .ok (.iconst 0, 1) := by decide +kernel
theorem dX12_pillar_47 : decode cX12_pillar 47 = .ok (.istore_n 3, 1) := by decide +kernel
theorem dX12_pillar_48 : decode cX12_pillar 48 = .ok (.iload_n 3, 1) := by decide +kernel
theorem dX12_pillar_49 : decode cX12_pillar 49 = .ok (.iload_n 2, 1) := by decide +kernel
theorem dX12_pillar_50 : decode cX12_pillar 50 = .ok (.if_icmp .ge 18, 3) := by decide +kernel
theorem dX12_pillar_53 : decode cX12_pillar 53 = .ok (.aload_n 0, 1) := by decide +kernel
theorem dX12_pillar_54 : decode cX12_pillar 54 = .ok (.aload_n 0, 1) := by decide +kernel
theorem dX12_pillar_55 : decode cX12_pillar 55 = .ok (.getfield 38, 3) := by decide +kernel
theorem dX12_pillar_58 : decode cX12_pillar 58 = .ok (.iconst 0, 1) := by decide +kernel
theorem dX12_pillar_59 : decode cX12_pillar 59 = .ok (.invokevirtual 188, 3) := by decide +kernel
theorem dX12_pillar_62 : decode cX12_pillar 62 = .ok (.iinc 3 1, 3) := by decide +kernel
theorem dX12_pillar_65 : decode cX12_pillar 65 = .ok (.goto (-17), 3) := by decide +kernel
theorem dX12_pillar_68 : decode cX12_pillar 68 = .ok (.aload_n 0, 1) := by decide +kernel
theorem dX12_pillar_69 : decode cX12_pillar 69 = .ok (.getfield 38, 3) := by decide +kernel
theorem dX12_pillar_72 : decode cX12_pillar 72 = .ok (.iconst 2, 1) := by decide +kernel
theorem dX12_pillar_73 : decode cX12_pillar 73 = .ok (.iaload, 1) := by decide +kernel
theorem dX12_pillar_74 : decode cX12_pillar 74 = .ok (.istore_n 3, 1) := by decide +kernel
theorem dX12_pillar_75 : decode cX12_pillar 75 = .ok (.aload_n 0, 1) := by decide +kernel
theorem dX12_pillar_76 : decode cX12_pillar 76 = .ok (.getfield 35, 3) := by decide +kernel
theorem dX12_pillar_79 : decode cX12_pillar 79 = .ok (.iconst 0, 1) := by decide +kernel
theorem dX12_pillar_80 : decode cX12_pillar 80 = .ok (.aload_n 0, 1) := by decide +kernel
theorem dX12_pillar_81 : decode cX12_pillar 81 = .ok (.getfield 38, 3) := by decide +kernel
theorem dX12_pillar_84 : decode cX12_pillar 84 = .ok (.iconst 0, 1) := by decide +kernel
theorem dX12_pillar_85 : decode cX12_pillar 85 = .ok (.invokestatic 173, 3) := by decide +kernel
theorem dX12_pillar_88 : decode cX12_pillar 88 = .ok (.iconst 0, 1) := by decide +kernel
theorem dX12_pillar_89 : decode cX12_pillar 89 = .ok (.istore 4, 2) := by decide +kernel
theorem dX12_pillar_91 : decode cX12_pillar 91 = .ok (.iload 4, 2) := by decide +kernel
theorem dX12_pillar_93 : decode cX12_pillar 93 = .ok (.iload_n 2, 1) := by decide +kernel
theorem dX12_pillar_94 : decode cX12_pillar 94 = .ok (.if_icmp .ge 18, 3) := by decide +kernel
theorem dX12_pillar_97 : decode cX12_pillar 97 = .ok (.aload_n 0, 1) := by decide +kernel
theorem dX12_pillar_98 : decode cX12_pillar 98 = .ok (.aload_n 0, 1) := by decide +kernel
theorem dX12_pillar_99 : decode cX12_pillar 99 = .ok (.getfield 38, 3) := by decide +kernel
theorem dX12_pillar_102 : decode cX12_pillar 102 = .ok (.iload_n 1, 1) := by decide +kernel
theorem dX12_pillar_103 : decode cX12_pillar 103 = .ok (.invokevirtual 188, 3) := by decide +kernel
theorem dX12_pillar_106 : decode cX12_pillar 106 = .ok (.iinc 4 1, 3) := by decide +kernel
theorem dX12_pillar_109 : decode cX12_pillar 109 = .ok (.goto (-18), 3) := by decide +kernel
theorem dX12_pillar_112 : decode cX12_pillar 112 = .ok (.iload_n 3, 1) := by decide +kernel
theorem dX12_pillar_113 : decode cX12_pillar 113 = .ok (.aload_n 0, 1) := by decide +kernel
theorem dX12_pillar_114 : decode cX12_pillar 114 = .ok (.getfield 38, 3) := by decide +kernel
theorem dX12_pillar_117 : decode cX12_pillar 117 = .ok (.iconst 2, 1) := by decide +kernel
theorem dX12_pillar_118 : decode cX12_pillar 118 = .ok (.iaload, 1) := by decide +kernel
theorem dX12_pillar_119 : decode cX12_pillar 119 = .ok (.isub, 1) := by decide +kernel
theorem dX12_pillar_120 : decode cX12_pillar 120 = .ok (.ireturn, 1) := by decide +kernel
theorem dX12_see_0 : decode cX12_see 0 = .ok (.iload_n 1, 1) := by decide +kernel
theorem dX12_see_1 : decode cX12_see 1 = .ok (.iconst 0, 1) := by decide +kernel
theorem dX12_see_2 : decode cX12_see 2 = .ok (.bipush 99, 2) := by decide +kernel
theorem dX12_see_4 : decode cX12_see 4 = .ok (.invokestatic 72, 3) := by decide +kernel
theorem dX12_see_7 : decode cX12_see 7 = .ok (.ifCond .ne 6, 3) := by decide +kernel
theorem dX12_see_10 : decode cX12_see 10 = .ok (.ldc 85, 2) := by decide +kernel
theorem dX12_see_12 : decode cX12_see 12 = .ok (.ireturn, 1) := by decide +kernel
theorem dX12_see_13 : decode cX12_see 13 = .ok (.aload_n 0, 1) := by decide +kernel
theorem dX12_see_14 : decode cX12_see 14 = .ok (.getfield 79, 3) := by decide +kernel
theorem dX12_see_17 : decode cX12_see 17 = .ok (.iconst 5, 1) := by decide +kernel
theorem dX12_see_18 : decode cX12_see 18 = .ok (.if_icmp .ne 6, 3) := by decide +kernel
theorem dX12_see_21 : decode cX12_see 21 = .ok (.ldc 89, 2) := by decide +kernel
theorem dX12_see_23 : decode cX12_see 23 = .ok (.ireturn, 1) := by decide +kernel
theorem dX12_see_24 : decode cX12_see 24 = .ok (.aload_n 0, 1) := by decide +kernel
theorem dX12_see_25 : decode cX12_see 25 = .ok (.getfield 51, 3) := by decide +kernel
theorem dX12_see_28 : decode cX12_see 28 = .ok (.aload_n 0, 1) := by decide +kernel
theorem dX12_see_29 : decode cX12_see 29 = .ok (.getfield 79, 3) := by decide +kernel
theorem dX12_see_32 : decode cX12_see 32 = .ok (.iload_n 1, 1) := by decide +kernel
theorem dX12_see_33 : decode cX12_see 33 = .ok (.iastore, 1) := by decide +kernel
theorem dX12_see_34 : decode cX12_see 34 = .ok (.aload_n 0, 1) := by decide +kernel
theorem dX12_see_35 : decode cX12_see 35 = .ok (.dup, 1) := by decide +kernel
theorem dX12_see_36 : decode cX12_see 36 = .ok (.getfield 79, 3) := by decide +kernel
theorem dX12_see_39 : decode cX12_see 39 = .ok (.iconst 1, 1) := by decide +kernel
theorem dX12_see_40 : decode cX12_see 40 = .ok (.iadd, 1) := by decide +kernel
theorem dX12_see_41 : decode cX12_see 41 = .ok (.putfield 79, 3) := by decide +kernel
theorem dX12_see_44 : decode cX12_see 44 = .ok (.aload_n 0, 1) := by decide +kernel
theorem dX12_see_45 : decode cX12_see 45 = .ok (.getfield 79, 3) := by decide +kernel
theorem dX12_see_48 : decode cX12_see 48 = .ok (.ireturn, 1) := by decide +kernel
theorem dX12_isAsSeen_0 : decode cX12_isAsSeen 0 = .ok (.aload_n 0, 1) := by decide +kernel
theorem dX12_isAsSeen_1 : decode cX12_isAsSeen 1 = .ok (.getfield 35, 3) := by decide +kernel
theorem dX12_isAsSeen_4 : decode cX12_isAsSeen 4 = .ok (.iconst 0, 1) := by decide +kernel
theorem dX12_isAsSeen_5 : decode cX12_isAsSeen 5 = .ok (.aload_n 0, 1) := by decide +kernel
theorem dX12_isAsSeen_6 : decode cX12_isAsSeen 6 = .ok (.getfield 38, 3) := by decide +kernel
theorem dX12_isAsSeen_9 : decode cX12_isAsSeen 9 = .ok (.iconst 0, 1) := by decide +kernel
theorem dX12_isAsSeen_10 : decode cX12_isAsSeen 10 = .ok (.invokestatic 173, 3) := by decide +kernel
theorem dX12_isAsSeen_13 : decode cX12_isAsSeen 13 = .ok (.iconst 0, 1) := by decide +kernel
theorem dX12_isAsSeen_14 : decode cX12_isAsSeen 14 = .ok (.istore_n 1, 1) := by decide +kernel
theorem dX12_isAsSeen_15 : decode cX12_isAsSeen 15 = .ok (.iload_n 1, 1) := by decide +kernel
theorem dX12_isAsSeen_16 : decode cX12_isAsSeen 16 = .ok (.aload_n 0, 1) := by decide +kernel
theorem dX12_isAsSeen_17 : decode cX12_isAsSeen 17 = .ok (.getfield 79, 3) := by decide +kernel
theorem dX12_isAsSeen_20 : decode cX12_isAsSeen 20 = .ok (.if_icmp .ge 54, 3) := by decide +kernel
theorem dX12_isAsSeen_23 : decode cX12_isAsSeen 23 = .ok (.aload_n 0, 1) := by decide +kernel
theorem dX12_isAsSeen_24 : decode cX12_isAsSeen 24 = .ok (.getfield 38, 3) := by decide +kernel
theorem dX12_isAsSeen_27 : decode cX12_isAsSeen 27 = .ok (.iconst 4, 1) := by decide +kernel
theorem dX12_isAsSeen_28 : decode cX12_isAsSeen 28 = .ok (.aload_n 0, 1) := by decide +kernel
theorem dX12_isAsSeen_29 : decode cX12_isAsSeen 29 = .ok (.getfield 57, 3) := by decide +kernel
theorem dX12_isAsSeen_32 : decode cX12_isAsSeen 32 = .ok (.iload_n 1, 1) := by decide +kernel
theorem dX12_isAsSeen_33 : decode cX12_isAsSeen 33 = .ok (.iaload, 1) := by decide +kernel
theorem dX12_isAsSeen_34 : decode cX12_isAsSeen 34 = .ok (.iastore, 1) := by decide +kernel
theorem dX12_isAsSeen_35 : decode cX12_isAsSeen 35 = .ok (.aload_n 0, 1) := by decide +kernel
theorem dX12_isAsSeen_36 : decode cX12_isAsSeen 36 = .ok (.getfield 38, 3) := by decide +kernel
theorem dX12_isAsSeen_39 : decode cX12_isAsSeen 39 = .ok (.iconst 5, 1) := by decide +kernel
theorem dX12_isAsSeen_40 : decode cX12_isAsSeen 40 = .ok (.iconst (-1), 1) := by decide +kernel
theorem dX12_isAsSeen_41 : decode cX12_isAsSeen 41 = .ok (.iastore, 1) := by decide +kernel
theorem dX12_isAsSeen_42 : decode cX12_isAsSeen 42 = .ok (.aload_n 0, 1) := by decide +kernel
theorem dX12_isAsSeen_43 : decode cX12_isAsSeen 43 = .ok (.aload_n 0, 1) := by decide +kernel
theorem dX12_isAsSeen_44 : decode cX12_isAsSeen 44 = .ok (.getfield 38, 3) := by decide +kernel
theorem dX12_isAsSeen_47 : decode cX12_isAsSeen 47 = .ok (.iconst 0, 1) := by decide +kernel
theorem dX12_isAsSeen_48 : decode cX12_isAsSeen 48 = .ok (.invokevirtual 188, 3) := by decide +kernel
theorem dX12_isAsSeen_51 : decode cX12_isAsSeen 51 = .ok (.aload_n 0, 1) := by decide +kernel
theorem dX12_isAsSeen_52 : decode cX12_isAsSeen 52 = .ok (.getfield 38, 3) := by decide +kernel
theorem dX12_isAsSeen_55 : decode cX12_isAsSeen 55 = .ok (.iconst 1, 1) := by decide +kernel
theorem dX12_isAsSeen_56 : decode cX12_isAsSeen 56 = .ok (.iaload, 1) := by decide +kernel
theorem dX12_isAsSeen_57 : decode cX12_isAsSeen 57 = .ok (.aload_n 0, 1) := by decide +kernel
theorem dX12_isAsSeen_58 : decode cX12_isAsSeen 58 = .ok (.getfield 51, 3) := by decide +kernel
theorem dX12_isAsSeen_61 : decode cX12_isAsSeen 61 = .ok (.iload_n 1, 1) := by decide +kernel
theorem dX12_isAsSeen_62 : decode cX12_isAsSeen 62 = .ok (.iaload, 1) := by decide +kernel
theorem dX12_isAsSeen_63 : decode cX12_isAsSeen 63 = .ok (.if_icmp .eq 5, 3) := by decide +kernel
theorem dX12_isAsSeen_66 : decode cX12_isAsSeen 66 = .ok (.iconst 0, 1) := by decide +kernel
theorem dX12_isAsSeen_67 : decode cX12_isAsSeen 67 = .ok (.ireturn, 1) := by decide +kernel
theorem dX12_isAsSeen_68 : decode cX12_isAsSeen 68 = .ok (.iinc 1 1, 3) := by decide +kernel
theorem dX12_isAsSeen_71 : decode cX12_isAsSeen 71 = .ok (.goto (-56), 3) := by decide +kernel
theorem dX12_isAsSeen_74 : decode cX12_isAsSeen 74 = .ok (.iconst 1, 1) := by decide +kernel
theorem dX12_isAsSeen_75 : decode cX12_isAsSeen 75 = .ok (.ireturn, 1) := by decide +kernel
theorem dX12_who_0 : decode cX12_who 0 = .ok (.aload_n 0, 1) := by decide +kernel
theorem dX12_who_1 : decode cX12_who 1 = .ok (.invokevirtual 181, 3) := by decide +kernel
theorem dX12_who_4 : decode cX12_who 4 = .ok (.ifCond .ne 6, 3) := by decide +kernel
theorem dX12_who_7 : decode cX12_who 7 = .ok (.ldc 184, 2) := by decide +kernel
theorem dX12_who_9 : decode cX12_who 9 = .ok (.ireturn, 1) := by decide +kernel
theorem dX12_who_10 : decode cX12_who 10 = .ok (.iconst 0, 1) := by decide +kernel
theorem dX12_who_11 : decode cX12_who 11 = .ok (.istore_n 2, 1) := by decide +kernel
theorem dX12_who_12 : decode cX12_who 12 = .ok (.aload_n 0, 1) := by decide +kernel
theorem dX12_who_13 : decode cX12_who 13 = .ok (.getfield 69, 3) := by decide +kernel
theorem dX12_who_16 : decode cX12_who 16 = .ok (.aload_n 0, 1) := by decide +kernel
theorem dX12_who_17 : decode cX12_who 17 = .ok (.getfield 79, 3) := by decide +kernel
theorem dX12_who_20 : decode cX12_who 20 = .ok (.invokestatic 229, 3) := by decide +kernel
theorem dX12_who_23 : decode cX12_who 23 = .ok (.iconst 1, 1) := by decide +kernel
theorem dX12_who_24 : decode cX12_who 24 = .ok (.isub, 1) := by decide +kernel
theorem dX12_who_25 : decode cX12_who 25 = .ok (.istore_n 3, 1) := by decide +kernel
theorem dX12_who_26 : decode cX12_who 26 = .ok (.iload_n 3, 1) := by decide +kernel
theorem dX12_who_27 : decode cX12_who 27 = .ok (.ifCond .lt 60, 3) := by decide +kernel
theorem dX12_who_30 : decode cX12_who 30 = .ok (.aload_n 0, 1) := by decide +kernel
theorem dX12_who_31 : decode cX12_who 31 = .ok (.iload_n 3, 1) := by decide +kernel
theorem dX12_who_32 : decode cX12_who 32 = .ok (.aload_n 0, 1) := by decide +kernel
theorem dX12_who_33 : decode cX12_who 33 = .ok (.getfield 79, 3) := by decide +kernel
theorem dX12_who_36 : decode cX12_who 36 = .ok (.invokevirtual 233, 3) := by decide +kernel
theorem dX12_who_39 : decode cX12_who 39 = .ok (.aload_n 0, 1) := by decide +kernel
theorem dX12_who_40 : decode cX12_who 40 = .ok (.invokevirtual 255, 3) := by decide +kernel
theorem dX12_who_43 : decode cX12_who 43 = .ok (.ifCond .eq 38, 3) := by decide +kernel
theorem dX12_who_46 : decode cX12_who 46 = .ok (.iinc 2 1, 3) := by decide +kernel
theorem dX12_who_49 : decode cX12_who 49 = .ok (.iconst 0, 1) := by decide +kernel
theorem dX12_who_50 : decode cX12_who 50 = .ok (.istore 4, 2) := by decide +kernel
theorem dX12_who_52 : decode cX12_who 52 = .ok (.iload 4, 2) := by decide +kernel
theorem dX12_who_54 : decode cX12_who 54 = .ok (.aload_n 0, 1) := by decide +kernel
theorem dX12_who_55 : decode cX12_who 55 = .ok (.getfield 79, 3) := by decide +kernel
theorem dX12_who_58 : decode cX12_who 58 = .ok (.if_icmp .ge 23, 3) := by decide +kernel
theorem dX12_who_61 : decode cX12_who 61 = .ok (.aload_n 0, 1) := by decide +kernel
theorem dX12_who_62 : decode cX12_who 62 = .ok (.getfield 60, 3) := by decide +kernel
theorem dX12_who_65 : decode cX12_who 65 = .ok (.iload 4, 2) := by decide +kernel
theorem dX12_who_67 : decode cX12_who 67 = .ok (.aload_n 0, 1) := by decide +kernel
theorem dX12_who_68 : decode cX12_who 68 = .ok (.getfield 57, 3) := by decide +kernel
theorem dX12_who_71 : decode cX12_who 71 = .ok (.iload 4, 2) := by decide +kernel
theorem dX12_who_73 : decode cX12_who 73 = .ok (.iaload, 1) := by decide +kernel
theorem dX12_who_74 : decode cX12_who 74 = .ok (.iastore, 1) := by decide +kernel
theorem dX12_who_75 : decode cX12_who 75 = .ok (.iinc 4 1, 3) := by decide +kernel
theorem dX12_who_78 : decode cX12_who 78 = .ok (.goto (-26), 3) := by decide +kernel
theorem dX12_who_81 : decode cX12_who 81 = .ok (.iinc 3 (-1), 3) := by decide +kernel
theorem dX12_who_84 : decode cX12_who 84 = .ok (.goto (-58), 3) := by decide +kernel
theorem dX12_who_87 : decode cX12_who 87 = .ok (.iload_n 1, 1) := by decide +kernel
theorem dX12_who_88 : decode cX12_who 88 = .ok (.iconst (-1), 1) := by decide +kernel
theorem dX12_who_89 : decode cX12_who 89 = .ok (.if_icmp .ne 7, 3) := by decide +kernel
theorem dX12_who_92 : decode cX12_who 92 = .ok (.iload_n 2, 1) := by decide +kernel
theorem dX12_who_93 : decode cX12_who 93 = .ok (.goto 31, 3) := by decide +kernel
theorem dX12_who_96 : decode cX12_who 96 = .ok (.iload_n 2, 1) := by decide +kernel
theorem dX12_who_97 : decode cX12_who 97 = .ok (.ifCond .eq 17, 3) := by decide +kernel
theorem dX12_who_100 : decode cX12_who 100 = .ok (.iload_n 1, 1) := by decide +kernel
theorem dX12_who_101 : decode cX12_who 101 = .ok (.iconst 0, 1) := by decide +kernel
theorem dX12_who_102 : decode cX12_who 102 = .ok (.aload_n 0, 1) := by decide +kernel
theorem dX12_who_103 : decode cX12_who 103 = .ok (.getfield 79, 3) := by decide +kernel
theorem dX12_who_106 : decode cX12_who 106 = .ok (.iconst 1, 1) := by decide +kernel
theorem dX12_who_107 : decode cX12_who 107 = .ok (.isub, 1) := by decide +kernel
theorem dX12_who_108 : decode cX12_who 108 = .ok (.invokestatic 72, 3) := by decide +kernel
theorem dX12_who_111 : decode cX12_who 111 = .ok (.ifCond .ne 7, 3) := by decide +kernel
theorem dX12_who_114 : decode cX12_who 114 = .ok (.iconst (-1), 1) := by decide +kernel
theorem dX12_who_115 : decode cX12_who 115 = .ok (.goto 9, 3) := by decide +kernel
theorem dX12_who_118 : decode cX12_who 118 = .ok (.aload_n 0, 1) := by decide +kernel
theorem dX12_who_119 : decode cX12_who 119 = .ok (.getfield 60, 3) := by decide +kernel
theorem dX12_who_122 : decode cX12_who 122 = .ok (.iload_n 1, 1) := by decide +kernel
theorem dX12_who_123 : decode cX12_who 123 = .ok (.iaload, 1) := by decide +kernel
theorem dX12_who_124 : decode cX12_who 124 = .ok (.ireturn, 1) := by decide +kernel
theorem dX12_sure_0 : decode cX12_sure 0 = .ok (.aload_n 0, 1) := by decide +kernel
theorem dX12_sure_1 : decode cX12_sure 1 = .ok (.invokevirtual 181, 3) := by decide +kernel
theorem dX12_sure_4 : decode cX12_sure 4 = .ok (.ifCond .ne 6, 3) := by decide +kernel
theorem dX12_sure_7 : decode cX12_sure 7 = .ok (.ldc 184, 2) := by decide +kernel
theorem dX12_sure_9 : decode cX12_sure 9 = .ok (.ireturn, 1) := by decide +kernel
theorem dX12_sure_10 : decode cX12_sure 10 = .ok (.iconst 1, 1) := by decide +kernel
theorem dX12_sure_11 : decode cX12_sure 11 = .ok (.aload_n 0, 1) := by decide +kernel
theorem dX12_sure_12 : decode cX12_sure 12 = .ok (.getfield 69, 3) := by decide +kernel
theorem dX12_sure_15 : decode cX12_sure 15 = .ok (.ishl, 1) := by decide +kernel
theorem dX12_sure_16 : decode cX12_sure 16 = .ok (.iconst 1, 1) := by decide +kernel
theorem dX12_sure_17 : decode cX12_sure 17 = .ok (.isub, 1) := by decide +kernel
theorem dX12_sure_18 : decode cX12_sure 18 = .ok (.istore_n 1, 1) := by decide +kernel
theorem dX12_sure_19 : decode cX12_sure 19 = .ok (.iconst 0, 1) := by decide +kernel
theorem dX12_sure_20 : decode cX12_sure 20 = .ok (.istore_n 2, 1) := by decide +kernel
theorem dX12_sure_21 : decode cX12_sure 21 = .ok (.iconst 0, 1) := by decide +kernel
theorem dX12_sure_22 : decode cX12_sure 22 = .ok (.istore_n 3, 1) := by decide +kernel
theorem dX12_sure_23 : decode cX12_sure 23 = .ok (.iload_n 3, 1) := by decide +kernel
theorem dX12_sure_24 : decode cX12_sure 24 = .ok (.aload_n 0, 1) := by decide +kernel
theorem dX12_sure_25 : decode cX12_sure 25 = .ok (.getfield 69, 3) := by decide +kernel
theorem dX12_sure_28 : decode cX12_sure 28 = .ok (.aload_n 0, 1) := by decide +kernel
theorem dX12_sure_29 : decode cX12_sure 29 = .ok (.getfield 79, 3) := by decide +kernel
theorem dX12_sure_32 : decode cX12_sure 32 = .ok (.invokestatic 229, 3) := by decide +kernel
theorem dX12_sure_35 : decode cX12_sure 35 = .ok (.if_icmp .ge 68, 3) := by decide +kernel
theorem dX12_sure_38 : decode cX12_sure 38 = .ok (.aload_n 0, 1) := by decide +kernel
theorem dX12_sure_39 : decode cX12_sure 39 = .ok (.iload_n 3, 1) := by decide +kernel
theorem dX12_sure_40 : decode cX12_sure 40 = .ok (.aload_n 0, 1) := by decide +kernel
theorem dX12_sure_41 : decode cX12_sure 41 = .ok (.getfield 79, 3) := by decide +kernel
theorem dX12_sure_44 : decode cX12_sure 44 = .ok (.invokevirtual 233, 3) := by decide +kernel
theorem dX12_sure_47 : decode cX12_sure 47 = .ok (.aload_n 0, 1) := by decide +kernel
theorem dX12_sure_48 : decode cX12_sure 48 = .ok (.invokevirtual 255, 3) := by decide +kernel
theorem dX12_sure_51 : decode cX12_sure 51 = .ok (.ifCond .eq 46, 3) := by decide +kernel
theorem dX12_sure_54 : decode cX12_sure 54 = .ok (.iconst 0, 1) := by decide +kernel
theorem dX12_sure_55 : decode cX12_sure 55 = .ok (.istore 4, 2) := by decide +kernel
theorem dX12_sure_57 : decode cX12_sure 57 = .ok (.iconst 0, 1) := by decide +kernel
theorem dX12_sure_58 : decode cX12_sure 58 = .ok (.istore 5, 2) := by decide +kernel
theorem dX12_sure_60 : decode cX12_sure 60 = .ok (.iload 5, 2) := by decide +kernel
theorem dX12_sure_62 : decode cX12_sure 62 = .ok (.aload_n 0, 1) := by decide +kernel
theorem dX12_sure_63 : decode cX12_sure 63 = .ok (.getfield 79, 3) := by decide +kernel
theorem dX12_sure_66 : decode cX12_sure 66 = .ok (.if_icmp .ge 23, 3) := by decide +kernel
theorem dX12_sure_69 : decode cX12_sure 69 = .ok (.iload 4, 2) := by decide +kernel
theorem dX12_sure_71 : decode cX12_sure 71 = .ok (.iconst 1, 1) := by decide +kernel
theorem dX12_sure_72 : decode cX12_sure 72 = .ok (.aload_n 0, 1) := by decide +kernel
theorem dX12_sure_73 : decode cX12_sure 73 = .ok (.getfield 57, 3) := by decide +kernel
theorem dX12_sure_76 : decode cX12_sure 76 = .ok (.iload 5, 2) := by decide +kernel
theorem dX12_sure_78 : decode cX12_sure 78 = .ok (.iaload, 1) := by decide +kernel
theorem dX12_sure_79 : decode cX12_sure 79 = .ok (.ishl, 1) := by decide +kernel
theorem dX12_sure_80 : decode cX12_sure 80 = .ok (.ior, 1) := by decide +kernel
theorem dX12_sure_81 : decode cX12_sure 81 = .ok (.istore 4, 2) := by decide +kernel
theorem dX12_sure_83 : decode cX12_sure 83 = .ok (.iinc 5 1, 3) := by decide +kernel
theorem dX12_sure_86 : decode cX12_sure 86 = .ok (.goto (-26), 3) := by decide +kernel
theorem dX12_sure_89 : decode cX12_sure 89 = .ok (.iload_n 1, 1) := by decide +kernel
theorem dX12_sure_90 : decode cX12_sure 90 = .ok (.iload 4, 2) := by decide +kernel
theorem dX12_sure_92 : decode cX12_sure 92 = .ok (.iand, 1) := by decide +kernel
theorem dX12_sure_93 : decode cX12_sure 93 = .ok (.istore_n 1, 1) := by decide +kernel
theorem dX12_sure_94 : decode cX12_sure 94 = .ok (.iinc 2 1, 3) := by decide +kernel
theorem dX12_sure_97 : decode cX12_sure 97 = .ok (.iinc 3 1, 3) := by decide +kernel
theorem dX12_sure_100 : decode cX12_sure 100 = .ok (.goto (-77), 3) := by decide +kernel
theorem dX12_sure_103 : decode cX12_sure 103 = .ok (.iload_n 2, 1) := by decide +kernel
theorem dX12_sure_104 : decode cX12_sure 104 = .ok (.ifCond .ne 7, 3) := by decide +kernel
theorem dX12_sure_107 : decode cX12_sure 107 = .ok (.iconst 0, 1) := by decide +kernel
theorem dX12_sure_108 : decode cX12_sure 108 = .ok (.goto 4, 3) := by decide +kernel
theorem dX12_sure_111 : decode cX12_sure 111 = .ok (.iload_n 1, 1) := by decide +kernel
theorem dX12_sure_112 : decode cX12_sure 112 = .ok (.ireturn, 1) := by decide +kernel
theorem dX12_write_0 : decode cX12_write 0 = .ok (.aload_n 0, 1) := by decide +kernel
theorem dX12_write_1 : decode cX12_write 1 = .ok (.iload_n 1, 1) := by decide +kernel
theorem dX12_write_2 : decode cX12_write 2 = .ok (.invokevirtual 177, 3) := by decide +kernel
theorem dX12_write_5 : decode cX12_write 5 = .ok (.ifCond .ne 6, 3) := by decide +kernel
theorem dX12_write_8 : decode cX12_write 8 = .ok (.ldc 180, 2) := by decide +kernel
theorem dX12_write_10 : decode cX12_write 10 = .ok (.ireturn, 1) := by decide +kernel
theorem dX12_write_11 : decode cX12_write 11 = .ok (.iload_n 2, 1) := by decide +kernel
theorem dX12_write_12 : decode cX12_write 12 = .ok (.iconst 0, 1) := by decide +kernel
theorem dX12_write_13 : decode cX12_write 13 = .ok (.iconst 2, 1) := by decide +kernel
theorem dX12_write_14 : decode cX12_write 14 = .ok (.invokestatic 72, 3) := by decide +kernel
theorem dX12_write_17 : decode cX12_write 17 = .ok (.ifCond .ne 6, 3) := by decide +kernel
theorem dX12_write_20 : decode cX12_write 20 = .ok (.ldc 85, 2) := by decide +kernel
theorem dX12_write_22 : decode cX12_write 22 = .ok (.ireturn, 1) := by decide +kernel
theorem dX12_write_23 : decode cX12_write 23 = .ok (.aload_n 0, 1) := by decide +kernel
theorem dX12_write_24 : decode cX12_write 24 = .ok (.getfield 82, 3) := by decide +kernel
theorem dX12_write_27 : decode cX12_write 27 = .ok (.bipush 20, 2) := by decide +kernel
theorem dX12_write_29 : decode cX12_write 29 = .ok (.if_icmp .ne 6, 3) := by decide +kernel
theorem dX12_write_32 : decode cX12_write 32 = .ok (.ldc 89, 2) := by decide +kernel
theorem dX12_write_34 : decode cX12_write 34 = .ok (.ireturn, 1) := by decide +kernel
theorem dX12_write_35 : decode cX12_write 35 = .ok (.aload_n 0, 1) := by decide +kernel
theorem dX12_write_36 : decode cX12_write 36 = .ok (.getfield 54, 3) := by decide +kernel
theorem dX12_write_39 : decode cX12_write 39 = .ok (.iconst 3, 1) := by decide +kernel
theorem dX12_write_40 : decode cX12_write 40 = .ok (.aload_n 0, 1) := by decide +kernel
theorem dX12_write_41 : decode cX12_write 41 = .ok (.getfield 82, 3) := by decide +kernel
theorem dX12_write_44 : decode cX12_write 44 = .ok (.imul, 1) := by decide +kernel
theorem dX12_write_45 : decode cX12_write 45 = .ok (.iload_n 1, 1) := by decide +kernel
theorem dX12_write_46 : decode cX12_write 46 = .ok (.iastore, 1) := by decide +kernel
theorem dX12_write_47 : decode cX12_write 47 = .ok (.aload_n 0, 1) := by decide +kernel
theorem dX12_write_48 : decode cX12_write 48 = .ok (.getfield 54, 3) := by decide +kernel
theorem dX12_write_51 : decode cX12_write 51 = .ok (.iconst 3, 1) := by decide +kernel
theorem dX12_write_52 : decode cX12_write 52 = .ok (.aload_n 0, 1) := by decide +kernel
theorem dX12_write_53 : decode cX12_write 53 = .ok (.getfield 82, 3) := by decide +kernel
theorem dX12_write_56 : decode cX12_write 56 = .ok (.imul, 1) := by decide +kernel
theorem dX12_write_57 : decode cX12_write 57 = .ok (.iconst 1, 1) := by decide +kernel
theorem dX12_write_58 : decode cX12_write 58 = .ok (.iadd, 1) := by decide +kernel
theorem dX12_write_59 : decode cX12_write 59 = .ok (.iload_n 2, 1) := by decide +kernel
theorem dX12_write_60 : decode cX12_write 60 = .ok (.iastore, 1) := by decide +kernel
theorem dX12_write_61 : decode cX12_write 61 = .ok (.aload_n 0, 1) := by decide +kernel
theorem dX12_write_62 : decode cX12_write 62 = .ok (.getfield 54, 3) := by decide +kernel
theorem dX12_write_65 : decode cX12_write 65 = .ok (.iconst 3, 1) := by decide +kernel
theorem dX12_write_66 : decode cX12_write 66 = .ok (.aload_n 0, 1) := by decide +kernel
theorem dX12_write_67 : decode cX12_write 67 = .ok (.getfield 82, 3) := by decide +kernel
theorem dX12_write_70 : decode cX12_write 70 = .ok (.imul, 1) := by decide +kernel
theorem dX12_write_71 : decode cX12_write 71 = .ok (.iconst 2, 1) := by decide +kernel
theorem dX12_write_72 : decode cX12_write 72 = .ok (.iadd, 1) := by decide +kernel
theorem dX12_write_73 : decode cX12_write 73 = .ok (.iload_n 3, 1) := by decide +kernel
theorem dX12_write_74 : decode cX12_write 74 = .ok (.ifCond .eq 7, 3) := by decide +kernel
theorem dX12_write_77 : decode cX12_write 77 = .ok (.iconst 1, 1) := by decide +kernel
theorem dX12_write_78 : decode cX12_write 78 = .ok (.goto 4, 3) := by decide +kernel
theorem dX12_write_81 : decode cX12_write 81 = .ok (.iconst 0, 1) := by decide +kernel
theorem dX12_write_82 : decode cX12_write 82 = .ok (.iastore, 1) := by decide +kernel
theorem dX12_write_83 : decode cX12_write 83 = .ok (.aload_n 0, 1) := by decide +kernel
theorem dX12_write_84 : decode cX12_write 84 = .ok (.dup, 1) := by decide +kernel
theorem dX12_write_85 : decode cX12_write 85 = .ok (.getfield 82, 3) := by decide +kernel
theorem dX12_write_88 : decode cX12_write 88 = .ok (.iconst 1, 1) := by decide +kernel
theorem dX12_write_89 : decode cX12_write 89 = .ok (.iadd, 1) := by decide +kernel
theorem dX12_write_90 : decode cX12_write 90 = .ok (.putfield 82, 3) := by decide +kernel
theorem dX12_write_93 : decode cX12_write 93 = .ok (.aload_n 0, 1) := by decide +kernel
theorem dX12_write_94 : decode cX12_write 94 = .ok (.getfield 82, 3) := by decide +kernel
theorem dX12_write_97 : decode cX12_write 97 = .ok (.ireturn, 1) := by decide +kernel
theorem dX12_judge_0 : decode cX12_judge 0 = .ok (.aload_n 0, 1) := by decide +kernel
theorem dX12_judge_1 : decode cX12_judge 1 = .ok (.getfield 35, 3) := by decide +kernel
theorem dX12_judge_4 : decode cX12_judge 4 = .ok (.iconst 0, 1) := by decide +kernel
theorem dX12_judge_5 : decode cX12_judge 5 = .ok (.aload_n 0, 1) := by decide +kernel
theorem dX12_judge_6 : decode cX12_judge 6 = .ok (.getfield 38, 3) := by decide +kernel
theorem dX12_judge_9 : decode cX12_judge 9 = .ok (.iconst 0, 1) := by decide +kernel
theorem dX12_judge_10 : decode cX12_judge 10 = .ok (.invokestatic 173, 3) := by decide +kernel
theorem dX12_judge_13 : decode cX12_judge 13 = .ok (.iconst 0, 1) := by decide +kernel
theorem dX12_judge_14 : decode cX12_judge 14 = .ok (.istore_n 1, 1) := by decide +kernel
theorem dX12_judge_15 : decode cX12_judge 15 = .ok (.iload_n 1, 1) := by decide +kernel
theorem dX12_judge_16 : decode cX12_judge 16 = .ok (.aload_n 0, 1) := by decide +kernel
theorem dX12_judge_17 : decode cX12_judge 17 = .ok (.getfield 82, 3) := by decide +kernel
theorem dX12_judge_20 : decode cX12_judge 20 = .ok (.if_icmp .ge 72, 3) := by decide +kernel
theorem dX12_judge_23 : decode cX12_judge 23 = .ok (.aload_n 0, 1) := by decide +kernel
theorem dX12_judge_24 : decode cX12_judge 24 = .ok (.getfield 54, 3) := by decide +kernel
theorem dX12_judge_27 : decode cX12_judge 27 = .ok (.iconst 3, 1) := by decide +kernel
theorem dX12_judge_28 : decode cX12_judge 28 = .ok (.iload_n 1, 1) := by decide +kernel
theorem dX12_judge_29 : decode cX12_judge 29 = .ok (.imul, 1) := by decide +kernel
theorem dX12_judge_30 : decode cX12_judge 30 = .ok (.iaload, 1) := by decide +kernel
theorem dX12_judge_31 : decode cX12_judge 31 = .ok (.istore_n 2, 1) := by decide +kernel
theorem dX12_judge_32 : decode cX12_judge 32 = .ok (.aload_n 0, 1) := by decide +kernel
theorem dX12_judge_33 : decode cX12_judge 33 = .ok (.getfield 38, 3) := by decide +kernel
theorem dX12_judge_36 : decode cX12_judge 36 = .ok (.iload_n 2, 1) := by decide +kernel
theorem dX12_judge_37 : decode cX12_judge 37 = .ok (.invokestatic 199, 3) := by decide +kernel
theorem dX12_judge_40 : decode cX12_judge 40 = .ok (.ifCond .ne 44, 3) := by decide +kernel
theorem dX12_judge_43 : decode cX12_judge 43 = .ok (.aload_n 0, 1) := by decide +kernel
theorem dX12_judge_44 : decode cX12_judge 44 = .ok (.aload_n 0, 1) := by decide +kernel
theorem dX12_judge_45 : decode cX12_judge 45 = .ok (.getfield 38, 3) := by decide +kernel
theorem dX12_judge_48 : decode cX12_judge 48 = .ok (.iload_n 2, 1) := by decide +kernel
theorem dX12_judge_49 : decode cX12_judge 49 = .ok (.aload_n 0, 1) := by decide +kernel
theorem dX12_judge_50 : decode cX12_judge 50 = .ok (.getfield 54, 3) := by decide +kernel
theorem dX12_judge_53 : decode cX12_judge 53 = .ok (.iconst 3, 1) := by decide +kernel
theorem dX12_judge_54 : decode cX12_judge 54 = .ok (.iload_n 1, 1) := by decide +kernel
theorem dX12_judge_55 : decode cX12_judge 55 = .ok (.imul, 1) := by decide +kernel
theorem dX12_judge_56 : decode cX12_judge 56 = .ok (.iconst 1, 1) := by decide +kernel
theorem dX12_judge_57 : decode cX12_judge 57 = .ok (.iadd, 1) := by decide +kernel
theorem dX12_judge_58 : decode cX12_judge 58 = .ok (.iaload, 1) := by decide +kernel
theorem dX12_judge_59 : decode cX12_judge 59 = .ok (.invokevirtual 203, 3) := by decide +kernel
theorem dX12_judge_62 : decode cX12_judge 62 = .ok (.aload_n 0, 1) := by decide +kernel
theorem dX12_judge_63 : decode cX12_judge 63 = .ok (.getfield 54, 3) := by decide +kernel
theorem dX12_judge_66 : decode cX12_judge 66 = .ok (.iconst 3, 1) := by decide +kernel
theorem dX12_judge_67 : decode cX12_judge 67 = .ok (.iload_n 1, 1) := by decide +kernel
theorem dX12_judge_68 : decode cX12_judge 68 = .ok (.imul, 1) := by decide +kernel
theorem dX12_judge_69 : decode cX12_judge 69 = .ok (.iconst 2, 1) := by decide +kernel
theorem dX12_judge_70 : decode cX12_judge 70 = .ok (.iadd, 1) := by decide +kernel
theorem dX12_judge_71 : decode cX12_judge 71 = .ok (.iaload, 1) := by decide +kernel
theorem dX12_judge_72 : decode cX12_judge 72 = .ok (.iconst 1, 1) := by decide +kernel
theorem dX12_judge_73 : decode cX12_judge 73 = .ok (.if_icmp .ne 7, 3) := by decide +kernel
theorem dX12_judge_76 : decode cX12_judge 76 = .ok (.iconst 1, 1) := by decide +kernel
theorem dX12_judge_77 : decode cX12_judge 77 = .ok (.goto 4, 3) := by decide +kernel
theorem dX12_judge_80 : decode cX12_judge 80 = .ok (.iconst 0, 1) := by decide +kernel
theorem dX12_judge_81 : decode cX12_judge 81 = .ok (.if_icmp .eq 5, 3) := by decide +kernel
theorem dX12_judge_84 : decode cX12_judge 84 = .ok (.iload_n 1, 1) := by decide +kernel
theorem dX12_judge_85 : decode cX12_judge 85 = .ok (.ireturn, 1) := by decide +kernel
theorem dX12_judge_86 : decode cX12_judge 86 = .ok (.iinc 1 1, 3) := by decide +kernel
theorem dX12_judge_89 : decode cX12_judge 89 = .ok (.goto (-74), 3) := by decide +kernel
theorem dX12_judge_92 : decode cX12_judge 92 = .ok (.iconst (-1), 1) := by decide +kernel
theorem dX12_judge_93 : decode cX12_judge 93 = .ok (.ireturn, 1) := by decide +kernel
theorem dX12_tear_0 : decode cX12_tear 0 = .ok (.aload_n 0, 1) := by decide +kernel
theorem dX12_tear_1 : decode cX12_tear 1 = .ok (.getfield 79, 3) := by decide +kernel
theorem dX12_tear_4 : decode cX12_tear 4 = .ok (.aload_n 0, 1) := by decide +kernel
theorem dX12_tear_5 : decode cX12_tear 5 = .ok (.getfield 82, 3) := by decide +kernel
theorem dX12_tear_8 : decode cX12_tear 8 = .ok (.iadd, 1) := by decide +kernel
theorem dX12_tear_9 : decode cX12_tear 9 = .ok (.istore_n 1, 1) := by decide +kernel
theorem dX12_tear_10 : decode cX12_tear 10 = .ok (.aload_n 0, 1) := by decide +kernel
theorem dX12_tear_11 : decode cX12_tear 11 = .ok (.iconst 0, 1) := by decide +kernel
theorem dX12_tear_12 : decode cX12_tear 12 = .ok (.putfield 79, 3) := by decide +kernel
theorem dX12_tear_15 : decode cX12_tear 15 = .ok (.aload_n 0, 1) := by decide +kernel
theorem dX12_tear_16 : decode cX12_tear 16 = .ok (.iconst 0, 1) := by decide +kernel
theorem dX12_tear_17 : decode cX12_tear 17 = .ok (.putfield 82, 3) := by decide +kernel
theorem dX12_tear_20 : decode cX12_tear 20 = .ok (.iload_n 1, 1) := by decide +kernel
theorem dX12_tear_21 : decode cX12_tear 21 = .ok (.ireturn, 1) := by decide +kernel
theorem dX12_seed_0 : decode cX12_seed 0 = .ok (.iload_n 1, 1) := by decide +kernel
theorem dX12_seed_1 : decode cX12_seed 1 = .ok (.ifCond .ge 6, 3) := by decide +kernel
theorem dX12_seed_4 : decode cX12_seed 4 = .ok (.ldc 85, 2) := by decide +kernel
theorem dX12_seed_6 : decode cX12_seed 6 = .ok (.ireturn, 1) := by decide +kernel
theorem dX12_seed_7 : decode cX12_seed 7 = .ok (.aload_n 0, 1) := by decide +kernel
theorem dX12_seed_8 : decode cX12_seed 8 = .ok (.getfield 35, 3) := by decide +kernel
theorem dX12_seed_11 : decode cX12_seed 11 = .ok (.bipush 6, 2) := by decide +kernel
theorem dX12_seed_13 : decode cX12_seed 13 = .ok (.iaload, 1) := by decide +kernel
theorem dX12_seed_14 : decode cX12_seed 14 = .ok (.istore_n 2, 1) := by decide +kernel
theorem dX12_seed_15 : decode cX12_seed 15 = .ok (.aload_n 0, 1) := by decide +kernel
theorem dX12_seed_16 : decode cX12_seed 16 = .ok (.getfield 35, 3) := by decide +kernel
theorem dX12_seed_19 : decode cX12_seed 19 = .ok (.bipush 6, 2) := by decide +kernel
theorem dX12_seed_21 : decode cX12_seed 21 = .ok (.iload_n 1, 1) := by decide +kernel
theorem dX12_seed_22 : decode cX12_seed 22 = .ok (.iastore, 1) := by decide +kernel
theorem dX12_seed_23 : decode cX12_seed 23 = .ok (.iload_n 2, 1) := by decide +kernel
theorem dX12_seed_24 : decode cX12_seed 24 = .ok (.ireturn, 1) := by decide +kernel
theorem dX12_keep_0 : decode cX12_keep 0 = .ok (.iload_n 1, 1) := by decide +kernel
theorem dX12_keep_1 : decode cX12_keep 1 = .ok (.iconst 0, 1) := by decide +kernel
theorem dX12_keep_2 : decode cX12_keep 2 = .ok (.iconst 1, 1) := by decide +kernel
theorem dX12_keep_3 : decode cX12_keep 3 = .ok (.invokestatic 72, 3) := by decide +kernel
theorem dX12_keep_6 : decode cX12_keep 6 = .ok (.ifCond .ne 6, 3) := by decide +kernel
theorem dX12_keep_9 : decode cX12_keep 9 = .ok (.ldc 180, 2) := by decide +kernel
theorem dX12_keep_11 : decode cX12_keep 11 = .ok (.ireturn, 1) := by decide +kernel
theorem dX12_keep_12 : decode cX12_keep 12 = .ok (.aload_n 0, 1) := by decide +kernel
theorem dX12_keep_13 : decode cX12_keep 13 = .ok (.getfield 35, 3) := by decide +kernel
theorem dX12_keep_16 : decode cX12_keep 16 = .ok (.iconst 0, 1) := by decide +kernel
theorem dX12_keep_17 : decode cX12_keep 17 = .ok (.aload_n 0, 1) := by decide +kernel
theorem dX12_keep_18 : decode cX12_keep 18 = .ok (.getfield 41, 3) := by decide +kernel
theorem dX12_keep_21 : decode cX12_keep 21 = .ok (.bipush 31, 2) := by decide +kernel
theorem dX12_keep_23 : decode cX12_keep 23 = .ok (.iload_n 1, 1) := by decide +kernel
theorem dX12_keep_24 : decode cX12_keep 24 = .ok (.imul, 1) := by decide +kernel
theorem dX12_keep_25 : decode cX12_keep 25 = .ok (.invokestatic 173, 3) := by decide +kernel
theorem dX12_keep_28 : decode cX12_keep 28 = .ok (.aload_n 0, 1) := by decide +kernel
theorem dX12_keep_29 : decode cX12_keep 29 = .ok (.getfield 44, 3) := by decide +kernel
theorem dX12_keep_32 : decode cX12_keep 32 = .ok (.iload_n 1, 1) := by decide +kernel
theorem dX12_keep_33 : decode cX12_keep 33 = .ok (.iconst 1, 1) := by decide +kernel
theorem dX12_keep_34 : decode cX12_keep 34 = .ok (.bastore, 1) := by decide +kernel
theorem dX12_keep_35 : decode cX12_keep 35 = .ok (.aload_n 0, 1) := by decide +kernel
theorem dX12_keep_36 : decode cX12_keep 36 = .ok (.iconst 0, 1) := by decide +kernel
theorem dX12_keep_37 : decode cX12_keep 37 = .ok (.putfield 76, 3) := by decide +kernel
theorem dX12_keep_40 : decode cX12_keep 40 = .ok (.iconst 1, 1) := by decide +kernel
theorem dX12_keep_41 : decode cX12_keep 41 = .ok (.ireturn, 1) := by decide +kernel
theorem dX12_goBack_0 : decode cX12_goBack 0 = .ok (.iload_n 1, 1) := by decide +kernel
theorem dX12_goBack_1 : decode cX12_goBack 1 = .ok (.iconst 0, 1) := by decide +kernel
theorem dX12_goBack_2 : decode cX12_goBack 2 = .ok (.iconst 1, 1) := by decide +kernel
theorem dX12_goBack_3 : decode cX12_goBack 3 = .ok (.invokestatic 72, 3) := by decide +kernel
theorem dX12_goBack_6 : decode cX12_goBack 6 = .ok (.ifCond .ne 6, 3) := by decide +kernel
theorem dX12_goBack_9 : decode cX12_goBack 9 = .ok (.ldc 180, 2) := by decide +kernel
theorem dX12_goBack_11 : decode cX12_goBack 11 = .ok (.ireturn, 1) := by decide +kernel
theorem dX12_goBack_12 : decode cX12_goBack 12 = .ok (.aload_n 0, 1) := by decide +kernel
theorem dX12_goBack_13 : decode cX12_goBack 13 = .ok (.getfield 44, 3) := by decide +kernel
theorem dX12_goBack_16 : decode cX12_goBack 16 = .ok (.iload_n 1, 1) := by decide +kernel
theorem dX12_goBack_17 : decode cX12_goBack 17 = .ok (.baload, 1) := by decide +kernel
theorem dX12_goBack_18 : decode cX12_goBack 18 = .ok (.ifCond .ne 6, 3) := by decide +kernel
theorem dX12_goBack_21 : decode cX12_goBack 21 = .ok (.ldc 184, 2) := by decide +kernel
theorem dX12_goBack_23 : decode cX12_goBack 23 = .ok (.ireturn, 1) := by decide +kernel
theorem dX12_goBack_24 : decode cX12_goBack 24 = .ok (.aload_n 0, 1) := by decide +kernel
theorem dX12_goBack_25 : decode cX12_goBack 25 = .ok (.getfield 41, 3) := by decide +kernel
theorem dX12_goBack_28 : decode cX12_goBack 28 = .ok (.bipush 31, 2) := by decide +kernel
theorem dX12_goBack_30 : decode cX12_goBack 30 = .ok (.iload_n 1, 1) := by decide +kernel
theorem dX12_goBack_31 : decode cX12_goBack 31 = .ok (.imul, 1) := by decide +kernel
theorem dX12_goBack_32 : decode cX12_goBack 32 = .ok (.aload_n 0, 1) := by decide +kernel
theorem dX12_goBack_33 : decode cX12_goBack 33 = .ok (.getfield 35, 3) := by decide +kernel
theorem dX12_goBack_36 : decode cX12_goBack 36 = .ok (.iconst 0, 1) := by decide +kernel
theorem dX12_goBack_37 : decode cX12_goBack 37 = .ok (.invokestatic 173, 3) := by decide +kernel
theorem dX12_goBack_40 : decode cX12_goBack 40 = .ok (.aload_n 0, 1) := by decide +kernel
theorem dX12_goBack_41 : decode cX12_goBack 41 = .ok (.iconst 0, 1) := by decide +kernel
theorem dX12_goBack_42 : decode cX12_goBack 42 = .ok (.putfield 76, 3) := by decide +kernel
theorem dX12_goBack_45 : decode cX12_goBack 45 = .ok (.iconst 1, 1) := by decide +kernel
theorem dX12_goBack_46 : decode cX12_goBack 46 = .ok (.ireturn, 1) := by decide +kernel
end
section
/-! the good words of the tables; membership of each word that a walk asks -/
def sy_sels : List Cond := [Cond.selects RX8 yX7_goOn yX7_goOn, Cond.selects RX8 yX7_standBehind yX7_standBehind, Cond.selects RX9 yX7_goOn yX7_goOn, Cond.selects RX9 yX7_standBehind yX7_standBehind]
def sy_W : List Cond := (sy_sels ++ lw_tbl).filter goodWord
theorem sy_W_of {w : Cond} (h : w ∈ lw_tbl) (g : goodWord w = true) : w ∈ sy_W := List.mem_filter.mpr ⟨List.mem_append_right _ h, g⟩
theorem sy_W_os {w : Cond} (h : w ∈ sy_sels) (g : goodWord w = true) : w ∈ sy_W := List.mem_filter.mpr ⟨List.mem_append_left _ h, g⟩
theorem sy_W_good : ∀ w ∈ sy_W, goodWord w = true := fun w h => (List.mem_filter.mp h).2
theorem tk_1 : ∀ w ∈ tables_1_1, w ∈ lw_tbl := fun _ h => List.mem_append_right _ (List.mem_append_left _ (h))
theorem tk_2 : ∀ w ∈ tables_1_2, w ∈ lw_tbl := fun _ h => List.mem_append_right _ (List.mem_append_right _ (List.mem_append_left _ (h)))
theorem tk_3 : ∀ w ∈ tables_1_3, w ∈ lw_tbl := fun _ h => List.mem_append_right _ (List.mem_append_right _ (List.mem_append_right _ (List.mem_append_left _ (h))))
theorem tk_4 : ∀ w ∈ tables_1_4, w ∈ lw_tbl := fun _ h => List.mem_append_right _ (List.mem_append_right _ (List.mem_append_right _ (List.mem_append_right _ (List.mem_append_left _ (h)))))
theorem tk_5 : ∀ w ∈ tables_1_5, w ∈ lw_tbl := fun _ h => List.mem_append_right _ (List.mem_append_right _ (List.mem_append_right _ (List.mem_append_right _ (List.mem_append_right _ (List.mem_append_left _ (h))))))
theorem tk_6 : ∀ w ∈ tables_1_6, w ∈ lw_tbl := fun _ h => List.mem_append_right _ (List.mem_append_right _ (List.mem_append_right _ (List.mem_append_right _ (List.mem_append_right _ (List.mem_append_right _ (h))))))
theorem tp_1 : ∀ q ∈ lw_privs_1, Cond.selects q.1.cls q.1 q.1 ∈ lw_tbl := fun q h => List.mem_append_left _ (List.mem_map.mpr ⟨q, List.mem_append_left _ (h), rfl⟩)
theorem tp_2 : ∀ q ∈ lw_privs_2, Cond.selects q.1.cls q.1 q.1 ∈ lw_tbl := fun q h => List.mem_append_left _ (List.mem_map.mpr ⟨q, List.mem_append_right _ (List.mem_append_left _ (h)), rfl⟩)
theorem tp_3 : ∀ q ∈ lw_privs_3, Cond.selects q.1.cls q.1 q.1 ∈ lw_tbl := fun q h => List.mem_append_left _ (List.mem_map.mpr ⟨q, List.mem_append_right _ (List.mem_append_right _ (List.mem_append_left _ (h))), rfl⟩)
theorem tp_4 : ∀ q ∈ lw_privs_4, Cond.selects q.1.cls q.1 q.1 ∈ lw_tbl := fun q h => List.mem_append_left _ (List.mem_map.mpr ⟨q, List.mem_append_right _ (List.mem_append_right _ (List.mem_append_right _ (h))), rfl⟩)
theorem wm_0 : (Cond.classLink RL 7 RX11) ∈ sy_W := sy_W_of (tk_1 _ (List.mem_of_getElem? (i := 16) rfl)) rfl
theorem wm_1 : (Cond.instantiable RX11 16) ∈ sy_W := sy_W_of (tk_1 _ (List.mem_of_getElem? (i := 17) rfl)) rfl
theorem wm_2 : (Cond.initialized RX11) ∈ sy_W := sy_W_of (tk_1 _ (List.mem_of_getElem? (i := 1) rfl)) rfl
theorem wm_3 : (Cond.classLink RL 10 RX12) ∈ sy_W := sy_W_of (tk_4 _ (List.mem_of_getElem? (i := 224) rfl)) rfl
theorem wm_4 : (Cond.instantiable RX12 35) ∈ sy_W := sy_W_of (tk_4 _ (List.mem_of_getElem? (i := 225) rfl)) rfl
theorem wm_5 : (Cond.initialized RX12) ∈ sy_W := sy_W_of (tk_1 _ (List.mem_of_getElem? (i := 13) rfl)) rfl
theorem wm_6 : (Cond.methodLink RL 9 yX11_init) ∈ sy_W := sy_W_of (tk_1 _ (List.mem_of_getElem? (i := 18) rfl)) rfl
theorem wm_7 : (Cond.instanceMethod yX11_init) ∈ sy_W := sy_W_of (tk_1 _ (List.mem_of_getElem? (i := 19) rfl)) rfl
theorem wm_8 : (Cond.code yX11_init cX11_init 4 none) ∈ sy_W := sy_W_of (tk_1 _ (List.mem_of_getElem? (i := 20) rfl)) rfl
theorem wm_9 : (Cond.methodLink RX11 1 objectInit) ∈ sy_W := sy_W_of (tk_1 _ (List.mem_of_getElem? (i := 21) rfl)) rfl
theorem wm_10 : (Cond.instanceMethod objectInit) ∈ sy_W := sy_W_of (tk_1 _ (List.mem_of_getElem? (i := 22) rfl)) rfl
theorem wm_11 : (Cond.code objectInit ⟨#[0xb1]⟩ 1 none) ∈ sy_W := sy_W_of (tk_1 _ (List.mem_of_getElem? (i := 23) rfl)) rfl
theorem wm_12 : (Cond.classLink RX11 7 RX3) ∈ sy_W := sy_W_of (tk_1 _ (List.mem_of_getElem? (i := 24) rfl)) rfl
theorem wm_13 : (Cond.instantiable RX3 10) ∈ sy_W := sy_W_of (tk_1 _ (List.mem_of_getElem? (i := 25) rfl)) rfl
theorem wm_14 : (Cond.initialized RX3) ∈ sy_W := sy_W_of (tk_1 _ (List.mem_of_getElem? (i := 2) rfl)) rfl
theorem wm_15 : (Cond.classLink RX11 12 RX10) ∈ sy_W := sy_W_of (tk_1 _ (List.mem_of_getElem? (i := 91) rfl)) rfl
theorem wm_16 : (Cond.instantiable RX10 11) ∈ sy_W := sy_W_of (tk_1 _ (List.mem_of_getElem? (i := 93) rfl)) rfl
theorem wm_17 : (Cond.initialized RX10) ∈ sy_W := sy_W_of (tk_1 _ (List.mem_of_getElem? (i := 3) rfl)) rfl
theorem wm_18 : (Cond.fieldLink RX11 17 "SkyTurns" "told" "LSkyTurns$Edge;") ∈ sy_W := sy_W_of (tk_2 _ (List.mem_of_getElem? (i := 143) rfl)) rfl
theorem wm_19 : (Cond.classLink RX11 21 RX6) ∈ sy_W := sy_W_of (tk_1 _ (List.mem_of_getElem? (i := 147) rfl)) rfl
theorem wm_20 : (Cond.instantiable RX6 9) ∈ sy_W := sy_W_of (tk_1 _ (List.mem_of_getElem? (i := 148) rfl)) rfl
theorem wm_21 : (Cond.initialized RX6) ∈ sy_W := sy_W_of (tk_1 _ (List.mem_of_getElem? (i := 4) rfl)) rfl
theorem wm_22 : (Cond.fieldLink RX11 24 "SkyTurns" "reader" "LSkyTurns$Reader;") ∈ sy_W := sy_W_of (tk_2 _ (List.mem_of_getElem? (i := 144) rfl)) rfl
theorem wm_23 : (Cond.fieldLink RX11 28 "SkyTurns" "now" "LSkyTurns$Sky;") ∈ sy_W := sy_W_of (tk_2 _ (List.mem_of_getElem? (i := 145) rfl)) rfl
theorem wm_24 : (Cond.fieldLink RX11 32 "SkyTurns" "trial" "LSkyTurns$Sky;") ∈ sy_W := sy_W_of (tk_2 _ (List.mem_of_getElem? (i := 146) rfl)) rfl
theorem wm_25 : (Cond.classLink RX11 35 RX5) ∈ sy_W := sy_W_of (tk_1 _ (List.mem_of_getElem? (i := 187) rfl)) rfl
theorem wm_26 : (Cond.instantiable RX5 3) ∈ sy_W := sy_W_of (tk_1 _ (List.mem_of_getElem? (i := 188) rfl)) rfl
theorem wm_27 : (Cond.initialized RX5) ∈ sy_W := sy_W_of (tk_1 _ (List.mem_of_getElem? (i := 5) rfl)) rfl
theorem wm_28 : (Cond.fieldLink RX11 38 "SkyTurns" "past" "LSkyTurns$Past;") ∈ sy_W := sy_W_of (tk_2 _ (List.mem_of_getElem? (i := 147) rfl)) rfl
theorem wm_29 : (Cond.fieldLink RX11 42 "SkyTurns" "images" "[LSkyTurns$Sky;") ∈ sy_W := sy_W_of (tk_2 _ (List.mem_of_getElem? (i := 148) rfl)) rfl
theorem wm_30 : (Cond.arrayClass .boolean) ∈ sy_W := sy_W_of (tk_2 _ (List.mem_of_getElem? (i := 15) rfl)) rfl
theorem wm_31 : (Cond.fieldLink RX11 46 "SkyTurns" "imageKept" "[Z") ∈ sy_W := sy_W_of (tk_2 _ (List.mem_of_getElem? (i := 149) rfl)) rfl
theorem wm_32 : (Cond.arrayClass .int) ∈ sy_W := sy_W_of (tk_1 _ (List.mem_of_getElem? (i := 90) rfl)) rfl
theorem wm_33 : (Cond.fieldLink RX11 50 "SkyTurns" "imageSeed" "[I") ∈ sy_W := sy_W_of (tk_2 _ (List.mem_of_getElem? (i := 150) rfl)) rfl
theorem wm_34 : (Cond.classLink RX11 54 RX9) ∈ sy_W := sy_W_of (tk_1 _ (List.mem_of_getElem? (i := 206) rfl)) rfl
theorem wm_35 : (Cond.instantiable RX9 9) ∈ sy_W := sy_W_of (tk_1 _ (List.mem_of_getElem? (i := 207) rfl)) rfl
theorem wm_36 : (Cond.initialized RX9) ∈ sy_W := sy_W_of (tk_1 _ (List.mem_of_getElem? (i := 7) rfl)) rfl
theorem wm_37 : (Cond.fieldLink RX11 59 "SkyTurns" "shiftRows" "LSkyTurns$ShiftRows;") ∈ sy_W := sy_W_of (tk_2 _ (List.mem_of_getElem? (i := 151) rfl)) rfl
theorem wm_38 : (Cond.classLink RX11 63 RX8) ∈ sy_W := sy_W_of (tk_2 _ (List.mem_of_getElem? (i := 16) rfl)) rfl
theorem wm_39 : (Cond.instantiable RX8 10) ∈ sy_W := sy_W_of (tk_2 _ (List.mem_of_getElem? (i := 17) rfl)) rfl
theorem wm_40 : (Cond.initialized RX8) ∈ sy_W := sy_W_of (tk_1 _ (List.mem_of_getElem? (i := 8) rfl)) rfl
theorem wm_41 : (Cond.fieldLink RX11 66 "SkyTurns" "seenRows" "LSkyTurns$SeenRows;") ∈ sy_W := sy_W_of (tk_2 _ (List.mem_of_getElem? (i := 152) rfl)) rfl
theorem wm_42 : (Cond.classLink RX11 70 RX1) ∈ sy_W := sy_W_of (tk_2 _ (List.mem_of_getElem? (i := 46) rfl)) rfl
theorem wm_43 : (Cond.instantiable RX1 6) ∈ sy_W := sy_W_of (tk_2 _ (List.mem_of_getElem? (i := 47) rfl)) rfl
theorem wm_44 : (Cond.initialized RX1) ∈ sy_W := sy_W_of (tk_1 _ (List.mem_of_getElem? (i := 9) rfl)) rfl
theorem wm_45 : (Cond.fieldLink RX11 73 "SkyTurns" "chainTried" "LSkyTurns$Chain;") ∈ sy_W := sy_W_of (tk_2 _ (List.mem_of_getElem? (i := 153) rfl)) rfl
theorem wm_46 : (Cond.classLink RX11 77 RX0) ∈ sy_W := sy_W_of (tk_2 _ (List.mem_of_getElem? (i := 72) rfl)) rfl
theorem wm_47 : (Cond.instantiable RX0 4) ∈ sy_W := sy_W_of (tk_2 _ (List.mem_of_getElem? (i := 73) rfl)) rfl
theorem wm_48 : (Cond.initialized RX0) ∈ sy_W := sy_W_of (tk_1 _ (List.mem_of_getElem? (i := 10) rfl)) rfl
theorem wm_49 : (Cond.fieldLink RX11 80 "SkyTurns" "book" "LSkyTurns$Book;") ∈ sy_W := sy_W_of (tk_2 _ (List.mem_of_getElem? (i := 154) rfl)) rfl
theorem wm_50 : (Cond.classLink RX11 84 RX2) ∈ sy_W := sy_W_of (tk_2 _ (List.mem_of_getElem? (i := 92) rfl)) rfl
theorem wm_51 : (Cond.instantiable RX2 3) ∈ sy_W := sy_W_of (tk_2 _ (List.mem_of_getElem? (i := 93) rfl)) rfl
theorem wm_52 : (Cond.initialized RX2) ∈ sy_W := sy_W_of (tk_1 _ (List.mem_of_getElem? (i := 11) rfl)) rfl
theorem wm_53 : (Cond.fieldLink RX11 87 "SkyTurns" "debts" "LSkyTurns$Debts;") ∈ sy_W := sy_W_of (tk_2 _ (List.mem_of_getElem? (i := 155) rfl)) rfl
theorem wm_54 : (Cond.classLink RX11 91 RX4) ∈ sy_W := sy_W_of (tk_2 _ (List.mem_of_getElem? (i := 108) rfl)) rfl
theorem wm_55 : (Cond.instantiable RX4 8) ∈ sy_W := sy_W_of (tk_2 _ (List.mem_of_getElem? (i := 109) rfl)) rfl
theorem wm_56 : (Cond.initialized RX4) ∈ sy_W := sy_W_of (tk_1 _ (List.mem_of_getElem? (i := 12) rfl)) rfl
theorem wm_57 : (Cond.fieldLink RX11 94 "SkyTurns" "game" "LSkyTurns$Game;") ∈ sy_W := sy_W_of (tk_2 _ (List.mem_of_getElem? (i := 156) rfl)) rfl
theorem wm_58 : (Cond.fieldLink RX11 98 "SkyTurns" "latestFault" "I") ∈ sy_W := sy_W_of (tk_2 _ (List.mem_of_getElem? (i := 157) rfl)) rfl
theorem wm_59 : (Cond.fieldLink RX11 102 "SkyTurns" "seedNow" "I") ∈ sy_W := sy_W_of (tk_2 _ (List.mem_of_getElem? (i := 158) rfl)) rfl
theorem wm_60 : (Cond.methodLink RX11 9 yX3_init) ∈ sy_W := sy_W_of (tk_1 _ (List.mem_of_getElem? (i := 26) rfl)) rfl
theorem wm_61 : (Cond.instanceMethod yX3_init) ∈ sy_W := sy_W_of (tk_1 _ (List.mem_of_getElem? (i := 27) rfl)) rfl
theorem wm_62 : (Cond.code yX3_init cX3_init 1 none) ∈ sy_W := sy_W_of (tk_1 _ (List.mem_of_getElem? (i := 28) rfl)) rfl
theorem wm_63 : (Cond.methodLink RX3 3 objectInit) ∈ sy_W := sy_W_of (tk_1 _ (List.mem_of_getElem? (i := 29) rfl)) rfl
theorem wm_64 : (Cond.fieldLink RX3 9 "SkyTurns$Edge" "weights" "[I") ∈ sy_W := sy_W_of (tk_1 _ (List.mem_of_getElem? (i := 38) rfl)) rfl
theorem wm_65 : (Cond.fieldLink RX3 15 "SkyTurns$Edge" "kind" "[I") ∈ sy_W := sy_W_of (tk_1 _ (List.mem_of_getElem? (i := 39) rfl)) rfl
theorem wm_66 : (Cond.fieldLink RX3 18 "SkyTurns$Edge" "strength" "[I") ∈ sy_W := sy_W_of (tk_1 _ (List.mem_of_getElem? (i := 42) rfl)) rfl
theorem wm_67 : (Cond.fieldLink RX3 21 "SkyTurns$Edge" "height" "[I") ∈ sy_W := sy_W_of (tk_1 _ (List.mem_of_getElem? (i := 45) rfl)) rfl
theorem wm_68 : (Cond.fieldLink RX3 24 "SkyTurns$Edge" "wits" "[I") ∈ sy_W := sy_W_of (tk_1 _ (List.mem_of_getElem? (i := 47) rfl)) rfl
theorem wm_69 : (Cond.fieldLink RX3 27 "SkyTurns$Edge" "father" "[I") ∈ sy_W := sy_W_of (tk_1 _ (List.mem_of_getElem? (i := 50) rfl)) rfl
theorem wm_70 : (Cond.fieldLink RX3 30 "SkyTurns$Edge" "goodness" "[I") ∈ sy_W := sy_W_of (tk_1 _ (List.mem_of_getElem? (i := 53) rfl)) rfl
theorem wm_71 : (Cond.methodLink RX3 33 yX3_clear) ∈ sy_W := sy_W_of (tk_1 _ (List.mem_of_getElem? (i := 30) rfl)) rfl
theorem wm_72 : (Cond.instanceMethod yX3_clear) ∈ sy_W := sy_W_of (tk_1 _ (List.mem_of_getElem? (i := 31) rfl)) rfl
theorem wm_73 : (Cond.selects RX3 yX3_clear yX3_clear) ∈ sy_W := sy_W_of (tk_1 _ (List.mem_of_getElem? (i := 32) rfl)) rfl
theorem wm_74 : (Cond.code yX3_clear cX3_clear 1 none) ∈ sy_W := sy_W_of (tk_1 _ (List.mem_of_getElem? (i := 33) rfl)) rfl
theorem wm_75 : (Cond.fieldLink RX3 36 "SkyTurns$Edge" "weightCount" "I") ∈ sy_W := sy_W_of (tk_1 _ (List.mem_of_getElem? (i := 56) rfl)) rfl
theorem wm_76 : (Cond.fieldLink RX3 40 "SkyTurns$Edge" "people" "I") ∈ sy_W := sy_W_of (tk_1 _ (List.mem_of_getElem? (i := 59) rfl)) rfl
theorem wm_77 : (Cond.fieldLink RX3 47 "SkyTurns$Edge" "firstFruit" "I") ∈ sy_W := sy_W_of (tk_1 _ (List.mem_of_getElem? (i := 66) rfl)) rfl
theorem wm_78 : (Cond.methodLink RX3 43 yX3_setGoodness) ∈ sy_W := sy_W_of (tk_1 _ (List.mem_of_getElem? (i := 34) rfl)) rfl
theorem wm_79 : (Cond.instanceMethod yX3_setGoodness) ∈ sy_W := sy_W_of (tk_1 _ (List.mem_of_getElem? (i := 35) rfl)) rfl
theorem wm_80 : (Cond.selects RX3 yX3_setGoodness yX3_setGoodness) ∈ sy_W := sy_W_of (tk_1 _ (List.mem_of_getElem? (i := 36) rfl)) rfl
theorem wm_81 : (Cond.code yX3_setGoodness cX3_setGoodness 4 none) ∈ sy_W := sy_W_of (tk_1 _ (List.mem_of_getElem? (i := 37) rfl)) rfl
theorem wm_82 : (Cond.methodLink RX11 14 yX10_init) ∈ sy_W := sy_W_of (tk_1 _ (List.mem_of_getElem? (i := 94) rfl)) rfl
theorem wm_83 : (Cond.instanceMethod yX10_init) ∈ sy_W := sy_W_of (tk_1 _ (List.mem_of_getElem? (i := 95) rfl)) rfl
theorem wm_84 : (Cond.code yX10_init cX10_init 2 none) ∈ sy_W := sy_W_of (tk_1 _ (List.mem_of_getElem? (i := 96) rfl)) rfl
theorem wm_85 : (Cond.methodLink RX10 3 objectInit) ∈ sy_W := sy_W_of (tk_1 _ (List.mem_of_getElem? (i := 97) rfl)) rfl
theorem wm_86 : (Cond.fieldLink RX10 9 "SkyTurns$Sky" "tired" "[I") ∈ sy_W := sy_W_of (tk_1 _ (List.mem_of_getElem? (i := 103) rfl)) rfl
theorem wm_87 : (Cond.fieldLink RX10 15 "SkyTurns$Sky" "held" "[I") ∈ sy_W := sy_W_of (tk_1 _ (List.mem_of_getElem? (i := 105) rfl)) rfl
theorem wm_88 : (Cond.fieldLink RX10 18 "SkyTurns$Sky" "unbroken" "[I") ∈ sy_W := sy_W_of (tk_1 _ (List.mem_of_getElem? (i := 108) rfl)) rfl
theorem wm_89 : (Cond.fieldLink RX10 21 "SkyTurns$Sky" "fallen" "[I") ∈ sy_W := sy_W_of (tk_1 _ (List.mem_of_getElem? (i := 110) rfl)) rfl
theorem wm_90 : (Cond.fieldLink RX10 24 "SkyTurns$Sky" "told" "LSkyTurns$Edge;") ∈ sy_W := sy_W_of (tk_1 _ (List.mem_of_getElem? (i := 102) rfl)) rfl
theorem wm_91 : (Cond.methodLink RX10 28 yX10_begin) ∈ sy_W := sy_W_of (tk_1 _ (List.mem_of_getElem? (i := 98) rfl)) rfl
theorem wm_92 : (Cond.instanceMethod yX10_begin) ∈ sy_W := sy_W_of (tk_1 _ (List.mem_of_getElem? (i := 99) rfl)) rfl
theorem wm_93 : (Cond.selects RX10 yX10_begin yX10_begin) ∈ sy_W := sy_W_of (tk_1 _ (List.mem_of_getElem? (i := 100) rfl)) rfl
theorem wm_94 : (Cond.code yX10_begin cX10_begin 2 none) ∈ sy_W := sy_W_of (tk_1 _ (List.mem_of_getElem? (i := 101) rfl)) rfl
theorem wm_95 : (Cond.fieldLink RX10 31 "SkyTurns$Sky" "clock" "I") ∈ sy_W := sy_W_of (tk_1 _ (List.mem_of_getElem? (i := 112) rfl)) rfl
theorem wm_96 : (Cond.fieldLink RX10 35 "SkyTurns$Sky" "low" "I") ∈ sy_W := sy_W_of (tk_1 _ (List.mem_of_getElem? (i := 114) rfl)) rfl
theorem wm_97 : (Cond.fieldLink RX10 38 "SkyTurns$Sky" "harm" "I") ∈ sy_W := sy_W_of (tk_1 _ (List.mem_of_getElem? (i := 116) rfl)) rfl
theorem wm_98 : (Cond.fieldLink RX10 41 "SkyTurns$Edge" "firstFruit" "I") ∈ sy_W := sy_W_of (tk_1 _ (List.mem_of_getElem? (i := 67) rfl)) rfl
theorem wm_99 : (Cond.fieldLink RX10 46 "SkyTurns$Sky" "fruitLeft" "I") ∈ sy_W := sy_W_of (tk_1 _ (List.mem_of_getElem? (i := 118) rfl)) rfl
theorem wm_100 : (Cond.fieldLink RX10 49 "SkyTurns$Edge" "people" "I") ∈ sy_W := sy_W_of (tk_1 _ (List.mem_of_getElem? (i := 62) rfl)) rfl
theorem wm_101 : (Cond.fieldLink RX10 52 "SkyTurns$Sky" "holder" "I") ∈ sy_W := sy_W_of (tk_1 _ (List.mem_of_getElem? (i := 120) rfl)) rfl
theorem wm_102 : (Cond.fieldLink RX10 55 "SkyTurns$Sky" "beside" "I") ∈ sy_W := sy_W_of (tk_1 _ (List.mem_of_getElem? (i := 122) rfl)) rfl
theorem wm_103 : (Cond.instanceMethod yX6_init) ∈ sy_W := sy_W_of (tk_1 _ (List.mem_of_getElem? (i := 150) rfl)) rfl
theorem wm_104 : (Cond.code yX6_init cX6_init 1 none) ∈ sy_W := sy_W_of (tk_1 _ (List.mem_of_getElem? (i := 151) rfl)) rfl
theorem wm_105 : (Cond.methodLink RX6 3 objectInit) ∈ sy_W := sy_W_of (tk_1 _ (List.mem_of_getElem? (i := 152) rfl)) rfl
theorem wm_106 : (Cond.fieldLink RX6 9 "SkyTurns$Reader" "letters" "[I") ∈ sy_W := sy_W_of (tk_1 _ (List.mem_of_getElem? (i := 155) rfl)) rfl
theorem wm_107 : (Cond.classLink RX6 15 RX3) ∈ sy_W := sy_W_of (tk_1 _ (List.mem_of_getElem? (i := 153) rfl)) rfl
theorem wm_108 : (Cond.fieldLink RX6 18 "SkyTurns$Reader" "draft" "LSkyTurns$Edge;") ∈ sy_W := sy_W_of (tk_1 _ (List.mem_of_getElem? (i := 156) rfl)) rfl
theorem wm_109 : (Cond.fieldLink RX6 22 "SkyTurns$Reader" "faultAt" "I") ∈ sy_W := sy_W_of (tk_1 _ (List.mem_of_getElem? (i := 162) rfl)) rfl
theorem wm_110 : (Cond.methodLink RX6 17 yX3_init) ∈ sy_W := sy_W_of (tk_1 _ (List.mem_of_getElem? (i := 154) rfl)) rfl
theorem wm_111 : (Cond.methodLink RX11 37 yX5_init) ∈ sy_W := sy_W_of (tk_1 _ (List.mem_of_getElem? (i := 189) rfl)) rfl
theorem wm_112 : (Cond.instanceMethod yX5_init) ∈ sy_W := sy_W_of (tk_1 _ (List.mem_of_getElem? (i := 190) rfl)) rfl
theorem wm_113 : (Cond.code yX5_init cX5_init 3 none) ∈ sy_W := sy_W_of (tk_1 _ (List.mem_of_getElem? (i := 191) rfl)) rfl
theorem wm_114 : (Cond.methodLink RX5 3 objectInit) ∈ sy_W := sy_W_of (tk_1 _ (List.mem_of_getElem? (i := 192) rfl)) rfl
theorem wm_115 : (Cond.classLink RX5 9 RX10) ∈ sy_W := sy_W_of (tk_1 _ (List.mem_of_getElem? (i := 193) rfl)) rfl
theorem wm_116 : (Cond.fieldLink RX5 11 "SkyTurns$Past" "skies" "[LSkyTurns$Sky;") ∈ sy_W := sy_W_of (tk_1 _ (List.mem_of_getElem? (i := 195) rfl)) rfl
theorem wm_117 : (Cond.methodLink RX5 17 yX10_init) ∈ sy_W := sy_W_of (tk_1 _ (List.mem_of_getElem? (i := 194) rfl)) rfl
theorem wm_118 : (Cond.methodLink RX11 56 yX9_init) ∈ sy_W := sy_W_of (tk_1 _ (List.mem_of_getElem? (i := 208) rfl)) rfl
theorem wm_119 : (Cond.instanceMethod yX9_init) ∈ sy_W := sy_W_of (tk_1 _ (List.mem_of_getElem? (i := 209) rfl)) rfl
theorem wm_120 : (Cond.code yX9_init cX9_init 3 none) ∈ sy_W := sy_W_of (tk_1 _ (List.mem_of_getElem? (i := 210) rfl)) rfl
theorem wm_121 : (Cond.fieldLink RX9 9 "SkyTurns$ShiftRows" "bestRow" "[I") ∈ sy_W := sy_W_of (tk_1 _ (List.mem_of_getElem? (i := 215) rfl)) rfl
theorem wm_122 : (Cond.methodLink RX9 3 yX7_init) ∈ sy_W := sy_W_of (tk_1 _ (List.mem_of_getElem? (i := 211) rfl)) rfl
theorem wm_123 : (Cond.instanceMethod yX7_init) ∈ sy_W := sy_W_of (tk_1 _ (List.mem_of_getElem? (i := 212) rfl)) rfl
theorem wm_124 : (Cond.initialized RX7) ∈ sy_W := sy_W_of (tk_1 _ (List.mem_of_getElem? (i := 6) rfl)) rfl
theorem wm_125 : (Cond.code yX7_init cX7_init 3 none) ∈ sy_W := sy_W_of (tk_1 _ (List.mem_of_getElem? (i := 213) rfl)) rfl
theorem wm_126 : (Cond.methodLink RX7 3 objectInit) ∈ sy_W := sy_W_of (tk_1 _ (List.mem_of_getElem? (i := 214) rfl)) rfl
theorem wm_127 : (Cond.fieldLink RX7 9 "SkyTurns$Rows" "row" "[I") ∈ sy_W := sy_W_of (tk_1 _ (List.mem_of_getElem? (i := 221) rfl)) rfl
theorem wm_128 : (Cond.fieldLink RX7 15 "SkyTurns$Rows" "hoursOf" "[I") ∈ sy_W := sy_W_of (tk_1 _ (List.mem_of_getElem? (i := 226) rfl)) rfl
theorem wm_129 : (Cond.fieldLink RX7 18 "SkyTurns$Rows" "told" "LSkyTurns$Edge;") ∈ sy_W := sy_W_of (tk_1 _ (List.mem_of_getElem? (i := 219) rfl)) rfl
theorem wm_130 : (Cond.fieldLink RX7 22 "SkyTurns$Rows" "levels" "[LSkyTurns$Sky;") ∈ sy_W := sy_W_of (tk_1 _ (List.mem_of_getElem? (i := 220) rfl)) rfl
theorem wm_131 : (Cond.methodLink RX11 65 yX8_init) ∈ sy_W := sy_W_of (tk_2 _ (List.mem_of_getElem? (i := 18) rfl)) rfl
theorem wm_132 : (Cond.instanceMethod yX8_init) ∈ sy_W := sy_W_of (tk_2 _ (List.mem_of_getElem? (i := 19) rfl)) rfl
theorem wm_133 : (Cond.code yX8_init cX8_init 3 none) ∈ sy_W := sy_W_of (tk_2 _ (List.mem_of_getElem? (i := 20) rfl)) rfl
theorem wm_134 : (Cond.fieldLink RX8 9 "SkyTurns$SeenRows" "seen" "[I") ∈ sy_W := sy_W_of (tk_2 _ (List.mem_of_getElem? (i := 22) rfl)) rfl
theorem wm_135 : (Cond.fieldLink RX8 15 "SkyTurns$SeenRows" "firstRow" "[I") ∈ sy_W := sy_W_of (tk_2 _ (List.mem_of_getElem? (i := 23) rfl)) rfl
theorem wm_136 : (Cond.methodLink RX8 3 yX7_init) ∈ sy_W := sy_W_of (tk_2 _ (List.mem_of_getElem? (i := 21) rfl)) rfl
theorem wm_137 : (Cond.methodLink RX11 72 yX1_init) ∈ sy_W := sy_W_of (tk_2 _ (List.mem_of_getElem? (i := 48) rfl)) rfl
theorem wm_138 : (Cond.instanceMethod yX1_init) ∈ sy_W := sy_W_of (tk_2 _ (List.mem_of_getElem? (i := 49) rfl)) rfl
theorem wm_139 : (Cond.code yX1_init cX1_init 2 none) ∈ sy_W := sy_W_of (tk_2 _ (List.mem_of_getElem? (i := 50) rfl)) rfl
theorem wm_140 : (Cond.methodLink RX1 3 objectInit) ∈ sy_W := sy_W_of (tk_2 _ (List.mem_of_getElem? (i := 51) rfl)) rfl
theorem wm_141 : (Cond.fieldLink RX1 9 "SkyTurns$Chain" "falls" "[Z") ∈ sy_W := sy_W_of (tk_2 _ (List.mem_of_getElem? (i := 53) rfl)) rfl
theorem wm_142 : (Cond.fieldLink RX1 15 "SkyTurns$Chain" "starts" "[Z") ∈ sy_W := sy_W_of (tk_2 _ (List.mem_of_getElem? (i := 54) rfl)) rfl
theorem wm_143 : (Cond.fieldLink RX1 18 "SkyTurns$Chain" "stepsLeft" "[I") ∈ sy_W := sy_W_of (tk_2 _ (List.mem_of_getElem? (i := 55) rfl)) rfl
theorem wm_144 : (Cond.fieldLink RX1 22 "SkyTurns$Chain" "way" "[I") ∈ sy_W := sy_W_of (tk_2 _ (List.mem_of_getElem? (i := 56) rfl)) rfl
theorem wm_145 : (Cond.fieldLink RX1 25 "SkyTurns$Chain" "told" "LSkyTurns$Edge;") ∈ sy_W := sy_W_of (tk_2 _ (List.mem_of_getElem? (i := 52) rfl)) rfl
theorem wm_146 : (Cond.instanceMethod yX0_init) ∈ sy_W := sy_W_of (tk_2 _ (List.mem_of_getElem? (i := 75) rfl)) rfl
theorem wm_147 : (Cond.code yX0_init cX0_init 1 none) ∈ sy_W := sy_W_of (tk_2 _ (List.mem_of_getElem? (i := 76) rfl)) rfl
theorem wm_148 : (Cond.methodLink RX0 3 objectInit) ∈ sy_W := sy_W_of (tk_2 _ (List.mem_of_getElem? (i := 77) rfl)) rfl
theorem wm_149 : (Cond.fieldLink RX0 9 "SkyTurns$Book" "persons" "[I") ∈ sy_W := sy_W_of (tk_2 _ (List.mem_of_getElem? (i := 78) rfl)) rfl
theorem wm_150 : (Cond.fieldLink RX0 15 "SkyTurns$Book" "wordsTold" "[I") ∈ sy_W := sy_W_of (tk_2 _ (List.mem_of_getElem? (i := 79) rfl)) rfl
theorem wm_151 : (Cond.fieldLink RX0 18 "SkyTurns$Book" "taken" "[Z") ∈ sy_W := sy_W_of (tk_2 _ (List.mem_of_getElem? (i := 80) rfl)) rfl
theorem wm_152 : (Cond.methodLink RX11 86 yX2_init) ∈ sy_W := sy_W_of (tk_2 _ (List.mem_of_getElem? (i := 94) rfl)) rfl
theorem wm_153 : (Cond.instanceMethod yX2_init) ∈ sy_W := sy_W_of (tk_2 _ (List.mem_of_getElem? (i := 95) rfl)) rfl
theorem wm_154 : (Cond.code yX2_init cX2_init 2 none) ∈ sy_W := sy_W_of (tk_2 _ (List.mem_of_getElem? (i := 96) rfl)) rfl
theorem wm_155 : (Cond.methodLink RX2 3 objectInit) ∈ sy_W := sy_W_of (tk_2 _ (List.mem_of_getElem? (i := 97) rfl)) rfl
theorem wm_156 : (Cond.fieldLink RX2 11 "SkyTurns$Debts" "sums" "[I") ∈ sy_W := sy_W_of (tk_2 _ (List.mem_of_getElem? (i := 99) rfl)) rfl
theorem wm_157 : (Cond.fieldLink RX2 15 "SkyTurns$Debts" "groups" "[I") ∈ sy_W := sy_W_of (tk_2 _ (List.mem_of_getElem? (i := 100) rfl)) rfl
theorem wm_158 : (Cond.fieldLink RX2 18 "SkyTurns$Debts" "told" "LSkyTurns$Edge;") ∈ sy_W := sy_W_of (tk_2 _ (List.mem_of_getElem? (i := 98) rfl)) rfl
theorem wm_159 : (Cond.instanceMethod yX4_init) ∈ sy_W := sy_W_of (tk_2 _ (List.mem_of_getElem? (i := 111) rfl)) rfl
theorem wm_160 : (Cond.code yX4_init cX4_init 1 none) ∈ sy_W := sy_W_of (tk_2 _ (List.mem_of_getElem? (i := 112) rfl)) rfl
theorem wm_161 : (Cond.methodLink RX4 1 objectInit) ∈ sy_W := sy_W_of (tk_2 _ (List.mem_of_getElem? (i := 113) rfl)) rfl
theorem wm_162 : (Cond.methodLink RL 12 yX12_init) ∈ sy_W := sy_W_of (tk_4 _ (List.mem_of_getElem? (i := 226) rfl)) rfl
theorem wm_163 : (Cond.instanceMethod yX12_init) ∈ sy_W := sy_W_of (tk_4 _ (List.mem_of_getElem? (i := 227) rfl)) rfl
theorem wm_164 : (Cond.code yX12_init cX12_init 1 none) ∈ sy_W := sy_W_of (tk_4 _ (List.mem_of_getElem? (i := 228) rfl)) rfl
theorem wm_165 : (Cond.methodLink RX12 1 objectInit) ∈ sy_W := sy_W_of (tk_4 _ (List.mem_of_getElem? (i := 229) rfl)) rfl
theorem wm_166 : (Cond.fieldLink RX12 7 "SkyTurnsModel" "text" "[I") ∈ sy_W := sy_W_of (tk_4 _ (List.mem_of_getElem? (i := 235) rfl)) rfl
theorem wm_167 : (Cond.fieldLink RX12 13 "SkyTurnsModel" "faultAt" "I") ∈ sy_W := sy_W_of (tk_5 _ (List.mem_of_getElem? (i := 0) rfl)) rfl
theorem wm_168 : (Cond.fieldLink RX12 17 "SkyTurnsModel" "readWeight" "[I") ∈ sy_W := sy_W_of (tk_5 _ (List.mem_of_getElem? (i := 3) rfl)) rfl
theorem wm_169 : (Cond.fieldLink RX12 20 "SkyTurnsModel" "read" "[I") ∈ sy_W := sy_W_of (tk_5 _ (List.mem_of_getElem? (i := 5) rfl)) rfl
theorem wm_170 : (Cond.fieldLink RX12 23 "SkyTurnsModel" "readWord" "[I") ∈ sy_W := sy_W_of (tk_5 _ (List.mem_of_getElem? (i := 6) rfl)) rfl
theorem wm_171 : (Cond.fieldLink RX12 26 "SkyTurnsModel" "weight" "[I") ∈ sy_W := sy_W_of (tk_5 _ (List.mem_of_getElem? (i := 12) rfl)) rfl
theorem wm_172 : (Cond.fieldLink RX12 29 "SkyTurnsModel" "person" "[I") ∈ sy_W := sy_W_of (tk_5 _ (List.mem_of_getElem? (i := 14) rfl)) rfl
theorem wm_173 : (Cond.fieldLink RX12 32 "SkyTurnsModel" "word" "[I") ∈ sy_W := sy_W_of (tk_5 _ (List.mem_of_getElem? (i := 15) rfl)) rfl
theorem wm_174 : (Cond.fieldLink RX12 35 "SkyTurnsModel" "now" "[I") ∈ sy_W := sy_W_of (tk_5 _ (List.mem_of_getElem? (i := 16) rfl)) rfl
theorem wm_175 : (Cond.fieldLink RX12 38 "SkyTurnsModel" "tried" "[I") ∈ sy_W := sy_W_of (tk_5 _ (List.mem_of_getElem? (i := 17) rfl)) rfl
theorem wm_176 : (Cond.fieldLink RX12 41 "SkyTurnsModel" "image" "[I") ∈ sy_W := sy_W_of (tk_5 _ (List.mem_of_getElem? (i := 18) rfl)) rfl
theorem wm_177 : (Cond.fieldLink RX12 44 "SkyTurnsModel" "isKept" "[Z") ∈ sy_W := sy_W_of (tk_5 _ (List.mem_of_getElem? (i := 19) rfl)) rfl
theorem wm_178 : (Cond.fieldLink RX12 48 "SkyTurnsModel" "backOf" "[I") ∈ sy_W := sy_W_of (tk_5 _ (List.mem_of_getElem? (i := 21) rfl)) rfl
theorem wm_179 : (Cond.fieldLink RX12 51 "SkyTurnsModel" "sight" "[I") ∈ sy_W := sy_W_of (tk_5 _ (List.mem_of_getElem? (i := 23) rfl)) rfl
theorem wm_180 : (Cond.fieldLink RX12 54 "SkyTurnsModel" "line" "[I") ∈ sy_W := sy_W_of (tk_5 _ (List.mem_of_getElem? (i := 25) rfl)) rfl
theorem wm_181 : (Cond.fieldLink RX12 57 "SkyTurnsModel" "row" "[I") ∈ sy_W := sy_W_of (tk_5 _ (List.mem_of_getElem? (i := 26) rfl)) rfl
theorem wm_182 : (Cond.fieldLink RX12 60 "SkyTurnsModel" "found" "[I") ∈ sy_W := sy_W_of (tk_5 _ (List.mem_of_getElem? (i := 27) rfl)) rfl
theorem wm_183 : (Cond.fieldLink RX12 63 "SkyTurnsModel" "sums" "[I") ∈ sy_W := sy_W_of (tk_5 _ (List.mem_of_getElem? (i := 28) rfl)) rfl
theorem wm_184 : (Cond.methodLink RX12 66 yX12_begin) ∈ sy_W := sy_W_of (tk_4 _ (List.mem_of_getElem? (i := 230) rfl)) rfl
theorem wm_185 : (Cond.instanceMethod yX12_begin) ∈ sy_W := sy_W_of (tk_4 _ (List.mem_of_getElem? (i := 232) rfl)) rfl
theorem wm_186 : (Cond.selects RX12 yX12_begin yX12_begin) ∈ sy_W := sy_W_of (tp_2 (yX12_begin, 35) (List.mem_of_getElem? (i := 12) rfl)) rfl
theorem wm_187 : (Cond.code yX12_begin cX12_begin 2 none) ∈ sy_W := sy_W_of (tk_4 _ (List.mem_of_getElem? (i := 233) rfl)) rfl
theorem wm_188 : (Cond.fieldLink RX12 69 "SkyTurnsModel" "many" "I") ∈ sy_W := sy_W_of (tk_5 _ (List.mem_of_getElem? (i := 13) rfl)) rfl
theorem wm_189 : (Cond.fieldLink RX12 76 "SkyTurnsModel" "backs" "I") ∈ sy_W := sy_W_of (tk_5 _ (List.mem_of_getElem? (i := 20) rfl)) rfl
theorem wm_190 : (Cond.fieldLink RX12 79 "SkyTurnsModel" "sights" "I") ∈ sy_W := sy_W_of (tk_5 _ (List.mem_of_getElem? (i := 22) rfl)) rfl
theorem wm_191 : (Cond.fieldLink RX12 82 "SkyTurnsModel" "lines" "I") ∈ sy_W := sy_W_of (tk_5 _ (List.mem_of_getElem? (i := 24) rfl)) rfl
theorem wm_192 : (Cond.methodLink RL 13 yX11_feed) ∈ sy_W := sy_W_of (tk_2 _ (List.mem_of_getElem? (i := 192) rfl)) rfl
theorem wm_193 : (Cond.instanceMethod yX11_feed) ∈ sy_W := sy_W_of (tk_2 _ (List.mem_of_getElem? (i := 193) rfl)) rfl
theorem wm_194 : (Cond.selects RX11 yX11_feed yX11_feed) ∈ sy_W := sy_W_of (tk_2 _ (List.mem_of_getElem? (i := 194) rfl)) rfl
theorem wm_195 : (Cond.code yX11_feed cX11_feed 2 (some .int)) ∈ sy_W := sy_W_of (tk_2 _ (List.mem_of_getElem? (i := 195) rfl)) rfl
theorem wm_196 : (Cond.constant RX11 105 (-1000000002)) ∈ sy_W := sy_W_of (tk_2 _ (List.mem_of_getElem? (i := 196) rfl)) rfl
theorem wm_197 : (Cond.fieldLink RX11 106 "SkyTurns$Reader" "length" "I") ∈ sy_W := sy_W_of (tk_1 _ (List.mem_of_getElem? (i := 159) rfl)) rfl
theorem wm_198 : (Cond.constant RX11 109 (-1000000004)) ∈ sy_W := sy_W_of (tk_2 _ (List.mem_of_getElem? (i := 197) rfl)) rfl
theorem wm_199 : (Cond.methodLink RX11 110 yX6_add) ∈ sy_W := sy_W_of (tk_2 _ (List.mem_of_getElem? (i := 198) rfl)) rfl
theorem wm_200 : (Cond.instanceMethod yX6_add) ∈ sy_W := sy_W_of (tk_2 _ (List.mem_of_getElem? (i := 199) rfl)) rfl
theorem wm_201 : (Cond.selects RX6 yX6_add yX6_add) ∈ sy_W := sy_W_of (tk_2 _ (List.mem_of_getElem? (i := 200) rfl)) rfl
theorem wm_202 : (Cond.code yX6_add cX6_add 2 (some .int)) ∈ sy_W := sy_W_of (tk_2 _ (List.mem_of_getElem? (i := 201) rfl)) rfl
theorem wm_203 : (Cond.fieldLink RX6 26 "SkyTurns$Reader" "length" "I") ∈ sy_W := sy_W_of (tk_1 _ (List.mem_of_getElem? (i := 158) rfl)) rfl
theorem wm_204 : (Cond.methodLink RL 17 yX12_feed) ∈ sy_W := sy_W_of (tk_5 _ (List.mem_of_getElem? (i := 100) rfl)) rfl
theorem wm_205 : (Cond.instanceMethod yX12_feed) ∈ sy_W := sy_W_of (tk_5 _ (List.mem_of_getElem? (i := 101) rfl)) rfl
theorem wm_206 : (Cond.selects RX12 yX12_feed yX12_feed) ∈ sy_W := sy_W_of (tk_5 _ (List.mem_of_getElem? (i := 102) rfl)) rfl
theorem wm_207 : (Cond.code yX12_feed cX12_feed 2 (some .int)) ∈ sy_W := sy_W_of (tk_5 _ (List.mem_of_getElem? (i := 103) rfl)) rfl
theorem wm_208 : (Cond.constant RX12 85 (-1000000002)) ∈ sy_W := sy_W_of (tk_5 _ (List.mem_of_getElem? (i := 107) rfl)) rfl
theorem wm_209 : (Cond.fieldLink RX12 86 "SkyTurnsModel" "letters" "I") ∈ sy_W := sy_W_of (tk_4 _ (List.mem_of_getElem? (i := 234) rfl)) rfl
theorem wm_210 : (Cond.constant RX12 89 (-1000000004)) ∈ sy_W := sy_W_of (tk_5 _ (List.mem_of_getElem? (i := 108) rfl)) rfl
theorem wm_211 : (Cond.methodLink RX12 72 yX12_in) ∈ sy_W := sy_W_of (tk_5 _ (List.mem_of_getElem? (i := 104) rfl)) rfl
theorem wm_212 : (Cond.static yX12_in) ∈ sy_W := sy_W_of (tk_5 _ (List.mem_of_getElem? (i := 105) rfl)) rfl
theorem wm_213 : (Cond.code yX12_in cX12_in 3 (some .boolean)) ∈ sy_W := sy_W_of (tk_5 _ (List.mem_of_getElem? (i := 106) rfl)) rfl
theorem wm_214 : (Cond.methodLink RL 18 yX11_edge) ∈ sy_W := sy_W_of (tk_2 _ (List.mem_of_getElem? (i := 202) rfl)) rfl
theorem wm_215 : (Cond.instanceMethod yX11_edge) ∈ sy_W := sy_W_of (tk_2 _ (List.mem_of_getElem? (i := 203) rfl)) rfl
theorem wm_216 : (Cond.selects RX11 yX11_edge yX11_edge) ∈ sy_W := sy_W_of (tk_2 _ (List.mem_of_getElem? (i := 204) rfl)) rfl
theorem wm_217 : (Cond.code yX11_edge cX11_edge 2 (some .int)) ∈ sy_W := sy_W_of (tk_2 _ (List.mem_of_getElem? (i := 205) rfl)) rfl
theorem wm_218 : (Cond.fieldLink RX11 117 "SkyTurns$Reader" "faultAt" "I") ∈ sy_W := sy_W_of (tk_1 _ (List.mem_of_getElem? (i := 163) rfl)) rfl
theorem wm_219 : (Cond.fieldLink RX11 120 "SkyTurns$Reader" "faultKind" "I") ∈ sy_W := sy_W_of (tk_1 _ (List.mem_of_getElem? (i := 161) rfl)) rfl
theorem wm_220 : (Cond.fieldLink RX11 123 "SkyTurns$Reader" "draft" "LSkyTurns$Edge;") ∈ sy_W := sy_W_of (tk_1 _ (List.mem_of_getElem? (i := 157) rfl)) rfl
theorem wm_221 : (Cond.fieldLink RX11 139 "SkyTurns$Edge" "people" "I") ∈ sy_W := sy_W_of (tk_1 _ (List.mem_of_getElem? (i := 63) rfl)) rfl
theorem wm_222 : (Cond.methodLink RX11 114 yX6_readText) ∈ sy_W := sy_W_of (tk_2 _ (List.mem_of_getElem? (i := 206) rfl)) rfl
theorem wm_223 : (Cond.instanceMethod yX6_readText) ∈ sy_W := sy_W_of (tk_2 _ (List.mem_of_getElem? (i := 207) rfl)) rfl
theorem wm_224 : (Cond.selects RX6 yX6_readText yX6_readText) ∈ sy_W := sy_W_of (tk_2 _ (List.mem_of_getElem? (i := 208) rfl)) rfl
theorem wm_225 : (Cond.code yX6_readText cX6_readText 2 none) ∈ sy_W := sy_W_of (tk_2 _ (List.mem_of_getElem? (i := 209) rfl)) rfl
theorem wm_226 : (Cond.fieldLink RX6 32 "SkyTurns$Reader" "faultKind" "I") ∈ sy_W := sy_W_of (tk_1 _ (List.mem_of_getElem? (i := 160) rfl)) rfl
theorem wm_227 : (Cond.fieldLink RX6 35 "SkyTurns$Reader" "at" "I") ∈ sy_W := sy_W_of (tk_1 _ (List.mem_of_getElem? (i := 164) rfl)) rfl
theorem wm_228 : (Cond.fieldLink RX6 38 "SkyTurns$Reader" "goodnessTold" "Z") ∈ sy_W := sy_W_of (tk_1 _ (List.mem_of_getElem? (i := 166) rfl)) rfl
theorem wm_229 : (Cond.fieldLink RX6 42 "SkyTurns$Reader" "fruitTold" "Z") ∈ sy_W := sy_W_of (tk_1 _ (List.mem_of_getElem? (i := 167) rfl)) rfl
theorem wm_230 : (Cond.methodLink RX6 29 yX3_clear) ∈ sy_W := sy_W_of (tk_2 _ (List.mem_of_getElem? (i := 210) rfl)) rfl
theorem wm_231 : (Cond.methodLink RX6 45 yX6_hasMore) ∈ sy_W := sy_W_of (tk_2 _ (List.mem_of_getElem? (i := 211) rfl)) rfl
theorem wm_232 : (Cond.instanceMethod yX6_hasMore) ∈ sy_W := sy_W_of (tk_2 _ (List.mem_of_getElem? (i := 213) rfl)) rfl
theorem wm_233 : (Cond.selects RX6 yX6_hasMore yX6_hasMore) ∈ sy_W := sy_W_of (tp_1 (yX6_hasMore, 9) (List.mem_of_getElem? (i := 0) rfl)) rfl
theorem wm_234 : (Cond.code yX6_hasMore cX6_hasMore 1 (some .boolean)) ∈ sy_W := sy_W_of (tk_2 _ (List.mem_of_getElem? (i := 214) rfl)) rfl
theorem wm_235 : (Cond.methodLink RX6 52 yX6_skipBlanks) ∈ sy_W := sy_W_of (tk_2 _ (List.mem_of_getElem? (i := 215) rfl)) rfl
theorem wm_236 : (Cond.instanceMethod yX6_skipBlanks) ∈ sy_W := sy_W_of (tk_2 _ (List.mem_of_getElem? (i := 217) rfl)) rfl
theorem wm_237 : (Cond.selects RX6 yX6_skipBlanks yX6_skipBlanks) ∈ sy_W := sy_W_of (tp_1 (yX6_skipBlanks, 9) (List.mem_of_getElem? (i := 1) rfl)) rfl
theorem wm_238 : (Cond.code yX6_skipBlanks cX6_skipBlanks 1 none) ∈ sy_W := sy_W_of (tk_2 _ (List.mem_of_getElem? (i := 218) rfl)) rfl
theorem wm_239 : (Cond.methodLink RX6 49 yX6_readClause) ∈ sy_W := sy_W_of (tk_2 _ (List.mem_of_getElem? (i := 219) rfl)) rfl
theorem wm_240 : (Cond.instanceMethod yX6_readClause) ∈ sy_W := sy_W_of (tk_2 _ (List.mem_of_getElem? (i := 221) rfl)) rfl
theorem wm_241 : (Cond.selects RX6 yX6_readClause yX6_readClause) ∈ sy_W := sy_W_of (tp_1 (yX6_readClause, 9) (List.mem_of_getElem? (i := 2) rfl)) rfl
theorem wm_242 : (Cond.code yX6_readClause cX6_readClause 2 none) ∈ sy_W := sy_W_of (tk_2 _ (List.mem_of_getElem? (i := 222) rfl)) rfl
theorem wm_243 : (Cond.fieldLink RX6 58 "SkyTurns$Edge" "weightCount" "I") ∈ sy_W := sy_W_of (tk_1 _ (List.mem_of_getElem? (i := 57) rfl)) rfl
theorem wm_244 : (Cond.methodLink RX6 55 yX6_readWeights) ∈ sy_W := sy_W_of (tk_2 _ (List.mem_of_getElem? (i := 223) rfl)) rfl
theorem wm_245 : (Cond.instanceMethod yX6_readWeights) ∈ sy_W := sy_W_of (tk_2 _ (List.mem_of_getElem? (i := 225) rfl)) rfl
theorem wm_246 : (Cond.selects RX6 yX6_readWeights yX6_readWeights) ∈ sy_W := sy_W_of (tp_1 (yX6_readWeights, 9) (List.mem_of_getElem? (i := 3) rfl)) rfl
theorem wm_247 : (Cond.code yX6_readWeights cX6_readWeights 4 none) ∈ sy_W := sy_W_of (tk_2 _ (List.mem_of_getElem? (i := 226) rfl)) rfl
theorem wm_248 : (Cond.methodLink RX6 61 yX6_fail) ∈ sy_W := sy_W_of (tk_2 _ (List.mem_of_getElem? (i := 227) rfl)) rfl
theorem wm_249 : (Cond.instanceMethod yX6_fail) ∈ sy_W := sy_W_of (tk_2 _ (List.mem_of_getElem? (i := 229) rfl)) rfl
theorem wm_250 : (Cond.selects RX6 yX6_fail yX6_fail) ∈ sy_W := sy_W_of (tp_1 (yX6_fail, 9) (List.mem_of_getElem? (i := 4) rfl)) rfl
theorem wm_251 : (Cond.code yX6_fail cX6_fail 3 none) ∈ sy_W := sy_W_of (tk_2 _ (List.mem_of_getElem? (i := 230) rfl)) rfl
theorem wm_252 : (Cond.methodLink RX6 74 yX6_readNumber) ∈ sy_W := sy_W_of (tk_2 _ (List.mem_of_getElem? (i := 231) rfl)) rfl
theorem wm_253 : (Cond.instanceMethod yX6_readNumber) ∈ sy_W := sy_W_of (tk_2 _ (List.mem_of_getElem? (i := 233) rfl)) rfl
theorem wm_254 : (Cond.selects RX6 yX6_readNumber yX6_readNumber) ∈ sy_W := sy_W_of (tp_1 (yX6_readNumber, 9) (List.mem_of_getElem? (i := 5) rfl)) rfl
theorem wm_255 : (Cond.code yX6_readNumber cX6_readNumber 5 (some .int)) ∈ sy_W := sy_W_of (tk_2 _ (List.mem_of_getElem? (i := 234) rfl)) rfl
theorem wm_256 : (Cond.fieldLink RX6 103 "SkyTurns$Reader" "numberAt" "I") ∈ sy_W := sy_W_of (tk_1 _ (List.mem_of_getElem? (i := 165) rfl)) rfl
theorem wm_257 : (Cond.methodLink RX6 113 yX6_isFigure) ∈ sy_W := sy_W_of (tk_2 _ (List.mem_of_getElem? (i := 235) rfl)) rfl
theorem wm_258 : (Cond.static yX6_isFigure) ∈ sy_W := sy_W_of (tk_2 _ (List.mem_of_getElem? (i := 236) rfl)) rfl
theorem wm_259 : (Cond.code yX6_isFigure cX6_isFigure 1 (some .boolean)) ∈ sy_W := sy_W_of (tk_2 _ (List.mem_of_getElem? (i := 237) rfl)) rfl
theorem wm_260 : (Cond.methodLink RX6 78 yX3_addWeight) ∈ sy_W := sy_W_of (tk_2 _ (List.mem_of_getElem? (i := 238) rfl)) rfl
theorem wm_261 : (Cond.instanceMethod yX3_addWeight) ∈ sy_W := sy_W_of (tk_2 _ (List.mem_of_getElem? (i := 239) rfl)) rfl
theorem wm_262 : (Cond.selects RX3 yX3_addWeight yX3_addWeight) ∈ sy_W := sy_W_of (tk_3 _ (List.mem_of_getElem? (i := 0) rfl)) rfl
theorem wm_263 : (Cond.code yX3_addWeight cX3_addWeight 2 none) ∈ sy_W := sy_W_of (tk_3 _ (List.mem_of_getElem? (i := 1) rfl)) rfl
theorem wm_264 : (Cond.methodLink RX6 82 yX6_isNext) ∈ sy_W := sy_W_of (tk_3 _ (List.mem_of_getElem? (i := 2) rfl)) rfl
theorem wm_265 : (Cond.instanceMethod yX6_isNext) ∈ sy_W := sy_W_of (tk_3 _ (List.mem_of_getElem? (i := 4) rfl)) rfl
theorem wm_266 : (Cond.selects RX6 yX6_isNext yX6_isNext) ∈ sy_W := sy_W_of (tp_1 (yX6_isNext, 9) (List.mem_of_getElem? (i := 6) rfl)) rfl
theorem wm_267 : (Cond.code yX6_isNext cX6_isNext 2 (some .boolean)) ∈ sy_W := sy_W_of (tk_3 _ (List.mem_of_getElem? (i := 5) rfl)) rfl
theorem wm_268 : (Cond.methodLink RX6 86 yX6_readEnd) ∈ sy_W := sy_W_of (tk_3 _ (List.mem_of_getElem? (i := 6) rfl)) rfl
theorem wm_269 : (Cond.instanceMethod yX6_readEnd) ∈ sy_W := sy_W_of (tk_3 _ (List.mem_of_getElem? (i := 8) rfl)) rfl
theorem wm_270 : (Cond.selects RX6 yX6_readEnd yX6_readEnd) ∈ sy_W := sy_W_of (tp_1 (yX6_readEnd, 9) (List.mem_of_getElem? (i := 7) rfl)) rfl
theorem wm_271 : (Cond.code yX6_readEnd cX6_readEnd 1 none) ∈ sy_W := sy_W_of (tk_3 _ (List.mem_of_getElem? (i := 9) rfl)) rfl
theorem wm_272 : (Cond.methodLink RX6 65 yX6_readPerson) ∈ sy_W := sy_W_of (tk_3 _ (List.mem_of_getElem? (i := 10) rfl)) rfl
theorem wm_273 : (Cond.instanceMethod yX6_readPerson) ∈ sy_W := sy_W_of (tk_3 _ (List.mem_of_getElem? (i := 12) rfl)) rfl
theorem wm_274 : (Cond.selects RX6 yX6_readPerson yX6_readPerson) ∈ sy_W := sy_W_of (tp_1 (yX6_readPerson, 9) (List.mem_of_getElem? (i := 8) rfl)) rfl
theorem wm_275 : (Cond.code yX6_readPerson cX6_readPerson 6 none) ∈ sy_W := sy_W_of (tk_3 _ (List.mem_of_getElem? (i := 13) rfl)) rfl
theorem wm_276 : (Cond.fieldLink RX6 89 "SkyTurns$Edge" "people" "I") ∈ sy_W := sy_W_of (tk_1 _ (List.mem_of_getElem? (i := 65) rfl)) rfl
theorem wm_277 : (Cond.methodLink RX6 92 yX6_readFather) ∈ sy_W := sy_W_of (tk_3 _ (List.mem_of_getElem? (i := 14) rfl)) rfl
theorem wm_278 : (Cond.instanceMethod yX6_readFather) ∈ sy_W := sy_W_of (tk_3 _ (List.mem_of_getElem? (i := 16) rfl)) rfl
theorem wm_279 : (Cond.selects RX6 yX6_readFather yX6_readFather) ∈ sy_W := sy_W_of (tp_1 (yX6_readFather, 9) (List.mem_of_getElem? (i := 9) rfl)) rfl
theorem wm_280 : (Cond.code yX6_readFather cX6_readFather 2 (some .int)) ∈ sy_W := sy_W_of (tk_3 _ (List.mem_of_getElem? (i := 17) rfl)) rfl
theorem wm_281 : (Cond.methodLink RX6 100 yX3_isPerson) ∈ sy_W := sy_W_of (tk_3 _ (List.mem_of_getElem? (i := 18) rfl)) rfl
theorem wm_282 : (Cond.instanceMethod yX3_isPerson) ∈ sy_W := sy_W_of (tk_3 _ (List.mem_of_getElem? (i := 19) rfl)) rfl
theorem wm_283 : (Cond.selects RX3 yX3_isPerson yX3_isPerson) ∈ sy_W := sy_W_of (tk_3 _ (List.mem_of_getElem? (i := 20) rfl)) rfl
theorem wm_284 : (Cond.code yX3_isPerson cX3_isPerson 2 (some .boolean)) ∈ sy_W := sy_W_of (tk_3 _ (List.mem_of_getElem? (i := 21) rfl)) rfl
theorem wm_285 : (Cond.methodLink RX6 96 yX3_addPerson) ∈ sy_W := sy_W_of (tk_3 _ (List.mem_of_getElem? (i := 22) rfl)) rfl
theorem wm_286 : (Cond.instanceMethod yX3_addPerson) ∈ sy_W := sy_W_of (tk_3 _ (List.mem_of_getElem? (i := 23) rfl)) rfl
theorem wm_287 : (Cond.selects RX3 yX3_addPerson yX3_addPerson) ∈ sy_W := sy_W_of (tk_3 _ (List.mem_of_getElem? (i := 24) rfl)) rfl
theorem wm_288 : (Cond.code yX3_addPerson cX3_addPerson 6 none) ∈ sy_W := sy_W_of (tk_3 _ (List.mem_of_getElem? (i := 25) rfl)) rfl
theorem wm_289 : (Cond.methodLink RX6 68 yX6_readGoodness) ∈ sy_W := sy_W_of (tk_3 _ (List.mem_of_getElem? (i := 26) rfl)) rfl
theorem wm_290 : (Cond.instanceMethod yX6_readGoodness) ∈ sy_W := sy_W_of (tk_3 _ (List.mem_of_getElem? (i := 28) rfl)) rfl
theorem wm_291 : (Cond.selects RX6 yX6_readGoodness yX6_readGoodness) ∈ sy_W := sy_W_of (tp_1 (yX6_readGoodness, 9) (List.mem_of_getElem? (i := 10) rfl)) rfl
theorem wm_292 : (Cond.code yX6_readGoodness cX6_readGoodness 4 none) ∈ sy_W := sy_W_of (tk_3 _ (List.mem_of_getElem? (i := 29) rfl)) rfl
theorem wm_293 : (Cond.methodLink RX6 106 yX3_setGoodness) ∈ sy_W := sy_W_of (tk_3 _ (List.mem_of_getElem? (i := 30) rfl)) rfl
theorem wm_294 : (Cond.methodLink RX6 71 yX6_readFruit) ∈ sy_W := sy_W_of (tk_3 _ (List.mem_of_getElem? (i := 31) rfl)) rfl
theorem wm_295 : (Cond.instanceMethod yX6_readFruit) ∈ sy_W := sy_W_of (tk_3 _ (List.mem_of_getElem? (i := 33) rfl)) rfl
theorem wm_296 : (Cond.selects RX6 yX6_readFruit yX6_readFruit) ∈ sy_W := sy_W_of (tp_1 (yX6_readFruit, 9) (List.mem_of_getElem? (i := 11) rfl)) rfl
theorem wm_297 : (Cond.code yX6_readFruit cX6_readFruit 1 none) ∈ sy_W := sy_W_of (tk_3 _ (List.mem_of_getElem? (i := 34) rfl)) rfl
theorem wm_298 : (Cond.fieldLink RX6 110 "SkyTurns$Edge" "firstFruit" "I") ∈ sy_W := sy_W_of (tk_1 _ (List.mem_of_getElem? (i := 68) rfl)) rfl
theorem wm_299 : (Cond.methodLink RX11 126 yX3_copyFrom) ∈ sy_W := sy_W_of (tk_3 _ (List.mem_of_getElem? (i := 35) rfl)) rfl
theorem wm_300 : (Cond.instanceMethod yX3_copyFrom) ∈ sy_W := sy_W_of (tk_3 _ (List.mem_of_getElem? (i := 36) rfl)) rfl
theorem wm_301 : (Cond.selects RX3 yX3_copyFrom yX3_copyFrom) ∈ sy_W := sy_W_of (tk_3 _ (List.mem_of_getElem? (i := 37) rfl)) rfl
theorem wm_302 : (Cond.code yX3_copyFrom cX3_copyFrom 2 none) ∈ sy_W := sy_W_of (tk_3 _ (List.mem_of_getElem? (i := 38) rfl)) rfl
theorem wm_303 : (Cond.methodLink RX3 50 arraycopyName) ∈ sy_W := sy_W_of (tk_3 _ (List.mem_of_getElem? (i := 39) rfl)) rfl
theorem wm_304 : (Cond.native arraycopyName) ∈ sy_W := sy_W_of (tk_3 _ (List.mem_of_getElem? (i := 41) rfl)) rfl
theorem wm_305 : (Cond.static arraycopyName) ∈ sy_W := sy_W_of (tk_3 _ (List.mem_of_getElem? (i := 40) rfl)) rfl
theorem wm_306 : (Cond.initialized "java/lang/System") ∈ sy_W := sy_W_of (tk_1 _ (List.mem_of_getElem? (i := 14) rfl)) rfl
theorem wm_307 : (Cond.methodLink RX11 129 yX10_begin) ∈ sy_W := sy_W_of (tk_3 _ (List.mem_of_getElem? (i := 42) rfl)) rfl
theorem wm_308 : (Cond.methodLink RX11 132 yX5_forget) ∈ sy_W := sy_W_of (tk_3 _ (List.mem_of_getElem? (i := 43) rfl)) rfl
theorem wm_309 : (Cond.instanceMethod yX5_forget) ∈ sy_W := sy_W_of (tk_3 _ (List.mem_of_getElem? (i := 44) rfl)) rfl
theorem wm_310 : (Cond.selects RX5 yX5_forget yX5_forget) ∈ sy_W := sy_W_of (tk_3 _ (List.mem_of_getElem? (i := 45) rfl)) rfl
theorem wm_311 : (Cond.code yX5_forget cX5_forget 1 none) ∈ sy_W := sy_W_of (tk_3 _ (List.mem_of_getElem? (i := 46) rfl)) rfl
theorem wm_312 : (Cond.fieldLink RX5 20 "SkyTurns$Past" "count" "I") ∈ sy_W := sy_W_of (tk_1 _ (List.mem_of_getElem? (i := 196) rfl)) rfl
theorem wm_313 : (Cond.fieldLink RX5 24 "SkyTurns$Past" "next" "I") ∈ sy_W := sy_W_of (tk_1 _ (List.mem_of_getElem? (i := 198) rfl)) rfl
theorem wm_314 : (Cond.methodLink RX11 135 yX8_clear) ∈ sy_W := sy_W_of (tk_3 _ (List.mem_of_getElem? (i := 47) rfl)) rfl
theorem wm_315 : (Cond.instanceMethod yX8_clear) ∈ sy_W := sy_W_of (tk_3 _ (List.mem_of_getElem? (i := 48) rfl)) rfl
theorem wm_316 : (Cond.selects RX8 yX8_clear yX8_clear) ∈ sy_W := sy_W_of (tk_3 _ (List.mem_of_getElem? (i := 49) rfl)) rfl
theorem wm_317 : (Cond.code yX8_clear cX8_clear 1 none) ∈ sy_W := sy_W_of (tk_3 _ (List.mem_of_getElem? (i := 50) rfl)) rfl
theorem wm_318 : (Cond.fieldLink RX8 18 "SkyTurns$SeenRows" "seenCount" "I") ∈ sy_W := sy_W_of (tk_2 _ (List.mem_of_getElem? (i := 24) rfl)) rfl
theorem wm_319 : (Cond.methodLink RX11 138 yX0_clear) ∈ sy_W := sy_W_of (tk_3 _ (List.mem_of_getElem? (i := 51) rfl)) rfl
theorem wm_320 : (Cond.instanceMethod yX0_clear) ∈ sy_W := sy_W_of (tk_3 _ (List.mem_of_getElem? (i := 52) rfl)) rfl
theorem wm_321 : (Cond.selects RX0 yX0_clear yX0_clear) ∈ sy_W := sy_W_of (tk_3 _ (List.mem_of_getElem? (i := 53) rfl)) rfl
theorem wm_322 : (Cond.code yX0_clear cX0_clear 1 none) ∈ sy_W := sy_W_of (tk_3 _ (List.mem_of_getElem? (i := 54) rfl)) rfl
theorem wm_323 : (Cond.fieldLink RX0 22 "SkyTurns$Book" "lines" "I") ∈ sy_W := sy_W_of (tk_2 _ (List.mem_of_getElem? (i := 81) rfl)) rfl
theorem wm_324 : (Cond.methodLink RL 22 yX12_edge) ∈ sy_W := sy_W_of (tk_5 _ (List.mem_of_getElem? (i := 109) rfl)) rfl
theorem wm_325 : (Cond.instanceMethod yX12_edge) ∈ sy_W := sy_W_of (tk_5 _ (List.mem_of_getElem? (i := 110) rfl)) rfl
theorem wm_326 : (Cond.selects RX12 yX12_edge yX12_edge) ∈ sy_W := sy_W_of (tk_5 _ (List.mem_of_getElem? (i := 111) rfl)) rfl
theorem wm_327 : (Cond.code yX12_edge cX12_edge 3 (some .int)) ∈ sy_W := sy_W_of (tk_5 _ (List.mem_of_getElem? (i := 112) rfl)) rfl
theorem wm_328 : (Cond.fieldLink RX12 102 "SkyTurnsModel" "faultIs" "I") ∈ sy_W := sy_W_of (tk_5 _ (List.mem_of_getElem? (i := 1) rfl)) rfl
theorem wm_329 : (Cond.fieldLink RX12 120 "SkyTurnsModel" "readWeights" "I") ∈ sy_W := sy_W_of (tk_5 _ (List.mem_of_getElem? (i := 2) rfl)) rfl
theorem wm_330 : (Cond.fieldLink RX12 154 "SkyTurnsModel" "weights" "I") ∈ sy_W := sy_W_of (tk_5 _ (List.mem_of_getElem? (i := 11) rfl)) rfl
theorem wm_331 : (Cond.fieldLink RX12 123 "SkyTurnsModel" "readMany" "I") ∈ sy_W := sy_W_of (tk_5 _ (List.mem_of_getElem? (i := 4) rfl)) rfl
theorem wm_332 : (Cond.fieldLink RX12 136 "SkyTurnsModel" "readFruit" "I") ∈ sy_W := sy_W_of (tk_5 _ (List.mem_of_getElem? (i := 7) rfl)) rfl
theorem wm_333 : (Cond.methodLink RX12 151 yX12_isRead) ∈ sy_W := sy_W_of (tk_5 _ (List.mem_of_getElem? (i := 113) rfl)) rfl
theorem wm_334 : (Cond.instanceMethod yX12_isRead) ∈ sy_W := sy_W_of (tk_5 _ (List.mem_of_getElem? (i := 115) rfl)) rfl
theorem wm_335 : (Cond.selects RX12 yX12_isRead yX12_isRead) ∈ sy_W := sy_W_of (tp_2 (yX12_isRead, 35) (List.mem_of_getElem? (i := 13) rfl)) rfl
theorem wm_336 : (Cond.code yX12_isRead cX12_isRead 2 (some .boolean)) ∈ sy_W := sy_W_of (tk_5 _ (List.mem_of_getElem? (i := 116) rfl)) rfl
theorem wm_337 : (Cond.fieldLink RX12 90 "SkyTurnsModel" "position" "I") ∈ sy_W := sy_W_of (tk_4 _ (List.mem_of_getElem? (i := 236) rfl)) rfl
theorem wm_338 : (Cond.fieldLink RX12 112 "SkyTurnsModel" "hasWeights" "Z") ∈ sy_W := sy_W_of (tk_5 _ (List.mem_of_getElem? (i := 8) rfl)) rfl
theorem wm_339 : (Cond.fieldLink RX12 130 "SkyTurnsModel" "hasWords" "Z") ∈ sy_W := sy_W_of (tk_5 _ (List.mem_of_getElem? (i := 9) rfl)) rfl
theorem wm_340 : (Cond.fieldLink RX12 133 "SkyTurnsModel" "hasFruit" "Z") ∈ sy_W := sy_W_of (tk_5 _ (List.mem_of_getElem? (i := 10) rfl)) rfl
theorem wm_341 : (Cond.fieldLink RX12 99 "SkyTurnsModel" "token" "I") ∈ sy_W := sy_W_of (tk_4 _ (List.mem_of_getElem? (i := 238) rfl)) rfl
theorem wm_342 : (Cond.methodLink RX12 105 yX12_nextToken) ∈ sy_W := sy_W_of (tk_5 _ (List.mem_of_getElem? (i := 117) rfl)) rfl
theorem wm_343 : (Cond.instanceMethod yX12_nextToken) ∈ sy_W := sy_W_of (tk_5 _ (List.mem_of_getElem? (i := 119) rfl)) rfl
theorem wm_344 : (Cond.selects RX12 yX12_nextToken yX12_nextToken) ∈ sy_W := sy_W_of (tp_2 (yX12_nextToken, 35) (List.mem_of_getElem? (i := 14) rfl)) rfl
theorem wm_345 : (Cond.code yX12_nextToken cX12_nextToken 1 none) ∈ sy_W := sy_W_of (tk_5 _ (List.mem_of_getElem? (i := 120) rfl)) rfl
theorem wm_346 : (Cond.fieldLink RX12 93 "SkyTurnsModel" "tokenAt" "I") ∈ sy_W := sy_W_of (tk_4 _ (List.mem_of_getElem? (i := 237) rfl)) rfl
theorem wm_347 : (Cond.fieldLink RX12 96 "SkyTurnsModel" "number" "I") ∈ sy_W := sy_W_of (tk_4 _ (List.mem_of_getElem? (i := 239) rfl)) rfl
theorem wm_348 : (Cond.methodLink RX12 139 yX12_isWeightLine) ∈ sy_W := sy_W_of (tk_5 _ (List.mem_of_getElem? (i := 121) rfl)) rfl
theorem wm_349 : (Cond.instanceMethod yX12_isWeightLine) ∈ sy_W := sy_W_of (tk_5 _ (List.mem_of_getElem? (i := 123) rfl)) rfl
theorem wm_350 : (Cond.selects RX12 yX12_isWeightLine yX12_isWeightLine) ∈ sy_W := sy_W_of (tp_2 (yX12_isWeightLine, 35) (List.mem_of_getElem? (i := 15) rfl)) rfl
theorem wm_351 : (Cond.code yX12_isWeightLine cX12_isWeightLine 2 (some .boolean)) ∈ sy_W := sy_W_of (tk_5 _ (List.mem_of_getElem? (i := 124) rfl)) rfl
theorem wm_352 : (Cond.methodLink RX12 108 yX12_fails) ∈ sy_W := sy_W_of (tk_5 _ (List.mem_of_getElem? (i := 125) rfl)) rfl
theorem wm_353 : (Cond.instanceMethod yX12_fails) ∈ sy_W := sy_W_of (tk_5 _ (List.mem_of_getElem? (i := 127) rfl)) rfl
theorem wm_354 : (Cond.selects RX12 yX12_fails yX12_fails) ∈ sy_W := sy_W_of (tp_3 (yX12_fails, 35) (List.mem_of_getElem? (i := 0) rfl)) rfl
theorem wm_355 : (Cond.code yX12_fails cX12_fails 2 (some .boolean)) ∈ sy_W := sy_W_of (tk_5 _ (List.mem_of_getElem? (i := 128) rfl)) rfl
theorem wm_356 : (Cond.methodLink RX12 116 yX12_isNumber) ∈ sy_W := sy_W_of (tk_5 _ (List.mem_of_getElem? (i := 129) rfl)) rfl
theorem wm_357 : (Cond.instanceMethod yX12_isNumber) ∈ sy_W := sy_W_of (tk_5 _ (List.mem_of_getElem? (i := 131) rfl)) rfl
theorem wm_358 : (Cond.selects RX12 yX12_isNumber yX12_isNumber) ∈ sy_W := sy_W_of (tp_3 (yX12_isNumber, 35) (List.mem_of_getElem? (i := 1) rfl)) rfl
theorem wm_359 : (Cond.code yX12_isNumber cX12_isNumber 3 (some .boolean)) ∈ sy_W := sy_W_of (tk_5 _ (List.mem_of_getElem? (i := 132) rfl)) rfl
theorem wm_360 : (Cond.methodLink RX12 142 yX12_isPersonLine) ∈ sy_W := sy_W_of (tk_5 _ (List.mem_of_getElem? (i := 133) rfl)) rfl
theorem wm_361 : (Cond.instanceMethod yX12_isPersonLine) ∈ sy_W := sy_W_of (tk_5 _ (List.mem_of_getElem? (i := 135) rfl)) rfl
theorem wm_362 : (Cond.selects RX12 yX12_isPersonLine yX12_isPersonLine) ∈ sy_W := sy_W_of (tp_3 (yX12_isPersonLine, 35) (List.mem_of_getElem? (i := 2) rfl)) rfl
theorem wm_363 : (Cond.code yX12_isPersonLine cX12_isPersonLine 3 (some .boolean)) ∈ sy_W := sy_W_of (tk_5 _ (List.mem_of_getElem? (i := 136) rfl)) rfl
theorem wm_364 : (Cond.methodLink RX12 126 yX12_isEnd) ∈ sy_W := sy_W_of (tk_5 _ (List.mem_of_getElem? (i := 137) rfl)) rfl
theorem wm_365 : (Cond.instanceMethod yX12_isEnd) ∈ sy_W := sy_W_of (tk_5 _ (List.mem_of_getElem? (i := 139) rfl)) rfl
theorem wm_366 : (Cond.selects RX12 yX12_isEnd yX12_isEnd) ∈ sy_W := sy_W_of (tp_3 (yX12_isEnd, 35) (List.mem_of_getElem? (i := 3) rfl)) rfl
theorem wm_367 : (Cond.code yX12_isEnd cX12_isEnd 1 (some .boolean)) ∈ sy_W := sy_W_of (tk_5 _ (List.mem_of_getElem? (i := 140) rfl)) rfl
theorem wm_368 : (Cond.methodLink RX12 145 yX12_isWordLine) ∈ sy_W := sy_W_of (tk_5 _ (List.mem_of_getElem? (i := 141) rfl)) rfl
theorem wm_369 : (Cond.instanceMethod yX12_isWordLine) ∈ sy_W := sy_W_of (tk_5 _ (List.mem_of_getElem? (i := 143) rfl)) rfl
theorem wm_370 : (Cond.selects RX12 yX12_isWordLine yX12_isWordLine) ∈ sy_W := sy_W_of (tp_3 (yX12_isWordLine, 35) (List.mem_of_getElem? (i := 4) rfl)) rfl
theorem wm_371 : (Cond.code yX12_isWordLine cX12_isWordLine 2 (some .boolean)) ∈ sy_W := sy_W_of (tk_5 _ (List.mem_of_getElem? (i := 144) rfl)) rfl
theorem wm_372 : (Cond.methodLink RX12 148 yX12_isFruitLine) ∈ sy_W := sy_W_of (tk_5 _ (List.mem_of_getElem? (i := 145) rfl)) rfl
theorem wm_373 : (Cond.instanceMethod yX12_isFruitLine) ∈ sy_W := sy_W_of (tk_5 _ (List.mem_of_getElem? (i := 147) rfl)) rfl
theorem wm_374 : (Cond.selects RX12 yX12_isFruitLine yX12_isFruitLine) ∈ sy_W := sy_W_of (tp_3 (yX12_isFruitLine, 35) (List.mem_of_getElem? (i := 5) rfl)) rfl
theorem wm_375 : (Cond.code yX12_isFruitLine cX12_isFruitLine 1 (some .boolean)) ∈ sy_W := sy_W_of (tk_5 _ (List.mem_of_getElem? (i := 148) rfl)) rfl
theorem wm_376 : (Cond.methodLink RL 23 yX11_fault) ∈ sy_W := sy_W_of (tk_3 _ (List.mem_of_getElem? (i := 55) rfl)) rfl
theorem wm_377 : (Cond.instanceMethod yX11_fault) ∈ sy_W := sy_W_of (tk_3 _ (List.mem_of_getElem? (i := 56) rfl)) rfl
theorem wm_378 : (Cond.selects RX11 yX11_fault yX11_fault) ∈ sy_W := sy_W_of (tk_3 _ (List.mem_of_getElem? (i := 57) rfl)) rfl
theorem wm_379 : (Cond.code yX11_fault cX11_fault 1 (some .int)) ∈ sy_W := sy_W_of (tk_3 _ (List.mem_of_getElem? (i := 58) rfl)) rfl
theorem wm_380 : (Cond.methodLink RL 26 yX12_fault) ∈ sy_W := sy_W_of (tk_5 _ (List.mem_of_getElem? (i := 149) rfl)) rfl
theorem wm_381 : (Cond.instanceMethod yX12_fault) ∈ sy_W := sy_W_of (tk_5 _ (List.mem_of_getElem? (i := 150) rfl)) rfl
theorem wm_382 : (Cond.selects RX12 yX12_fault yX12_fault) ∈ sy_W := sy_W_of (tk_5 _ (List.mem_of_getElem? (i := 151) rfl)) rfl
theorem wm_383 : (Cond.code yX12_fault cX12_fault 1 (some .int)) ∈ sy_W := sy_W_of (tk_5 _ (List.mem_of_getElem? (i := 152) rfl)) rfl
theorem wm_384 : (Cond.methodLink RL 27 yX11_told) ∈ sy_W := sy_W_of (tk_3 _ (List.mem_of_getElem? (i := 59) rfl)) rfl
theorem wm_385 : (Cond.instanceMethod yX11_told) ∈ sy_W := sy_W_of (tk_3 _ (List.mem_of_getElem? (i := 60) rfl)) rfl
theorem wm_386 : (Cond.selects RX11 yX11_told yX11_told) ∈ sy_W := sy_W_of (tk_3 _ (List.mem_of_getElem? (i := 61) rfl)) rfl
theorem wm_387 : (Cond.code yX11_told cX11_told 2 (some .int)) ∈ sy_W := sy_W_of (tk_3 _ (List.mem_of_getElem? (i := 62) rfl)) rfl
theorem wm_388 : (Cond.fieldLink RX11 142 "SkyTurns$Edge" "weightCount" "I") ∈ sy_W := sy_W_of (tk_1 _ (List.mem_of_getElem? (i := 58) rfl)) rfl
theorem wm_389 : (Cond.fieldLink RX11 145 "SkyTurns$Sky" "clock" "I") ∈ sy_W := sy_W_of (tk_1 _ (List.mem_of_getElem? (i := 113) rfl)) rfl
theorem wm_390 : (Cond.fieldLink RX11 148 "SkyTurns$Sky" "low" "I") ∈ sy_W := sy_W_of (tk_1 _ (List.mem_of_getElem? (i := 115) rfl)) rfl
theorem wm_391 : (Cond.fieldLink RX11 151 "SkyTurns$Sky" "harm" "I") ∈ sy_W := sy_W_of (tk_1 _ (List.mem_of_getElem? (i := 117) rfl)) rfl
theorem wm_392 : (Cond.fieldLink RX11 154 "SkyTurns$Sky" "fruitLeft" "I") ∈ sy_W := sy_W_of (tk_1 _ (List.mem_of_getElem? (i := 119) rfl)) rfl
theorem wm_393 : (Cond.fieldLink RX11 157 "SkyTurns$Sky" "holder" "I") ∈ sy_W := sy_W_of (tk_1 _ (List.mem_of_getElem? (i := 121) rfl)) rfl
theorem wm_394 : (Cond.fieldLink RX11 160 "SkyTurns$Sky" "beside" "I") ∈ sy_W := sy_W_of (tk_1 _ (List.mem_of_getElem? (i := 123) rfl)) rfl
theorem wm_395 : (Cond.fieldLink RX11 170 "SkyTurns$SeenRows" "seenCount" "I") ∈ sy_W := sy_W_of (tk_2 _ (List.mem_of_getElem? (i := 25) rfl)) rfl
theorem wm_396 : (Cond.fieldLink RX11 173 "SkyTurns$Book" "lines" "I") ∈ sy_W := sy_W_of (tk_2 _ (List.mem_of_getElem? (i := 82) rfl)) rfl
theorem wm_397 : (Cond.fieldLink RX11 176 "SkyTurns$Past" "count" "I") ∈ sy_W := sy_W_of (tk_1 _ (List.mem_of_getElem? (i := 197) rfl)) rfl
theorem wm_398 : (Cond.methodLink RX11 163 yX3_weightAt) ∈ sy_W := sy_W_of (tk_3 _ (List.mem_of_getElem? (i := 63) rfl)) rfl
theorem wm_399 : (Cond.instanceMethod yX3_weightAt) ∈ sy_W := sy_W_of (tk_3 _ (List.mem_of_getElem? (i := 64) rfl)) rfl
theorem wm_400 : (Cond.selects RX3 yX3_weightAt yX3_weightAt) ∈ sy_W := sy_W_of (tk_3 _ (List.mem_of_getElem? (i := 65) rfl)) rfl
theorem wm_401 : (Cond.code yX3_weightAt cX3_weightAt 2 (some .int)) ∈ sy_W := sy_W_of (tk_3 _ (List.mem_of_getElem? (i := 66) rfl)) rfl
theorem wm_402 : (Cond.methodLink RX11 166 yX10_forceHeld) ∈ sy_W := sy_W_of (tk_3 _ (List.mem_of_getElem? (i := 67) rfl)) rfl
theorem wm_403 : (Cond.instanceMethod yX10_forceHeld) ∈ sy_W := sy_W_of (tk_3 _ (List.mem_of_getElem? (i := 68) rfl)) rfl
theorem wm_404 : (Cond.selects RX10 yX10_forceHeld yX10_forceHeld) ∈ sy_W := sy_W_of (tk_3 _ (List.mem_of_getElem? (i := 69) rfl)) rfl
theorem wm_405 : (Cond.code yX10_forceHeld cX10_forceHeld 1 (some .int)) ∈ sy_W := sy_W_of (tk_3 _ (List.mem_of_getElem? (i := 70) rfl)) rfl
theorem wm_406 : (Cond.methodLink RX10 100 yX10_forceOf) ∈ sy_W := sy_W_of (tk_3 _ (List.mem_of_getElem? (i := 71) rfl)) rfl
theorem wm_407 : (Cond.instanceMethod yX10_forceOf) ∈ sy_W := sy_W_of (tk_3 _ (List.mem_of_getElem? (i := 72) rfl)) rfl
theorem wm_408 : (Cond.selects RX10 yX10_forceOf yX10_forceOf) ∈ sy_W := sy_W_of (tk_3 _ (List.mem_of_getElem? (i := 73) rfl)) rfl
theorem wm_409 : (Cond.code yX10_forceOf cX10_forceOf 5 (some .int)) ∈ sy_W := sy_W_of (tk_3 _ (List.mem_of_getElem? (i := 74) rfl)) rfl
theorem wm_410 : (Cond.fieldLink RX10 88 "SkyTurns$Edge" "kind" "[I") ∈ sy_W := sy_W_of (tk_1 _ (List.mem_of_getElem? (i := 41) rfl)) rfl
theorem wm_411 : (Cond.fieldLink RX10 91 "SkyTurns$Edge" "strength" "[I") ∈ sy_W := sy_W_of (tk_1 _ (List.mem_of_getElem? (i := 44) rfl)) rfl
theorem wm_412 : (Cond.methodLink RX10 94 Lib.Math.max.name) ∈ sy_W := sy_W_of (tk_3 _ (List.mem_of_getElem? (i := 76) rfl)) rfl
theorem wm_413 : (Cond.static Lib.Math.max.name) ∈ sy_W := sy_W_of (tk_3 _ (List.mem_of_getElem? (i := 77) rfl)) rfl
theorem wm_414 : (Cond.initialized "java/lang/Math") ∈ sy_W := sy_W_of (tk_1 _ (List.mem_of_getElem? (i := 15) rfl)) rfl
theorem wm_415 : (Cond.code Lib.Math.max.name Lib.Math.max.code 2 (some .int)) ∈ sy_W := sy_W_of (tk_3 _ (List.mem_of_getElem? (i := 78) rfl)) rfl
theorem wm_416 : (Cond.methodLink RX10 68 yX3_isPerson) ∈ sy_W := sy_W_of (tk_3 _ (List.mem_of_getElem? (i := 75) rfl)) rfl
theorem wm_417 : (Cond.methodLink RL 30 yX12_told) ∈ sy_W := sy_W_of (tk_5 _ (List.mem_of_getElem? (i := 153) rfl)) rfl
theorem wm_418 : (Cond.instanceMethod yX12_told) ∈ sy_W := sy_W_of (tk_5 _ (List.mem_of_getElem? (i := 154) rfl)) rfl
theorem wm_419 : (Cond.selects RX12 yX12_told yX12_told) ∈ sy_W := sy_W_of (tk_5 _ (List.mem_of_getElem? (i := 155) rfl)) rfl
theorem wm_420 : (Cond.code yX12_told cX12_told 2 (some .int)) ∈ sy_W := sy_W_of (tk_5 _ (List.mem_of_getElem? (i := 156) rfl)) rfl
theorem wm_421 : (Cond.methodLink RX12 165 yX12_weightOf) ∈ sy_W := sy_W_of (tk_5 _ (List.mem_of_getElem? (i := 157) rfl)) rfl
theorem wm_422 : (Cond.instanceMethod yX12_weightOf) ∈ sy_W := sy_W_of (tk_5 _ (List.mem_of_getElem? (i := 159) rfl)) rfl
theorem wm_423 : (Cond.selects RX12 yX12_weightOf yX12_weightOf) ∈ sy_W := sy_W_of (tp_3 (yX12_weightOf, 35) (List.mem_of_getElem? (i := 6) rfl)) rfl
theorem wm_424 : (Cond.code yX12_weightOf cX12_weightOf 2 (some .int)) ∈ sy_W := sy_W_of (tk_5 _ (List.mem_of_getElem? (i := 160) rfl)) rfl
theorem wm_425 : (Cond.methodLink RX12 169 yX12_forceOfAll) ∈ sy_W := sy_W_of (tk_5 _ (List.mem_of_getElem? (i := 161) rfl)) rfl
theorem wm_426 : (Cond.instanceMethod yX12_forceOfAll) ∈ sy_W := sy_W_of (tk_5 _ (List.mem_of_getElem? (i := 163) rfl)) rfl
theorem wm_427 : (Cond.selects RX12 yX12_forceOfAll yX12_forceOfAll) ∈ sy_W := sy_W_of (tp_3 (yX12_forceOfAll, 35) (List.mem_of_getElem? (i := 7) rfl)) rfl
theorem wm_428 : (Cond.code yX12_forceOfAll cX12_forceOfAll 3 (some .int)) ∈ sy_W := sy_W_of (tk_5 _ (List.mem_of_getElem? (i := 164) rfl)) rfl
theorem wm_429 : (Cond.methodLink RX12 161 yX12_forceOf) ∈ sy_W := sy_W_of (tk_5 _ (List.mem_of_getElem? (i := 165) rfl)) rfl
theorem wm_430 : (Cond.instanceMethod yX12_forceOf) ∈ sy_W := sy_W_of (tk_5 _ (List.mem_of_getElem? (i := 167) rfl)) rfl
theorem wm_431 : (Cond.selects RX12 yX12_forceOf yX12_forceOf) ∈ sy_W := sy_W_of (tp_3 (yX12_forceOf, 35) (List.mem_of_getElem? (i := 8) rfl)) rfl
theorem wm_432 : (Cond.code yX12_forceOf cX12_forceOf 5 (some .int)) ∈ sy_W := sy_W_of (tk_5 _ (List.mem_of_getElem? (i := 168) rfl)) rfl
theorem wm_433 : (Cond.methodLink RX12 157 yX12_kindOf) ∈ sy_W := sy_W_of (tk_5 _ (List.mem_of_getElem? (i := 169) rfl)) rfl
theorem wm_434 : (Cond.instanceMethod yX12_kindOf) ∈ sy_W := sy_W_of (tk_5 _ (List.mem_of_getElem? (i := 171) rfl)) rfl
theorem wm_435 : (Cond.selects RX12 yX12_kindOf yX12_kindOf) ∈ sy_W := sy_W_of (tp_3 (yX12_kindOf, 35) (List.mem_of_getElem? (i := 9) rfl)) rfl
theorem wm_436 : (Cond.code yX12_kindOf cX12_kindOf 2 (some .int)) ∈ sy_W := sy_W_of (tk_5 _ (List.mem_of_getElem? (i := 172) rfl)) rfl
theorem wm_437 : (Cond.methodLink RL 31 yX11_person) ∈ sy_W := sy_W_of (tk_3 _ (List.mem_of_getElem? (i := 79) rfl)) rfl
theorem wm_438 : (Cond.instanceMethod yX11_person) ∈ sy_W := sy_W_of (tk_3 _ (List.mem_of_getElem? (i := 80) rfl)) rfl
theorem wm_439 : (Cond.selects RX11 yX11_person yX11_person) ∈ sy_W := sy_W_of (tk_3 _ (List.mem_of_getElem? (i := 81) rfl)) rfl
theorem wm_440 : (Cond.code yX11_person cX11_person 3 (some .int)) ∈ sy_W := sy_W_of (tk_3 _ (List.mem_of_getElem? (i := 82) rfl)) rfl
theorem wm_441 : (Cond.constant RX11 183 (-1000000001)) ∈ sy_W := sy_W_of (tk_3 _ (List.mem_of_getElem? (i := 84) rfl)) rfl
theorem wm_442 : (Cond.fieldLink RX11 184 "SkyTurns$Edge" "kind" "[I") ∈ sy_W := sy_W_of (tk_1 _ (List.mem_of_getElem? (i := 40) rfl)) rfl
theorem wm_443 : (Cond.fieldLink RX11 187 "SkyTurns$Edge" "strength" "[I") ∈ sy_W := sy_W_of (tk_1 _ (List.mem_of_getElem? (i := 43) rfl)) rfl
theorem wm_444 : (Cond.fieldLink RX11 190 "SkyTurns$Edge" "height" "[I") ∈ sy_W := sy_W_of (tk_1 _ (List.mem_of_getElem? (i := 46) rfl)) rfl
theorem wm_445 : (Cond.fieldLink RX11 193 "SkyTurns$Edge" "wits" "[I") ∈ sy_W := sy_W_of (tk_1 _ (List.mem_of_getElem? (i := 48) rfl)) rfl
theorem wm_446 : (Cond.fieldLink RX11 196 "SkyTurns$Edge" "father" "[I") ∈ sy_W := sy_W_of (tk_1 _ (List.mem_of_getElem? (i := 52) rfl)) rfl
theorem wm_447 : (Cond.fieldLink RX11 199 "SkyTurns$Sky" "tired" "[I") ∈ sy_W := sy_W_of (tk_1 _ (List.mem_of_getElem? (i := 104) rfl)) rfl
theorem wm_448 : (Cond.fieldLink RX11 202 "SkyTurns$Sky" "held" "[I") ∈ sy_W := sy_W_of (tk_1 _ (List.mem_of_getElem? (i := 107) rfl)) rfl
theorem wm_449 : (Cond.fieldLink RX11 205 "SkyTurns$Sky" "fallen" "[I") ∈ sy_W := sy_W_of (tk_1 _ (List.mem_of_getElem? (i := 111) rfl)) rfl
theorem wm_450 : (Cond.fieldLink RX11 211 "SkyTurns$Sky" "unbroken" "[I") ∈ sy_W := sy_W_of (tk_1 _ (List.mem_of_getElem? (i := 109) rfl)) rfl
theorem wm_451 : (Cond.methodLink RX11 179 yX3_isPerson) ∈ sy_W := sy_W_of (tk_3 _ (List.mem_of_getElem? (i := 83) rfl)) rfl
theorem wm_452 : (Cond.methodLink RX11 208 yX10_forceOf) ∈ sy_W := sy_W_of (tk_3 _ (List.mem_of_getElem? (i := 85) rfl)) rfl
theorem wm_453 : (Cond.methodLink RL 35 yX12_person) ∈ sy_W := sy_W_of (tk_5 _ (List.mem_of_getElem? (i := 173) rfl)) rfl
theorem wm_454 : (Cond.instanceMethod yX12_person) ∈ sy_W := sy_W_of (tk_5 _ (List.mem_of_getElem? (i := 174) rfl)) rfl
theorem wm_455 : (Cond.selects RX12 yX12_person yX12_person) ∈ sy_W := sy_W_of (tk_5 _ (List.mem_of_getElem? (i := 175) rfl)) rfl
theorem wm_456 : (Cond.code yX12_person cX12_person 3 (some .int)) ∈ sy_W := sy_W_of (tk_5 _ (List.mem_of_getElem? (i := 176) rfl)) rfl
theorem wm_457 : (Cond.constant RX12 180 (-1000000001)) ∈ sy_W := sy_W_of (tk_5 _ (List.mem_of_getElem? (i := 181) rfl)) rfl
theorem wm_458 : (Cond.methodLink RX12 177 yX12_isOne) ∈ sy_W := sy_W_of (tk_5 _ (List.mem_of_getElem? (i := 177) rfl)) rfl
theorem wm_459 : (Cond.instanceMethod yX12_isOne) ∈ sy_W := sy_W_of (tk_5 _ (List.mem_of_getElem? (i := 179) rfl)) rfl
theorem wm_460 : (Cond.selects RX12 yX12_isOne yX12_isOne) ∈ sy_W := sy_W_of (tp_3 (yX12_isOne, 35) (List.mem_of_getElem? (i := 10) rfl)) rfl
theorem wm_461 : (Cond.code yX12_isOne cX12_isOne 2 (some .boolean)) ∈ sy_W := sy_W_of (tk_5 _ (List.mem_of_getElem? (i := 180) rfl)) rfl
theorem wm_462 : (Cond.methodLink RL 36 yX11_word) ∈ sy_W := sy_W_of (tk_3 _ (List.mem_of_getElem? (i := 86) rfl)) rfl
theorem wm_463 : (Cond.instanceMethod yX11_word) ∈ sy_W := sy_W_of (tk_3 _ (List.mem_of_getElem? (i := 87) rfl)) rfl
theorem wm_464 : (Cond.selects RX11 yX11_word yX11_word) ∈ sy_W := sy_W_of (tk_3 _ (List.mem_of_getElem? (i := 88) rfl)) rfl
theorem wm_465 : (Cond.code yX11_word cX11_word 2 (some .int)) ∈ sy_W := sy_W_of (tk_3 _ (List.mem_of_getElem? (i := 89) rfl)) rfl
theorem wm_466 : (Cond.fieldLink RX11 217 "SkyTurns$Edge" "goodness" "[I") ∈ sy_W := sy_W_of (tk_1 _ (List.mem_of_getElem? (i := 54) rfl)) rfl
theorem wm_467 : (Cond.methodLink RX11 214 yX11_isWord) ∈ sy_W := sy_W_of (tk_3 _ (List.mem_of_getElem? (i := 90) rfl)) rfl
theorem wm_468 : (Cond.static yX11_isWord) ∈ sy_W := sy_W_of (tk_3 _ (List.mem_of_getElem? (i := 91) rfl)) rfl
theorem wm_469 : (Cond.code yX11_isWord cX11_isWord 1 (some .boolean)) ∈ sy_W := sy_W_of (tk_3 _ (List.mem_of_getElem? (i := 92) rfl)) rfl
theorem wm_470 : (Cond.methodLink RL 39 yX12_word) ∈ sy_W := sy_W_of (tk_5 _ (List.mem_of_getElem? (i := 182) rfl)) rfl
theorem wm_471 : (Cond.instanceMethod yX12_word) ∈ sy_W := sy_W_of (tk_5 _ (List.mem_of_getElem? (i := 183) rfl)) rfl
theorem wm_472 : (Cond.selects RX12 yX12_word yX12_word) ∈ sy_W := sy_W_of (tk_5 _ (List.mem_of_getElem? (i := 184) rfl)) rfl
theorem wm_473 : (Cond.code yX12_word cX12_word 2 (some .int)) ∈ sy_W := sy_W_of (tk_5 _ (List.mem_of_getElem? (i := 185) rfl)) rfl
theorem wm_474 : (Cond.methodLink RL 40 yX11_hour) ∈ sy_W := sy_W_of (tk_3 _ (List.mem_of_getElem? (i := 93) rfl)) rfl
theorem wm_475 : (Cond.instanceMethod yX11_hour) ∈ sy_W := sy_W_of (tk_3 _ (List.mem_of_getElem? (i := 94) rfl)) rfl
theorem wm_476 : (Cond.selects RX11 yX11_hour yX11_hour) ∈ sy_W := sy_W_of (tk_3 _ (List.mem_of_getElem? (i := 95) rfl)) rfl
theorem wm_477 : (Cond.code yX11_hour cX11_hour 3 (some .int)) ∈ sy_W := sy_W_of (tk_3 _ (List.mem_of_getElem? (i := 96) rfl)) rfl
theorem wm_478 : (Cond.constant RX11 224 (-1000000003)) ∈ sy_W := sy_W_of (tk_3 _ (List.mem_of_getElem? (i := 101) rfl)) rfl
theorem wm_479 : (Cond.methodLink RX11 220 yX3_isWhole) ∈ sy_W := sy_W_of (tk_3 _ (List.mem_of_getElem? (i := 97) rfl)) rfl
theorem wm_480 : (Cond.instanceMethod yX3_isWhole) ∈ sy_W := sy_W_of (tk_3 _ (List.mem_of_getElem? (i := 98) rfl)) rfl
theorem wm_481 : (Cond.selects RX3 yX3_isWhole yX3_isWhole) ∈ sy_W := sy_W_of (tk_3 _ (List.mem_of_getElem? (i := 99) rfl)) rfl
theorem wm_482 : (Cond.code yX3_isWhole cX3_isWhole 1 (some .boolean)) ∈ sy_W := sy_W_of (tk_3 _ (List.mem_of_getElem? (i := 100) rfl)) rfl
theorem wm_483 : (Cond.methodLink RX11 225 yX11_letHourPass) ∈ sy_W := sy_W_of (tk_3 _ (List.mem_of_getElem? (i := 102) rfl)) rfl
theorem wm_484 : (Cond.instanceMethod yX11_letHourPass) ∈ sy_W := sy_W_of (tk_3 _ (List.mem_of_getElem? (i := 104) rfl)) rfl
theorem wm_485 : (Cond.selects RX11 yX11_letHourPass yX11_letHourPass) ∈ sy_W := sy_W_of (tp_1 (yX11_letHourPass, 16) (List.mem_of_getElem? (i := 12) rfl)) rfl
theorem wm_486 : (Cond.code yX11_letHourPass cX11_letHourPass 1 none) ∈ sy_W := sy_W_of (tk_3 _ (List.mem_of_getElem? (i := 105) rfl)) rfl
theorem wm_487 : (Cond.methodLink RX11 331 yX5_add) ∈ sy_W := sy_W_of (tk_3 _ (List.mem_of_getElem? (i := 106) rfl)) rfl
theorem wm_488 : (Cond.instanceMethod yX5_add) ∈ sy_W := sy_W_of (tk_3 _ (List.mem_of_getElem? (i := 107) rfl)) rfl
theorem wm_489 : (Cond.selects RX5 yX5_add yX5_add) ∈ sy_W := sy_W_of (tk_3 _ (List.mem_of_getElem? (i := 108) rfl)) rfl
theorem wm_490 : (Cond.code yX5_add cX5_add 2 none) ∈ sy_W := sy_W_of (tk_3 _ (List.mem_of_getElem? (i := 109) rfl)) rfl
theorem wm_491 : (Cond.methodLink RX5 31 Lib.Math.min.name) ∈ sy_W := sy_W_of (tk_3 _ (List.mem_of_getElem? (i := 115) rfl)) rfl
theorem wm_492 : (Cond.static Lib.Math.min.name) ∈ sy_W := sy_W_of (tk_3 _ (List.mem_of_getElem? (i := 116) rfl)) rfl
theorem wm_493 : (Cond.code Lib.Math.min.name Lib.Math.min.code 2 (some .int)) ∈ sy_W := sy_W_of (tk_3 _ (List.mem_of_getElem? (i := 117) rfl)) rfl
theorem wm_494 : (Cond.methodLink RX5 27 yX10_copyFrom) ∈ sy_W := sy_W_of (tk_3 _ (List.mem_of_getElem? (i := 110) rfl)) rfl
theorem wm_495 : (Cond.instanceMethod yX10_copyFrom) ∈ sy_W := sy_W_of (tk_3 _ (List.mem_of_getElem? (i := 111) rfl)) rfl
theorem wm_496 : (Cond.selects RX10 yX10_copyFrom yX10_copyFrom) ∈ sy_W := sy_W_of (tk_3 _ (List.mem_of_getElem? (i := 112) rfl)) rfl
theorem wm_497 : (Cond.code yX10_copyFrom cX10_copyFrom 2 none) ∈ sy_W := sy_W_of (tk_3 _ (List.mem_of_getElem? (i := 113) rfl)) rfl
theorem wm_498 : (Cond.methodLink RX10 58 arraycopyName) ∈ sy_W := sy_W_of (tk_3 _ (List.mem_of_getElem? (i := 114) rfl)) rfl
theorem wm_499 : (Cond.methodLink RX11 333 yX10_passHour) ∈ sy_W := sy_W_of (tk_3 _ (List.mem_of_getElem? (i := 118) rfl)) rfl
theorem wm_500 : (Cond.instanceMethod yX10_passHour) ∈ sy_W := sy_W_of (tk_3 _ (List.mem_of_getElem? (i := 119) rfl)) rfl
theorem wm_501 : (Cond.selects RX10 yX10_passHour yX10_passHour) ∈ sy_W := sy_W_of (tk_3 _ (List.mem_of_getElem? (i := 120) rfl)) rfl
theorem wm_502 : (Cond.code yX10_passHour cX10_passHour 2 none) ∈ sy_W := sy_W_of (tk_3 _ (List.mem_of_getElem? (i := 121) rfl)) rfl
theorem wm_503 : (Cond.methodLink RX10 110 yX10_lowBehind) ∈ sy_W := sy_W_of (tk_3 _ (List.mem_of_getElem? (i := 122) rfl)) rfl
theorem wm_504 : (Cond.instanceMethod yX10_lowBehind) ∈ sy_W := sy_W_of (tk_3 _ (List.mem_of_getElem? (i := 123) rfl)) rfl
theorem wm_505 : (Cond.selects RX10 yX10_lowBehind yX10_lowBehind) ∈ sy_W := sy_W_of (tk_3 _ (List.mem_of_getElem? (i := 124) rfl)) rfl
theorem wm_506 : (Cond.code yX10_lowBehind cX10_lowBehind 8 (some .int)) ∈ sy_W := sy_W_of (tk_3 _ (List.mem_of_getElem? (i := 125) rfl)) rfl
theorem wm_507 : (Cond.methodLink RX10 107 Lib.Math.min.name) ∈ sy_W := sy_W_of (tk_3 _ (List.mem_of_getElem? (i := 127) rfl)) rfl
theorem wm_508 : (Cond.methodLink RX10 104 yX3_weightAt) ∈ sy_W := sy_W_of (tk_3 _ (List.mem_of_getElem? (i := 126) rfl)) rfl
theorem wm_509 : (Cond.methodLink RX10 114 yX10_endHour) ∈ sy_W := sy_W_of (tk_3 _ (List.mem_of_getElem? (i := 128) rfl)) rfl
theorem wm_510 : (Cond.instanceMethod yX10_endHour) ∈ sy_W := sy_W_of (tk_3 _ (List.mem_of_getElem? (i := 129) rfl)) rfl
theorem wm_511 : (Cond.selects RX10 yX10_endHour yX10_endHour) ∈ sy_W := sy_W_of (tk_3 _ (List.mem_of_getElem? (i := 130) rfl)) rfl
theorem wm_512 : (Cond.code yX10_endHour cX10_endHour 3 none) ∈ sy_W := sy_W_of (tk_3 _ (List.mem_of_getElem? (i := 131) rfl)) rfl
theorem wm_513 : (Cond.constant RX10 117 (999999999)) ∈ sy_W := sy_W_of (tk_3 _ (List.mem_of_getElem? (i := 132) rfl)) rfl
theorem wm_514 : (Cond.methodLink RX10 118 yX10_isHolding) ∈ sy_W := sy_W_of (tk_3 _ (List.mem_of_getElem? (i := 133) rfl)) rfl
theorem wm_515 : (Cond.instanceMethod yX10_isHolding) ∈ sy_W := sy_W_of (tk_3 _ (List.mem_of_getElem? (i := 134) rfl)) rfl
theorem wm_516 : (Cond.selects RX10 yX10_isHolding yX10_isHolding) ∈ sy_W := sy_W_of (tk_3 _ (List.mem_of_getElem? (i := 135) rfl)) rfl
theorem wm_517 : (Cond.code yX10_isHolding cX10_isHolding 2 (some .boolean)) ∈ sy_W := sy_W_of (tk_3 _ (List.mem_of_getElem? (i := 136) rfl)) rfl
theorem wm_518 : (Cond.methodLink RX10 121 yX10_bear) ∈ sy_W := sy_W_of (tk_3 _ (List.mem_of_getElem? (i := 137) rfl)) rfl
theorem wm_519 : (Cond.instanceMethod yX10_bear) ∈ sy_W := sy_W_of (tk_3 _ (List.mem_of_getElem? (i := 139) rfl)) rfl
theorem wm_520 : (Cond.selects RX10 yX10_bear yX10_bear) ∈ sy_W := sy_W_of (tp_1 (yX10_bear, 11) (List.mem_of_getElem? (i := 13) rfl)) rfl
theorem wm_521 : (Cond.code yX10_bear cX10_bear 2 none) ∈ sy_W := sy_W_of (tk_3 _ (List.mem_of_getElem? (i := 140) rfl)) rfl
theorem wm_522 : (Cond.methodLink RX10 124 yX10_rest) ∈ sy_W := sy_W_of (tk_3 _ (List.mem_of_getElem? (i := 141) rfl)) rfl
theorem wm_523 : (Cond.instanceMethod yX10_rest) ∈ sy_W := sy_W_of (tk_3 _ (List.mem_of_getElem? (i := 143) rfl)) rfl
theorem wm_524 : (Cond.selects RX10 yX10_rest yX10_rest) ∈ sy_W := sy_W_of (tp_1 (yX10_rest, 11) (List.mem_of_getElem? (i := 14) rfl)) rfl
theorem wm_525 : (Cond.code yX10_rest cX10_rest 2 none) ∈ sy_W := sy_W_of (tk_3 _ (List.mem_of_getElem? (i := 144) rfl)) rfl
theorem wm_526 : (Cond.methodLink RL 43 yX12_hour) ∈ sy_W := sy_W_of (tk_5 _ (List.mem_of_getElem? (i := 186) rfl)) rfl
theorem wm_527 : (Cond.instanceMethod yX12_hour) ∈ sy_W := sy_W_of (tk_5 _ (List.mem_of_getElem? (i := 187) rfl)) rfl
theorem wm_528 : (Cond.selects RX12 yX12_hour yX12_hour) ∈ sy_W := sy_W_of (tk_5 _ (List.mem_of_getElem? (i := 188) rfl)) rfl
theorem wm_529 : (Cond.code yX12_hour cX12_hour 3 (some .int)) ∈ sy_W := sy_W_of (tk_5 _ (List.mem_of_getElem? (i := 189) rfl)) rfl
theorem wm_530 : (Cond.constant RX12 184 (-1000000003)) ∈ sy_W := sy_W_of (tk_5 _ (List.mem_of_getElem? (i := 194) rfl)) rfl
theorem wm_531 : (Cond.methodLink RX12 181 yX12_isHere) ∈ sy_W := sy_W_of (tk_5 _ (List.mem_of_getElem? (i := 190) rfl)) rfl
theorem wm_532 : (Cond.instanceMethod yX12_isHere) ∈ sy_W := sy_W_of (tk_5 _ (List.mem_of_getElem? (i := 192) rfl)) rfl
theorem wm_533 : (Cond.selects RX12 yX12_isHere yX12_isHere) ∈ sy_W := sy_W_of (tp_3 (yX12_isHere, 35) (List.mem_of_getElem? (i := 11) rfl)) rfl
theorem wm_534 : (Cond.code yX12_isHere cX12_isHere 1 (some .boolean)) ∈ sy_W := sy_W_of (tk_5 _ (List.mem_of_getElem? (i := 193) rfl)) rfl
theorem wm_535 : (Cond.methodLink RX12 185 yX12_note) ∈ sy_W := sy_W_of (tk_5 _ (List.mem_of_getElem? (i := 195) rfl)) rfl
theorem wm_536 : (Cond.instanceMethod yX12_note) ∈ sy_W := sy_W_of (tk_5 _ (List.mem_of_getElem? (i := 197) rfl)) rfl
theorem wm_537 : (Cond.selects RX12 yX12_note yX12_note) ∈ sy_W := sy_W_of (tp_3 (yX12_note, 35) (List.mem_of_getElem? (i := 12) rfl)) rfl
theorem wm_538 : (Cond.code yX12_note cX12_note 2 none) ∈ sy_W := sy_W_of (tk_5 _ (List.mem_of_getElem? (i := 198) rfl)) rfl
theorem wm_539 : (Cond.methodLink RX12 173 yX12_copy) ∈ sy_W := sy_W_of (tk_5 _ (List.mem_of_getElem? (i := 199) rfl)) rfl
theorem wm_540 : (Cond.static yX12_copy) ∈ sy_W := sy_W_of (tk_5 _ (List.mem_of_getElem? (i := 200) rfl)) rfl
theorem wm_541 : (Cond.code yX12_copy cX12_copy 5 none) ∈ sy_W := sy_W_of (tk_5 _ (List.mem_of_getElem? (i := 201) rfl)) rfl
theorem wm_542 : (Cond.methodLink RX12 188 yX12_pass) ∈ sy_W := sy_W_of (tk_5 _ (List.mem_of_getElem? (i := 202) rfl)) rfl
theorem wm_543 : (Cond.instanceMethod yX12_pass) ∈ sy_W := sy_W_of (tk_5 _ (List.mem_of_getElem? (i := 204) rfl)) rfl
theorem wm_544 : (Cond.selects RX12 yX12_pass yX12_pass) ∈ sy_W := sy_W_of (tp_3 (yX12_pass, 35) (List.mem_of_getElem? (i := 13) rfl)) rfl
theorem wm_545 : (Cond.code yX12_pass cX12_pass 6 none) ∈ sy_W := sy_W_of (tk_5 _ (List.mem_of_getElem? (i := 205) rfl)) rfl
theorem wm_546 : (Cond.constant RX12 172 (999999999)) ∈ sy_W := sy_W_of (tk_5 _ (List.mem_of_getElem? (i := 206) rfl)) rfl
theorem wm_547 : (Cond.methodLink RL 44 yX11_offer) ∈ sy_W := sy_W_of (tk_3 _ (List.mem_of_getElem? (i := 145) rfl)) rfl
theorem wm_548 : (Cond.instanceMethod yX11_offer) ∈ sy_W := sy_W_of (tk_3 _ (List.mem_of_getElem? (i := 146) rfl)) rfl
theorem wm_549 : (Cond.selects RX11 yX11_offer yX11_offer) ∈ sy_W := sy_W_of (tk_3 _ (List.mem_of_getElem? (i := 147) rfl)) rfl
theorem wm_550 : (Cond.code yX11_offer cX11_offer 3 (some .int)) ∈ sy_W := sy_W_of (tk_3 _ (List.mem_of_getElem? (i := 148) rfl)) rfl
theorem wm_551 : (Cond.methodLink RX11 228 yX10_isHolding) ∈ sy_W := sy_W_of (tk_3 _ (List.mem_of_getElem? (i := 149) rfl)) rfl
theorem wm_552 : (Cond.methodLink RX11 231 yX10_trick) ∈ sy_W := sy_W_of (tk_3 _ (List.mem_of_getElem? (i := 150) rfl)) rfl
theorem wm_553 : (Cond.instanceMethod yX10_trick) ∈ sy_W := sy_W_of (tk_3 _ (List.mem_of_getElem? (i := 151) rfl)) rfl
theorem wm_554 : (Cond.selects RX10 yX10_trick yX10_trick) ∈ sy_W := sy_W_of (tk_3 _ (List.mem_of_getElem? (i := 152) rfl)) rfl
theorem wm_555 : (Cond.code yX10_trick cX10_trick 3 (some .boolean)) ∈ sy_W := sy_W_of (tk_3 _ (List.mem_of_getElem? (i := 153) rfl)) rfl
theorem wm_556 : (Cond.methodLink RX10 81 yX10_isTrickedBy) ∈ sy_W := sy_W_of (tk_3 _ (List.mem_of_getElem? (i := 154) rfl)) rfl
theorem wm_557 : (Cond.instanceMethod yX10_isTrickedBy) ∈ sy_W := sy_W_of (tk_3 _ (List.mem_of_getElem? (i := 155) rfl)) rfl
theorem wm_558 : (Cond.selects RX10 yX10_isTrickedBy yX10_isTrickedBy) ∈ sy_W := sy_W_of (tk_3 _ (List.mem_of_getElem? (i := 156) rfl)) rfl
theorem wm_559 : (Cond.code yX10_isTrickedBy cX10_isTrickedBy 3 (some .boolean)) ∈ sy_W := sy_W_of (tk_3 _ (List.mem_of_getElem? (i := 157) rfl)) rfl
theorem wm_560 : (Cond.fieldLink RX10 75 "SkyTurns$Edge" "goodness" "[I") ∈ sy_W := sy_W_of (tk_1 _ (List.mem_of_getElem? (i := 55) rfl)) rfl
theorem wm_561 : (Cond.fieldLink RX10 78 "SkyTurns$Edge" "wits" "[I") ∈ sy_W := sy_W_of (tk_1 _ (List.mem_of_getElem? (i := 49) rfl)) rfl
theorem wm_562 : (Cond.methodLink RX10 84 yX10_handTo) ∈ sy_W := sy_W_of (tk_3 _ (List.mem_of_getElem? (i := 159) rfl)) rfl
theorem wm_563 : (Cond.instanceMethod yX10_handTo) ∈ sy_W := sy_W_of (tk_3 _ (List.mem_of_getElem? (i := 160) rfl)) rfl
theorem wm_564 : (Cond.selects RX10 yX10_handTo yX10_handTo) ∈ sy_W := sy_W_of (tk_3 _ (List.mem_of_getElem? (i := 161) rfl)) rfl
theorem wm_565 : (Cond.code yX10_handTo cX10_handTo 2 none) ∈ sy_W := sy_W_of (tk_3 _ (List.mem_of_getElem? (i := 162) rfl)) rfl
theorem wm_566 : (Cond.methodLink RL 47 yX12_offer) ∈ sy_W := sy_W_of (tk_5 _ (List.mem_of_getElem? (i := 207) rfl)) rfl
theorem wm_567 : (Cond.instanceMethod yX12_offer) ∈ sy_W := sy_W_of (tk_5 _ (List.mem_of_getElem? (i := 208) rfl)) rfl
theorem wm_568 : (Cond.selects RX12 yX12_offer yX12_offer) ∈ sy_W := sy_W_of (tk_5 _ (List.mem_of_getElem? (i := 209) rfl)) rfl
theorem wm_569 : (Cond.code yX12_offer cX12_offer 3 (some .int)) ∈ sy_W := sy_W_of (tk_5 _ (List.mem_of_getElem? (i := 210) rfl)) rfl
theorem wm_570 : (Cond.methodLink RX12 199 yX12_holds) ∈ sy_W := sy_W_of (tk_5 _ (List.mem_of_getElem? (i := 211) rfl)) rfl
theorem wm_571 : (Cond.static yX12_holds) ∈ sy_W := sy_W_of (tk_5 _ (List.mem_of_getElem? (i := 212) rfl)) rfl
theorem wm_572 : (Cond.code yX12_holds cX12_holds 2 (some .boolean)) ∈ sy_W := sy_W_of (tk_5 _ (List.mem_of_getElem? (i := 213) rfl)) rfl
theorem wm_573 : (Cond.methodLink RX12 203 yX12_offers) ∈ sy_W := sy_W_of (tk_5 _ (List.mem_of_getElem? (i := 214) rfl)) rfl
theorem wm_574 : (Cond.instanceMethod yX12_offers) ∈ sy_W := sy_W_of (tk_5 _ (List.mem_of_getElem? (i := 216) rfl)) rfl
theorem wm_575 : (Cond.selects RX12 yX12_offers yX12_offers) ∈ sy_W := sy_W_of (tp_3 (yX12_offers, 35) (List.mem_of_getElem? (i := 14) rfl)) rfl
theorem wm_576 : (Cond.code yX12_offers cX12_offers 4 (some .boolean)) ∈ sy_W := sy_W_of (tk_5 _ (List.mem_of_getElem? (i := 217) rfl)) rfl
theorem wm_577 : (Cond.methodLink RX12 195 yX12_falls) ∈ sy_W := sy_W_of (tk_5 _ (List.mem_of_getElem? (i := 218) rfl)) rfl
theorem wm_578 : (Cond.instanceMethod yX12_falls) ∈ sy_W := sy_W_of (tk_5 _ (List.mem_of_getElem? (i := 220) rfl)) rfl
theorem wm_579 : (Cond.selects RX12 yX12_falls yX12_falls) ∈ sy_W := sy_W_of (tp_3 (yX12_falls, 35) (List.mem_of_getElem? (i := 15) rfl)) rfl
theorem wm_580 : (Cond.code yX12_falls cX12_falls 4 (some .boolean)) ∈ sy_W := sy_W_of (tk_5 _ (List.mem_of_getElem? (i := 221) rfl)) rfl
theorem wm_581 : (Cond.methodLink RX12 192 yX12_has) ∈ sy_W := sy_W_of (tk_5 _ (List.mem_of_getElem? (i := 222) rfl)) rfl
theorem wm_582 : (Cond.static yX12_has) ∈ sy_W := sy_W_of (tk_5 _ (List.mem_of_getElem? (i := 223) rfl)) rfl
theorem wm_583 : (Cond.code yX12_has cX12_has 2 (some .boolean)) ∈ sy_W := sy_W_of (tk_5 _ (List.mem_of_getElem? (i := 224) rfl)) rfl
theorem wm_584 : (Cond.methodLink RL 48 yX11_take) ∈ sy_W := sy_W_of (tk_3 _ (List.mem_of_getElem? (i := 163) rfl)) rfl
theorem wm_585 : (Cond.instanceMethod yX11_take) ∈ sy_W := sy_W_of (tk_3 _ (List.mem_of_getElem? (i := 164) rfl)) rfl
theorem wm_586 : (Cond.selects RX11 yX11_take yX11_take) ∈ sy_W := sy_W_of (tk_3 _ (List.mem_of_getElem? (i := 165) rfl)) rfl
theorem wm_587 : (Cond.code yX11_take cX11_take 2 (some .int)) ∈ sy_W := sy_W_of (tk_3 _ (List.mem_of_getElem? (i := 166) rfl)) rfl
theorem wm_588 : (Cond.methodLink RX11 235 yX10_isFatherHolding) ∈ sy_W := sy_W_of (tk_3 _ (List.mem_of_getElem? (i := 167) rfl)) rfl
theorem wm_589 : (Cond.instanceMethod yX10_isFatherHolding) ∈ sy_W := sy_W_of (tk_3 _ (List.mem_of_getElem? (i := 168) rfl)) rfl
theorem wm_590 : (Cond.selects RX10 yX10_isFatherHolding yX10_isFatherHolding) ∈ sy_W := sy_W_of (tk_3 _ (List.mem_of_getElem? (i := 169) rfl)) rfl
theorem wm_591 : (Cond.code yX10_isFatherHolding cX10_isFatherHolding 2 (some .boolean)) ∈ sy_W := sy_W_of (tk_3 _ (List.mem_of_getElem? (i := 170) rfl)) rfl
theorem wm_592 : (Cond.methodLink RX10 64 yX3_isSon) ∈ sy_W := sy_W_of (tk_3 _ (List.mem_of_getElem? (i := 171) rfl)) rfl
theorem wm_593 : (Cond.instanceMethod yX3_isSon) ∈ sy_W := sy_W_of (tk_3 _ (List.mem_of_getElem? (i := 172) rfl)) rfl
theorem wm_594 : (Cond.selects RX3 yX3_isSon yX3_isSon) ∈ sy_W := sy_W_of (tk_3 _ (List.mem_of_getElem? (i := 173) rfl)) rfl
theorem wm_595 : (Cond.code yX3_isSon cX3_isSon 3 (some .boolean)) ∈ sy_W := sy_W_of (tk_3 _ (List.mem_of_getElem? (i := 174) rfl)) rfl
theorem wm_596 : (Cond.methodLink RX3 56 yX3_isPerson) ∈ sy_W := sy_W_of (tk_3 _ (List.mem_of_getElem? (i := 175) rfl)) rfl
theorem wm_597 : (Cond.methodLink RX11 238 yX10_handTo) ∈ sy_W := sy_W_of (tk_3 _ (List.mem_of_getElem? (i := 176) rfl)) rfl
theorem wm_598 : (Cond.methodLink RL 51 yX12_take) ∈ sy_W := sy_W_of (tk_5 _ (List.mem_of_getElem? (i := 225) rfl)) rfl
theorem wm_599 : (Cond.instanceMethod yX12_take) ∈ sy_W := sy_W_of (tk_5 _ (List.mem_of_getElem? (i := 226) rfl)) rfl
theorem wm_600 : (Cond.selects RX12 yX12_take yX12_take) ∈ sy_W := sy_W_of (tk_5 _ (List.mem_of_getElem? (i := 227) rfl)) rfl
theorem wm_601 : (Cond.code yX12_take cX12_take 2 (some .int)) ∈ sy_W := sy_W_of (tk_5 _ (List.mem_of_getElem? (i := 228) rfl)) rfl
theorem wm_602 : (Cond.methodLink RX12 209 yX12_isSonOfWhoHolds) ∈ sy_W := sy_W_of (tk_5 _ (List.mem_of_getElem? (i := 229) rfl)) rfl
theorem wm_603 : (Cond.instanceMethod yX12_isSonOfWhoHolds) ∈ sy_W := sy_W_of (tk_5 _ (List.mem_of_getElem? (i := 231) rfl)) rfl
theorem wm_604 : (Cond.selects RX12 yX12_isSonOfWhoHolds yX12_isSonOfWhoHolds) ∈ sy_W := sy_W_of (tp_4 (yX12_isSonOfWhoHolds, 35) (List.mem_of_getElem? (i := 0) rfl)) rfl
theorem wm_605 : (Cond.code yX12_isSonOfWhoHolds cX12_isSonOfWhoHolds 2 (some .boolean)) ∈ sy_W := sy_W_of (tk_5 _ (List.mem_of_getElem? (i := 232) rfl)) rfl
theorem wm_606 : (Cond.methodLink RX12 206 yX12_fatherOf) ∈ sy_W := sy_W_of (tk_5 _ (List.mem_of_getElem? (i := 233) rfl)) rfl
theorem wm_607 : (Cond.instanceMethod yX12_fatherOf) ∈ sy_W := sy_W_of (tk_5 _ (List.mem_of_getElem? (i := 235) rfl)) rfl
theorem wm_608 : (Cond.selects RX12 yX12_fatherOf yX12_fatherOf) ∈ sy_W := sy_W_of (tp_4 (yX12_fatherOf, 35) (List.mem_of_getElem? (i := 1) rfl)) rfl
theorem wm_609 : (Cond.code yX12_fatherOf cX12_fatherOf 2 (some .int)) ∈ sy_W := sy_W_of (tk_5 _ (List.mem_of_getElem? (i := 236) rfl)) rfl
theorem wm_610 : (Cond.methodLink RX12 212 yX12_takesIt) ∈ sy_W := sy_W_of (tk_5 _ (List.mem_of_getElem? (i := 237) rfl)) rfl
theorem wm_611 : (Cond.instanceMethod yX12_takesIt) ∈ sy_W := sy_W_of (tk_5 _ (List.mem_of_getElem? (i := 239) rfl)) rfl
theorem wm_612 : (Cond.selects RX12 yX12_takesIt yX12_takesIt) ∈ sy_W := sy_W_of (tp_4 (yX12_takesIt, 35) (List.mem_of_getElem? (i := 2) rfl)) rfl
theorem wm_613 : (Cond.code yX12_takesIt cX12_takesIt 2 none) ∈ sy_W := sy_W_of (tk_6 _ (List.mem_of_getElem? (i := 0) rfl)) rfl
theorem wm_614 : (Cond.methodLink RL 52 yX11_join) ∈ sy_W := sy_W_of (tk_3 _ (List.mem_of_getElem? (i := 177) rfl)) rfl
theorem wm_615 : (Cond.instanceMethod yX11_join) ∈ sy_W := sy_W_of (tk_3 _ (List.mem_of_getElem? (i := 178) rfl)) rfl
theorem wm_616 : (Cond.selects RX11 yX11_join yX11_join) ∈ sy_W := sy_W_of (tk_3 _ (List.mem_of_getElem? (i := 179) rfl)) rfl
theorem wm_617 : (Cond.code yX11_join cX11_join 2 (some .int)) ∈ sy_W := sy_W_of (tk_3 _ (List.mem_of_getElem? (i := 180) rfl)) rfl
theorem wm_618 : (Cond.methodLink RX11 242 yX3_areLevel) ∈ sy_W := sy_W_of (tk_3 _ (List.mem_of_getElem? (i := 181) rfl)) rfl
theorem wm_619 : (Cond.instanceMethod yX3_areLevel) ∈ sy_W := sy_W_of (tk_3 _ (List.mem_of_getElem? (i := 182) rfl)) rfl
theorem wm_620 : (Cond.selects RX3 yX3_areLevel yX3_areLevel) ∈ sy_W := sy_W_of (tk_3 _ (List.mem_of_getElem? (i := 183) rfl)) rfl
theorem wm_621 : (Cond.code yX3_areLevel cX3_areLevel 3 (some .boolean)) ∈ sy_W := sy_W_of (tk_3 _ (List.mem_of_getElem? (i := 184) rfl)) rfl
theorem wm_622 : (Cond.methodLink RX3 60 Lib.Math.abs.name) ∈ sy_W := sy_W_of (tk_3 _ (List.mem_of_getElem? (i := 185) rfl)) rfl
theorem wm_623 : (Cond.static Lib.Math.abs.name) ∈ sy_W := sy_W_of (tk_3 _ (List.mem_of_getElem? (i := 186) rfl)) rfl
theorem wm_624 : (Cond.code Lib.Math.abs.name Lib.Math.abs.code 1 (some .int)) ∈ sy_W := sy_W_of (tk_3 _ (List.mem_of_getElem? (i := 187) rfl)) rfl
theorem wm_625 : (Cond.methodLink RL 55 yX12_join) ∈ sy_W := sy_W_of (tk_6 _ (List.mem_of_getElem? (i := 1) rfl)) rfl
theorem wm_626 : (Cond.instanceMethod yX12_join) ∈ sy_W := sy_W_of (tk_6 _ (List.mem_of_getElem? (i := 2) rfl)) rfl
theorem wm_627 : (Cond.selects RX12 yX12_join yX12_join) ∈ sy_W := sy_W_of (tk_6 _ (List.mem_of_getElem? (i := 3) rfl)) rfl
theorem wm_628 : (Cond.code yX12_join cX12_join 2 (some .int)) ∈ sy_W := sy_W_of (tk_6 _ (List.mem_of_getElem? (i := 4) rfl)) rfl
theorem wm_629 : (Cond.methodLink RX12 216 yX12_areLevel) ∈ sy_W := sy_W_of (tk_6 _ (List.mem_of_getElem? (i := 5) rfl)) rfl
theorem wm_630 : (Cond.instanceMethod yX12_areLevel) ∈ sy_W := sy_W_of (tk_6 _ (List.mem_of_getElem? (i := 7) rfl)) rfl
theorem wm_631 : (Cond.selects RX12 yX12_areLevel yX12_areLevel) ∈ sy_W := sy_W_of (tp_4 (yX12_areLevel, 35) (List.mem_of_getElem? (i := 3) rfl)) rfl
theorem wm_632 : (Cond.code yX12_areLevel cX12_areLevel 4 (some .boolean)) ∈ sy_W := sy_W_of (tk_6 _ (List.mem_of_getElem? (i := 8) rfl)) rfl
theorem wm_633 : (Cond.methodLink RL 56 yX11_fruit) ∈ sy_W := sy_W_of (tk_3 _ (List.mem_of_getElem? (i := 188) rfl)) rfl
theorem wm_634 : (Cond.instanceMethod yX11_fruit) ∈ sy_W := sy_W_of (tk_3 _ (List.mem_of_getElem? (i := 189) rfl)) rfl
theorem wm_635 : (Cond.selects RX11 yX11_fruit yX11_fruit) ∈ sy_W := sy_W_of (tk_3 _ (List.mem_of_getElem? (i := 190) rfl)) rfl
theorem wm_636 : (Cond.code yX11_fruit cX11_fruit 2 (some .int)) ∈ sy_W := sy_W_of (tk_3 _ (List.mem_of_getElem? (i := 191) rfl)) rfl
theorem wm_637 : (Cond.methodLink RX11 245 Lib.Math.min.name) ∈ sy_W := sy_W_of (tk_3 _ (List.mem_of_getElem? (i := 192) rfl)) rfl
theorem wm_638 : (Cond.methodLink RL 59 yX12_fruit) ∈ sy_W := sy_W_of (tk_6 _ (List.mem_of_getElem? (i := 9) rfl)) rfl
theorem wm_639 : (Cond.instanceMethod yX12_fruit) ∈ sy_W := sy_W_of (tk_6 _ (List.mem_of_getElem? (i := 10) rfl)) rfl
theorem wm_640 : (Cond.selects RX12 yX12_fruit yX12_fruit) ∈ sy_W := sy_W_of (tk_6 _ (List.mem_of_getElem? (i := 11) rfl)) rfl
theorem wm_641 : (Cond.code yX12_fruit cX12_fruit 2 (some .int)) ∈ sy_W := sy_W_of (tk_6 _ (List.mem_of_getElem? (i := 12) rfl)) rfl
theorem wm_642 : (Cond.methodLink RL 60 yX11_drift) ∈ sy_W := sy_W_of (tk_3 _ (List.mem_of_getElem? (i := 193) rfl)) rfl
theorem wm_643 : (Cond.instanceMethod yX11_drift) ∈ sy_W := sy_W_of (tk_3 _ (List.mem_of_getElem? (i := 194) rfl)) rfl
theorem wm_644 : (Cond.selects RX11 yX11_drift yX11_drift) ∈ sy_W := sy_W_of (tk_3 _ (List.mem_of_getElem? (i := 195) rfl)) rfl
theorem wm_645 : (Cond.code yX11_drift cX11_drift 4 (some .int)) ∈ sy_W := sy_W_of (tk_3 _ (List.mem_of_getElem? (i := 196) rfl)) rfl
theorem wm_646 : (Cond.methodLink RX11 251 yX11_passByDraw) ∈ sy_W := sy_W_of (tk_3 _ (List.mem_of_getElem? (i := 197) rfl)) rfl
theorem wm_647 : (Cond.instanceMethod yX11_passByDraw) ∈ sy_W := sy_W_of (tk_3 _ (List.mem_of_getElem? (i := 199) rfl)) rfl
theorem wm_648 : (Cond.selects RX11 yX11_passByDraw yX11_passByDraw) ∈ sy_W := sy_W_of (tp_1 (yX11_passByDraw, 16) (List.mem_of_getElem? (i := 15) rfl)) rfl
theorem wm_649 : (Cond.code yX11_passByDraw cX11_passByDraw 2 none) ∈ sy_W := sy_W_of (tk_3 _ (List.mem_of_getElem? (i := 200) rfl)) rfl
theorem wm_650 : (Cond.methodLink RX11 336 yX11_draw) ∈ sy_W := sy_W_of (tk_3 _ (List.mem_of_getElem? (i := 201) rfl)) rfl
theorem wm_651 : (Cond.instanceMethod yX11_draw) ∈ sy_W := sy_W_of (tk_3 _ (List.mem_of_getElem? (i := 203) rfl)) rfl
theorem wm_652 : (Cond.selects RX11 yX11_draw yX11_draw) ∈ sy_W := sy_W_of (tp_2 (yX11_draw, 16) (List.mem_of_getElem? (i := 0) rfl)) rfl
theorem wm_653 : (Cond.code yX11_draw cX11_draw 2 (some .int)) ∈ sy_W := sy_W_of (tk_3 _ (List.mem_of_getElem? (i := 204) rfl)) rfl
theorem wm_654 : (Cond.constantLong RX11 339 (1103515245)) ∈ sy_W := sy_W_of (tk_3 _ (List.mem_of_getElem? (i := 205) rfl)) rfl
theorem wm_655 : (Cond.constantLong RX11 341 (12345)) ∈ sy_W := sy_W_of (tk_3 _ (List.mem_of_getElem? (i := 206) rfl)) rfl
theorem wm_656 : (Cond.constantLong RX11 343 (2147483647)) ∈ sy_W := sy_W_of (tk_3 _ (List.mem_of_getElem? (i := 207) rfl)) rfl
theorem wm_657 : (Cond.constant RX11 345 (65536)) ∈ sy_W := sy_W_of (tk_3 _ (List.mem_of_getElem? (i := 208) rfl)) rfl
theorem wm_658 : (Cond.methodLink RL 63 yX12_drift) ∈ sy_W := sy_W_of (tk_6 _ (List.mem_of_getElem? (i := 13) rfl)) rfl
theorem wm_659 : (Cond.instanceMethod yX12_drift) ∈ sy_W := sy_W_of (tk_6 _ (List.mem_of_getElem? (i := 14) rfl)) rfl
theorem wm_660 : (Cond.selects RX12 yX12_drift yX12_drift) ∈ sy_W := sy_W_of (tk_6 _ (List.mem_of_getElem? (i := 15) rfl)) rfl
theorem wm_661 : (Cond.code yX12_drift cX12_drift 6 (some .int)) ∈ sy_W := sy_W_of (tk_6 _ (List.mem_of_getElem? (i := 16) rfl)) rfl
theorem wm_662 : (Cond.methodLink RX12 226 yX12_draw) ∈ sy_W := sy_W_of (tk_6 _ (List.mem_of_getElem? (i := 17) rfl)) rfl
theorem wm_663 : (Cond.instanceMethod yX12_draw) ∈ sy_W := sy_W_of (tk_6 _ (List.mem_of_getElem? (i := 19) rfl)) rfl
theorem wm_664 : (Cond.selects RX12 yX12_draw yX12_draw) ∈ sy_W := sy_W_of (tp_4 (yX12_draw, 35) (List.mem_of_getElem? (i := 4) rfl)) rfl
theorem wm_665 : (Cond.code yX12_draw cX12_draw 2 (some .int)) ∈ sy_W := sy_W_of (tk_6 _ (List.mem_of_getElem? (i := 20) rfl)) rfl
theorem wm_666 : (Cond.constantLong RX12 219 (1103515245)) ∈ sy_W := sy_W_of (tk_6 _ (List.mem_of_getElem? (i := 21) rfl)) rfl
theorem wm_667 : (Cond.constantLong RX12 221 (12345)) ∈ sy_W := sy_W_of (tk_6 _ (List.mem_of_getElem? (i := 22) rfl)) rfl
theorem wm_668 : (Cond.constantLong RX12 223 (2147483648)) ∈ sy_W := sy_W_of (tk_6 _ (List.mem_of_getElem? (i := 23) rfl)) rfl
theorem wm_669 : (Cond.constant RX12 225 (65536)) ∈ sy_W := sy_W_of (tk_6 _ (List.mem_of_getElem? (i := 24) rfl)) rfl
theorem wm_670 : (Cond.methodLink RL 64 yX11_undo) ∈ sy_W := sy_W_of (tk_3 _ (List.mem_of_getElem? (i := 209) rfl)) rfl
theorem wm_671 : (Cond.instanceMethod yX11_undo) ∈ sy_W := sy_W_of (tk_3 _ (List.mem_of_getElem? (i := 210) rfl)) rfl
theorem wm_672 : (Cond.selects RX11 yX11_undo yX11_undo) ∈ sy_W := sy_W_of (tk_3 _ (List.mem_of_getElem? (i := 211) rfl)) rfl
theorem wm_673 : (Cond.code yX11_undo cX11_undo 2 (some .int)) ∈ sy_W := sy_W_of (tk_3 _ (List.mem_of_getElem? (i := 212) rfl)) rfl
theorem wm_674 : (Cond.methodLink RX11 254 yX5_takeBack) ∈ sy_W := sy_W_of (tk_3 _ (List.mem_of_getElem? (i := 213) rfl)) rfl
theorem wm_675 : (Cond.instanceMethod yX5_takeBack) ∈ sy_W := sy_W_of (tk_3 _ (List.mem_of_getElem? (i := 214) rfl)) rfl
theorem wm_676 : (Cond.selects RX5 yX5_takeBack yX5_takeBack) ∈ sy_W := sy_W_of (tk_3 _ (List.mem_of_getElem? (i := 215) rfl)) rfl
theorem wm_677 : (Cond.code yX5_takeBack cX5_takeBack 3 none) ∈ sy_W := sy_W_of (tk_3 _ (List.mem_of_getElem? (i := 216) rfl)) rfl
theorem wm_678 : (Cond.methodLink RL 67 yX12_undo) ∈ sy_W := sy_W_of (tk_6 _ (List.mem_of_getElem? (i := 25) rfl)) rfl
theorem wm_679 : (Cond.instanceMethod yX12_undo) ∈ sy_W := sy_W_of (tk_6 _ (List.mem_of_getElem? (i := 26) rfl)) rfl
theorem wm_680 : (Cond.selects RX12 yX12_undo yX12_undo) ∈ sy_W := sy_W_of (tk_6 _ (List.mem_of_getElem? (i := 27) rfl)) rfl
theorem wm_681 : (Cond.code yX12_undo cX12_undo 3 (some .int)) ∈ sy_W := sy_W_of (tk_6 _ (List.mem_of_getElem? (i := 28) rfl)) rfl
theorem wm_682 : (Cond.methodLink RL 68 yX11_shifts) ∈ sy_W := sy_W_of (tk_3 _ (List.mem_of_getElem? (i := 217) rfl)) rfl
theorem wm_683 : (Cond.instanceMethod yX11_shifts) ∈ sy_W := sy_W_of (tk_3 _ (List.mem_of_getElem? (i := 218) rfl)) rfl
theorem wm_684 : (Cond.selects RX11 yX11_shifts yX11_shifts) ∈ sy_W := sy_W_of (tk_3 _ (List.mem_of_getElem? (i := 219) rfl)) rfl
theorem wm_685 : (Cond.code yX11_shifts cX11_shifts 4 (some .int)) ∈ sy_W := sy_W_of (tk_3 _ (List.mem_of_getElem? (i := 220) rfl)) rfl
theorem wm_686 : (Cond.methodLink RX11 258 yX11_isNoTrial) ∈ sy_W := sy_W_of (tk_3 _ (List.mem_of_getElem? (i := 221) rfl)) rfl
theorem wm_687 : (Cond.static yX11_isNoTrial) ∈ sy_W := sy_W_of (tk_3 _ (List.mem_of_getElem? (i := 222) rfl)) rfl
theorem wm_688 : (Cond.code yX11_isNoTrial cX11_isNoTrial 2 (some .boolean)) ∈ sy_W := sy_W_of (tk_3 _ (List.mem_of_getElem? (i := 223) rfl)) rfl
theorem wm_689 : (Cond.methodLink RX11 261 yX9_find) ∈ sy_W := sy_W_of (tk_3 _ (List.mem_of_getElem? (i := 224) rfl)) rfl
theorem wm_690 : (Cond.instanceMethod yX9_find) ∈ sy_W := sy_W_of (tk_3 _ (List.mem_of_getElem? (i := 225) rfl)) rfl
theorem wm_691 : (Cond.selects RX9 yX9_find yX9_find) ∈ sy_W := sy_W_of (tk_3 _ (List.mem_of_getElem? (i := 226) rfl)) rfl
theorem wm_692 : (Cond.code yX9_find cX9_find 4 none) ∈ sy_W := sy_W_of (tk_3 _ (List.mem_of_getElem? (i := 227) rfl)) rfl
theorem wm_693 : (Cond.fieldLink RX9 15 "SkyTurns$ShiftRows" "limit" "I") ∈ sy_W := sy_W_of (tk_1 _ (List.mem_of_getElem? (i := 218) rfl)) rfl
theorem wm_694 : (Cond.fieldLink RX9 19 "SkyTurns$ShiftRows" "best" "I") ∈ sy_W := sy_W_of (tk_1 _ (List.mem_of_getElem? (i := 216) rfl)) rfl
theorem wm_695 : (Cond.fieldLink RX9 22 "SkyTurns$ShiftRows" "deepest" "I") ∈ sy_W := sy_W_of (tk_1 _ (List.mem_of_getElem? (i := 217) rfl)) rfl
theorem wm_696 : (Cond.methodLink RX9 25 ⟨"SkyTurns$ShiftRows", "tryRows", "(LSkyTurns$Sky;I)V"⟩) ∈ sy_W := sy_W_of (tk_3 _ (List.mem_of_getElem? (i := 228) rfl)) rfl
theorem wm_697 : (Cond.sameMethod "SkyTurns$ShiftRows" "SkyTurns$Rows" "tryRows" "(LSkyTurns$Sky;I)V") ∈ sy_W := sy_W_of (tk_3 _ (List.mem_of_getElem? (i := 229) rfl)) rfl
theorem wm_698 : (Cond.selects RX9 ⟨"SkyTurns$ShiftRows", "tryRows", "(LSkyTurns$Sky;I)V"⟩ yX7_tryRows) ∈ sy_W := sy_W_of (tk_3 _ (List.mem_of_getElem? (i := 231) rfl)) rfl
theorem wm_699 : (Cond.instanceMethod yX7_tryRows) ∈ sy_W := sy_W_of (tk_3 _ (List.mem_of_getElem? (i := 232) rfl)) rfl
theorem wm_700 : (Cond.code yX7_tryRows cX7_tryRows 4 none) ∈ sy_W := sy_W_of (tk_3 _ (List.mem_of_getElem? (i := 233) rfl)) rfl
theorem wm_701 : (Cond.methodLink RX7 26 Lib.Math.min.name) ∈ sy_W := sy_W_of (tk_3 _ (List.mem_of_getElem? (i := 234) rfl)) rfl
theorem wm_702 : (Cond.fieldLink RX7 32 "SkyTurns$Rows" "hours" "I") ∈ sy_W := sy_W_of (tk_1 _ (List.mem_of_getElem? (i := 231) rfl)) rfl
theorem wm_703 : (Cond.methodLink RX7 36 yX10_copyFrom) ∈ sy_W := sy_W_of (tk_3 _ (List.mem_of_getElem? (i := 235) rfl)) rfl
theorem wm_704 : (Cond.methodLink RX7 42 ⟨"SkyTurns$Rows", "goOn", "(I)V"⟩) ∈ sy_W := sy_W_of (tk_3 _ (List.mem_of_getElem? (i := 236) rfl)) rfl
theorem wm_705 : (Cond.sameMethod "SkyTurns$Rows" "SkyTurns$Rows" "goOn" "(I)V") ∈ sy_W := sy_W_of (tk_6 _ (List.mem_of_getElem? (i := 136) rfl)) rfl
theorem wm_706 : (Cond.selects RX8 ⟨"SkyTurns$Rows", "goOn", "(I)V"⟩ yX7_goOn) ∈ sy_W := sy_W_os (List.mem_of_getElem? (i := 0) rfl) rfl
theorem wm_707 : (Cond.instanceMethod yX7_goOn) ∈ sy_W := sy_W_of (tk_3 _ (List.mem_of_getElem? (i := 238) rfl)) rfl
theorem wm_708 : (Cond.code yX7_goOn cX7_goOn 4 none) ∈ sy_W := sy_W_of (tk_3 _ (List.mem_of_getElem? (i := 239) rfl)) rfl
theorem wm_709 : (Cond.fieldLink RX7 49 "SkyTurns$Edge" "people" "I") ∈ sy_W := sy_W_of (tk_1 _ (List.mem_of_getElem? (i := 64) rfl)) rfl
theorem wm_710 : (Cond.methodLink RX7 46 ⟨"SkyTurns$Rows", "endRow", "()V"⟩) ∈ sy_W := sy_W_of (tk_4 _ (List.mem_of_getElem? (i := 0) rfl)) rfl
theorem wm_711 : (Cond.sameMethod "SkyTurns$Rows" "SkyTurns$Rows" "endRow" "()V") ∈ sy_W := sy_W_of (tk_4 _ (List.mem_of_getElem? (i := 2) rfl)) rfl
theorem wm_712 : (Cond.selects RX8 ⟨"SkyTurns$Rows", "endRow", "()V"⟩ yX8_endRow) ∈ sy_W := sy_W_of (tk_4 _ (List.mem_of_getElem? (i := 3) rfl)) rfl
theorem wm_713 : (Cond.instanceMethod yX8_endRow) ∈ sy_W := sy_W_of (tk_4 _ (List.mem_of_getElem? (i := 4) rfl)) rfl
theorem wm_714 : (Cond.code yX8_endRow cX8_endRow 3 none) ∈ sy_W := sy_W_of (tk_4 _ (List.mem_of_getElem? (i := 5) rfl)) rfl
theorem wm_715 : (Cond.fieldLink RX8 32 "SkyTurns$SeenRows" "hoursOf" "[I") ∈ sy_W := sy_W_of (tk_1 _ (List.mem_of_getElem? (i := 229) rfl)) rfl
theorem wm_716 : (Cond.sameField "SkyTurns$SeenRows" "SkyTurns$Rows" "hoursOf" "[I") ∈ sy_W := sy_W_of (tk_1 _ (List.mem_of_getElem? (i := 230) rfl)) rfl
theorem wm_717 : (Cond.fieldLink RX8 22 "SkyTurns$SeenRows" "count" "I") ∈ sy_W := sy_W_of (tk_2 _ (List.mem_of_getElem? (i := 26) rfl)) rfl
theorem wm_718 : (Cond.fieldLink RX8 25 "SkyTurns$SeenRows" "common" "I") ∈ sy_W := sy_W_of (tk_2 _ (List.mem_of_getElem? (i := 28) rfl)) rfl
theorem wm_719 : (Cond.fieldLink RX8 35 "SkyTurns$SeenRows" "row" "[I") ∈ sy_W := sy_W_of (tk_1 _ (List.mem_of_getElem? (i := 224) rfl)) rfl
theorem wm_720 : (Cond.sameField "SkyTurns$SeenRows" "SkyTurns$Rows" "row" "[I") ∈ sy_W := sy_W_of (tk_1 _ (List.mem_of_getElem? (i := 225) rfl)) rfl
theorem wm_721 : (Cond.methodLink RX8 38 arraycopyName) ∈ sy_W := sy_W_of (tk_4 _ (List.mem_of_getElem? (i := 6) rfl)) rfl
theorem wm_722 : (Cond.selects RX9 ⟨"SkyTurns$Rows", "endRow", "()V"⟩ yX9_endRow) ∈ sy_W := sy_W_of (tk_4 _ (List.mem_of_getElem? (i := 7) rfl)) rfl
theorem wm_723 : (Cond.instanceMethod yX9_endRow) ∈ sy_W := sy_W_of (tk_4 _ (List.mem_of_getElem? (i := 8) rfl)) rfl
theorem wm_724 : (Cond.code yX9_endRow cX9_endRow 3 none) ∈ sy_W := sy_W_of (tk_4 _ (List.mem_of_getElem? (i := 9) rfl)) rfl
theorem wm_725 : (Cond.fieldLink RX9 35 "SkyTurns$ShiftRows" "hoursOf" "[I") ∈ sy_W := sy_W_of (tk_1 _ (List.mem_of_getElem? (i := 227) rfl)) rfl
theorem wm_726 : (Cond.sameField "SkyTurns$ShiftRows" "SkyTurns$Rows" "hoursOf" "[I") ∈ sy_W := sy_W_of (tk_1 _ (List.mem_of_getElem? (i := 228) rfl)) rfl
theorem wm_727 : (Cond.methodLink RX9 29 Lib.Math.max.name) ∈ sy_W := sy_W_of (tk_4 _ (List.mem_of_getElem? (i := 10) rfl)) rfl
theorem wm_728 : (Cond.fieldLink RX9 38 "SkyTurns$ShiftRows" "row" "[I") ∈ sy_W := sy_W_of (tk_1 _ (List.mem_of_getElem? (i := 222) rfl)) rfl
theorem wm_729 : (Cond.sameField "SkyTurns$ShiftRows" "SkyTurns$Rows" "row" "[I") ∈ sy_W := sy_W_of (tk_1 _ (List.mem_of_getElem? (i := 223) rfl)) rfl
theorem wm_730 : (Cond.methodLink RX9 41 arraycopyName) ∈ sy_W := sy_W_of (tk_4 _ (List.mem_of_getElem? (i := 11) rfl)) rfl
theorem wm_731 : (Cond.methodLink RX7 54 yX10_lowBehind) ∈ sy_W := sy_W_of (tk_4 _ (List.mem_of_getElem? (i := 12) rfl)) rfl
theorem wm_732 : (Cond.methodLink RX7 58 ⟨"SkyTurns$Rows", "fits", "(III)Z"⟩) ∈ sy_W := sy_W_of (tk_4 _ (List.mem_of_getElem? (i := 13) rfl)) rfl
theorem wm_733 : (Cond.sameMethod "SkyTurns$Rows" "SkyTurns$Rows" "fits" "(III)Z") ∈ sy_W := sy_W_of (tk_4 _ (List.mem_of_getElem? (i := 15) rfl)) rfl
theorem wm_734 : (Cond.selects RX8 ⟨"SkyTurns$Rows", "fits", "(III)Z"⟩ yX8_fits) ∈ sy_W := sy_W_of (tk_4 _ (List.mem_of_getElem? (i := 16) rfl)) rfl
theorem wm_735 : (Cond.instanceMethod yX8_fits) ∈ sy_W := sy_W_of (tk_4 _ (List.mem_of_getElem? (i := 17) rfl)) rfl
theorem wm_736 : (Cond.code yX8_fits cX8_fits 4 (some .boolean)) ∈ sy_W := sy_W_of (tk_4 _ (List.mem_of_getElem? (i := 18) rfl)) rfl
theorem wm_737 : (Cond.selects RX9 ⟨"SkyTurns$Rows", "fits", "(III)Z"⟩ yX9_fits) ∈ sy_W := sy_W_of (tk_4 _ (List.mem_of_getElem? (i := 19) rfl)) rfl
theorem wm_738 : (Cond.instanceMethod yX9_fits) ∈ sy_W := sy_W_of (tk_4 _ (List.mem_of_getElem? (i := 20) rfl)) rfl
theorem wm_739 : (Cond.code yX9_fits cX9_fits 4 (some .boolean)) ∈ sy_W := sy_W_of (tk_4 _ (List.mem_of_getElem? (i := 21) rfl)) rfl
theorem wm_740 : (Cond.methodLink RX7 62 ⟨"SkyTurns$Rows", "standBehind", "(III)V"⟩) ∈ sy_W := sy_W_of (tk_4 _ (List.mem_of_getElem? (i := 22) rfl)) rfl
theorem wm_741 : (Cond.sameMethod "SkyTurns$Rows" "SkyTurns$Rows" "standBehind" "(III)V") ∈ sy_W := sy_W_of (tk_6 _ (List.mem_of_getElem? (i := 137) rfl)) rfl
theorem wm_742 : (Cond.selects RX8 ⟨"SkyTurns$Rows", "standBehind", "(III)V"⟩ yX7_standBehind) ∈ sy_W := sy_W_os (List.mem_of_getElem? (i := 1) rfl) rfl
theorem wm_743 : (Cond.instanceMethod yX7_standBehind) ∈ sy_W := sy_W_of (tk_4 _ (List.mem_of_getElem? (i := 24) rfl)) rfl
theorem wm_744 : (Cond.code yX7_standBehind cX7_standBehind 5 none) ∈ sy_W := sy_W_of (tk_4 _ (List.mem_of_getElem? (i := 25) rfl)) rfl
theorem wm_745 : (Cond.methodLink RX7 66 yX10_handTo) ∈ sy_W := sy_W_of (tk_4 _ (List.mem_of_getElem? (i := 26) rfl)) rfl
theorem wm_746 : (Cond.methodLink RX7 69 yX10_endHour) ∈ sy_W := sy_W_of (tk_4 _ (List.mem_of_getElem? (i := 27) rfl)) rfl
theorem wm_747 : (Cond.selects RX9 ⟨"SkyTurns$Rows", "standBehind", "(III)V"⟩ yX7_standBehind) ∈ sy_W := sy_W_os (List.mem_of_getElem? (i := 3) rfl) rfl
theorem wm_748 : (Cond.selects RX9 ⟨"SkyTurns$Rows", "goOn", "(I)V"⟩ yX7_goOn) ∈ sy_W := sy_W_os (List.mem_of_getElem? (i := 2) rfl) rfl
theorem wm_749 : (Cond.methodLink RX11 265 yX9_fewest) ∈ sy_W := sy_W_of (tk_4 _ (List.mem_of_getElem? (i := 28) rfl)) rfl
theorem wm_750 : (Cond.instanceMethod yX9_fewest) ∈ sy_W := sy_W_of (tk_4 _ (List.mem_of_getElem? (i := 29) rfl)) rfl
theorem wm_751 : (Cond.selects RX9 yX9_fewest yX9_fewest) ∈ sy_W := sy_W_of (tk_4 _ (List.mem_of_getElem? (i := 30) rfl)) rfl
theorem wm_752 : (Cond.code yX9_fewest cX9_fewest 1 (some .int)) ∈ sy_W := sy_W_of (tk_4 _ (List.mem_of_getElem? (i := 31) rfl)) rfl
theorem wm_753 : (Cond.methodLink RX9 47 yX9_isFound) ∈ sy_W := sy_W_of (tk_4 _ (List.mem_of_getElem? (i := 32) rfl)) rfl
theorem wm_754 : (Cond.instanceMethod yX9_isFound) ∈ sy_W := sy_W_of (tk_4 _ (List.mem_of_getElem? (i := 34) rfl)) rfl
theorem wm_755 : (Cond.selects RX9 yX9_isFound yX9_isFound) ∈ sy_W := sy_W_of (tp_2 (yX9_isFound, 9) (List.mem_of_getElem? (i := 1) rfl)) rfl
theorem wm_756 : (Cond.code yX9_isFound cX9_isFound 1 (some .boolean)) ∈ sy_W := sy_W_of (tk_4 _ (List.mem_of_getElem? (i := 35) rfl)) rfl
theorem wm_757 : (Cond.methodLink RX11 268 yX9_holderAt) ∈ sy_W := sy_W_of (tk_4 _ (List.mem_of_getElem? (i := 36) rfl)) rfl
theorem wm_758 : (Cond.instanceMethod yX9_holderAt) ∈ sy_W := sy_W_of (tk_4 _ (List.mem_of_getElem? (i := 37) rfl)) rfl
theorem wm_759 : (Cond.selects RX9 yX9_holderAt yX9_holderAt) ∈ sy_W := sy_W_of (tk_4 _ (List.mem_of_getElem? (i := 38) rfl)) rfl
theorem wm_760 : (Cond.code yX9_holderAt cX9_holderAt 2 (some .int)) ∈ sy_W := sy_W_of (tk_4 _ (List.mem_of_getElem? (i := 39) rfl)) rfl
theorem wm_761 : (Cond.fieldLink RX9 51 "SkyTurns$ShiftRows" "hours" "I") ∈ sy_W := sy_W_of (tk_1 _ (List.mem_of_getElem? (i := 232) rfl)) rfl
theorem wm_762 : (Cond.sameField "SkyTurns$ShiftRows" "SkyTurns$Rows" "hours" "I") ∈ sy_W := sy_W_of (tk_1 _ (List.mem_of_getElem? (i := 233) rfl)) rfl
theorem wm_763 : (Cond.methodLink RL 72 yX12_shifts) ∈ sy_W := sy_W_of (tk_6 _ (List.mem_of_getElem? (i := 29) rfl)) rfl
theorem wm_764 : (Cond.instanceMethod yX12_shifts) ∈ sy_W := sy_W_of (tk_6 _ (List.mem_of_getElem? (i := 30) rfl)) rfl
theorem wm_765 : (Cond.selects RX12 yX12_shifts yX12_shifts) ∈ sy_W := sy_W_of (tk_6 _ (List.mem_of_getElem? (i := 31) rfl)) rfl
theorem wm_766 : (Cond.code yX12_shifts cX12_shifts 8 (some .int)) ∈ sy_W := sy_W_of (tk_6 _ (List.mem_of_getElem? (i := 32) rfl)) rfl
theorem wm_767 : (Cond.methodLink RX12 229 yX12_power) ∈ sy_W := sy_W_of (tk_6 _ (List.mem_of_getElem? (i := 33) rfl)) rfl
theorem wm_768 : (Cond.static yX12_power) ∈ sy_W := sy_W_of (tk_6 _ (List.mem_of_getElem? (i := 34) rfl)) rfl
theorem wm_769 : (Cond.code yX12_power cX12_power 4 (some .int)) ∈ sy_W := sy_W_of (tk_6 _ (List.mem_of_getElem? (i := 35) rfl)) rfl
theorem wm_770 : (Cond.methodLink RX12 233 yX12_lay) ∈ sy_W := sy_W_of (tk_6 _ (List.mem_of_getElem? (i := 36) rfl)) rfl
theorem wm_771 : (Cond.instanceMethod yX12_lay) ∈ sy_W := sy_W_of (tk_6 _ (List.mem_of_getElem? (i := 38) rfl)) rfl
theorem wm_772 : (Cond.selects RX12 yX12_lay yX12_lay) ∈ sy_W := sy_W_of (tp_4 (yX12_lay, 35) (List.mem_of_getElem? (i := 5) rfl)) rfl
theorem wm_773 : (Cond.code yX12_lay cX12_lay 5 none) ∈ sy_W := sy_W_of (tk_6 _ (List.mem_of_getElem? (i := 39) rfl)) rfl
theorem wm_774 : (Cond.methodLink RX12 237 yX12_mostOf) ∈ sy_W := sy_W_of (tk_6 _ (List.mem_of_getElem? (i := 40) rfl)) rfl
theorem wm_775 : (Cond.instanceMethod yX12_mostOf) ∈ sy_W := sy_W_of (tk_6 _ (List.mem_of_getElem? (i := 42) rfl)) rfl
theorem wm_776 : (Cond.selects RX12 yX12_mostOf yX12_mostOf) ∈ sy_W := sy_W_of (tp_4 (yX12_mostOf, 35) (List.mem_of_getElem? (i := 6) rfl)) rfl
theorem wm_777 : (Cond.code yX12_mostOf cX12_mostOf 6 (some .int)) ∈ sy_W := sy_W_of (tk_6 _ (List.mem_of_getElem? (i := 43) rfl)) rfl
theorem wm_778 : (Cond.methodLink RX12 240 yX12_goesFor) ∈ sy_W := sy_W_of (tk_6 _ (List.mem_of_getElem? (i := 44) rfl)) rfl
theorem wm_779 : (Cond.instanceMethod yX12_goesFor) ∈ sy_W := sy_W_of (tk_6 _ (List.mem_of_getElem? (i := 46) rfl)) rfl
theorem wm_780 : (Cond.selects RX12 yX12_goesFor yX12_goesFor) ∈ sy_W := sy_W_of (tp_4 (yX12_goesFor, 35) (List.mem_of_getElem? (i := 7) rfl)) rfl
theorem wm_781 : (Cond.code yX12_goesFor cX12_goesFor 4 (some .int)) ∈ sy_W := sy_W_of (tk_6 _ (List.mem_of_getElem? (i := 47) rfl)) rfl
theorem wm_782 : (Cond.methodLink RL 73 yX11_sinks) ∈ sy_W := sy_W_of (tk_4 _ (List.mem_of_getElem? (i := 40) rfl)) rfl
theorem wm_783 : (Cond.instanceMethod yX11_sinks) ∈ sy_W := sy_W_of (tk_4 _ (List.mem_of_getElem? (i := 41) rfl)) rfl
theorem wm_784 : (Cond.selects RX11 yX11_sinks yX11_sinks) ∈ sy_W := sy_W_of (tk_4 _ (List.mem_of_getElem? (i := 42) rfl)) rfl
theorem wm_785 : (Cond.code yX11_sinks cX11_sinks 3 (some .int)) ∈ sy_W := sy_W_of (tk_4 _ (List.mem_of_getElem? (i := 43) rfl)) rfl
theorem wm_786 : (Cond.methodLink RX11 271 yX9_firstSunk) ∈ sy_W := sy_W_of (tk_4 _ (List.mem_of_getElem? (i := 44) rfl)) rfl
theorem wm_787 : (Cond.instanceMethod yX9_firstSunk) ∈ sy_W := sy_W_of (tk_4 _ (List.mem_of_getElem? (i := 45) rfl)) rfl
theorem wm_788 : (Cond.selects RX9 yX9_firstSunk yX9_firstSunk) ∈ sy_W := sy_W_of (tk_4 _ (List.mem_of_getElem? (i := 46) rfl)) rfl
theorem wm_789 : (Cond.code yX9_firstSunk cX9_firstSunk 1 (some .int)) ∈ sy_W := sy_W_of (tk_4 _ (List.mem_of_getElem? (i := 47) rfl)) rfl
theorem wm_790 : (Cond.methodLink RL 76 yX12_sinks) ∈ sy_W := sy_W_of (tk_6 _ (List.mem_of_getElem? (i := 48) rfl)) rfl
theorem wm_791 : (Cond.instanceMethod yX12_sinks) ∈ sy_W := sy_W_of (tk_6 _ (List.mem_of_getElem? (i := 49) rfl)) rfl
theorem wm_792 : (Cond.selects RX12 yX12_sinks yX12_sinks) ∈ sy_W := sy_W_of (tk_6 _ (List.mem_of_getElem? (i := 50) rfl)) rfl
theorem wm_793 : (Cond.code yX12_sinks cX12_sinks 6 (some .int)) ∈ sy_W := sy_W_of (tk_6 _ (List.mem_of_getElem? (i := 51) rfl)) rfl
theorem wm_794 : (Cond.methodLink RL 77 yX11_chain) ∈ sy_W := sy_W_of (tk_4 _ (List.mem_of_getElem? (i := 48) rfl)) rfl
theorem wm_795 : (Cond.instanceMethod yX11_chain) ∈ sy_W := sy_W_of (tk_4 _ (List.mem_of_getElem? (i := 49) rfl)) rfl
theorem wm_796 : (Cond.selects RX11 yX11_chain yX11_chain) ∈ sy_W := sy_W_of (tk_4 _ (List.mem_of_getElem? (i := 50) rfl)) rfl
theorem wm_797 : (Cond.code yX11_chain cX11_chain 3 (some .int)) ∈ sy_W := sy_W_of (tk_4 _ (List.mem_of_getElem? (i := 51) rfl)) rfl
theorem wm_798 : (Cond.fieldLink RX11 276 "SkyTurns$Chain" "length" "I") ∈ sy_W := sy_W_of (tk_2 _ (List.mem_of_getElem? (i := 58) rfl)) rfl
theorem wm_799 : (Cond.methodLink RX11 274 yX1_find) ∈ sy_W := sy_W_of (tk_4 _ (List.mem_of_getElem? (i := 52) rfl)) rfl
theorem wm_800 : (Cond.instanceMethod yX1_find) ∈ sy_W := sy_W_of (tk_4 _ (List.mem_of_getElem? (i := 53) rfl)) rfl
theorem wm_801 : (Cond.selects RX1 yX1_find yX1_find) ∈ sy_W := sy_W_of (tk_4 _ (List.mem_of_getElem? (i := 54) rfl)) rfl
theorem wm_802 : (Cond.code yX1_find cX1_find 5 none) ∈ sy_W := sy_W_of (tk_4 _ (List.mem_of_getElem? (i := 55) rfl)) rfl
theorem wm_803 : (Cond.fieldLink RX1 35 "SkyTurns$Chain" "length" "I") ∈ sy_W := sy_W_of (tk_2 _ (List.mem_of_getElem? (i := 57) rfl)) rfl
theorem wm_804 : (Cond.fieldLink RX1 39 "SkyTurns$Edge" "people" "I") ∈ sy_W := sy_W_of (tk_1 _ (List.mem_of_getElem? (i := 61) rfl)) rfl
theorem wm_805 : (Cond.methodLink RX1 29 yX10_isHolding) ∈ sy_W := sy_W_of (tk_4 _ (List.mem_of_getElem? (i := 56) rfl)) rfl
theorem wm_806 : (Cond.methodLink RX1 44 yX10_isTrickedBySome) ∈ sy_W := sy_W_of (tk_4 _ (List.mem_of_getElem? (i := 57) rfl)) rfl
theorem wm_807 : (Cond.instanceMethod yX10_isTrickedBySome) ∈ sy_W := sy_W_of (tk_4 _ (List.mem_of_getElem? (i := 58) rfl)) rfl
theorem wm_808 : (Cond.selects RX10 yX10_isTrickedBySome yX10_isTrickedBySome) ∈ sy_W := sy_W_of (tk_4 _ (List.mem_of_getElem? (i := 59) rfl)) rfl
theorem wm_809 : (Cond.code yX10_isTrickedBySome cX10_isTrickedBySome 3 (some .boolean)) ∈ sy_W := sy_W_of (tk_4 _ (List.mem_of_getElem? (i := 60) rfl)) rfl
theorem wm_810 : (Cond.methodLink RX1 47 yX10_isFatherHolding) ∈ sy_W := sy_W_of (tk_4 _ (List.mem_of_getElem? (i := 61) rfl)) rfl
theorem wm_811 : (Cond.methodLink RX1 50 yX1_countSteps) ∈ sy_W := sy_W_of (tk_4 _ (List.mem_of_getElem? (i := 62) rfl)) rfl
theorem wm_812 : (Cond.instanceMethod yX1_countSteps) ∈ sy_W := sy_W_of (tk_4 _ (List.mem_of_getElem? (i := 64) rfl)) rfl
theorem wm_813 : (Cond.selects RX1 yX1_countSteps yX1_countSteps) ∈ sy_W := sy_W_of (tp_2 (yX1_countSteps, 6) (List.mem_of_getElem? (i := 2) rfl)) rfl
theorem wm_814 : (Cond.code yX1_countSteps cX1_countSteps 4 none) ∈ sy_W := sy_W_of (tk_4 _ (List.mem_of_getElem? (i := 65) rfl)) rfl
theorem wm_815 : (Cond.methodLink RX1 58 yX1_leadsOn) ∈ sy_W := sy_W_of (tk_4 _ (List.mem_of_getElem? (i := 66) rfl)) rfl
theorem wm_816 : (Cond.instanceMethod yX1_leadsOn) ∈ sy_W := sy_W_of (tk_4 _ (List.mem_of_getElem? (i := 68) rfl)) rfl
theorem wm_817 : (Cond.selects RX1 yX1_leadsOn yX1_leadsOn) ∈ sy_W := sy_W_of (tp_2 (yX1_leadsOn, 6) (List.mem_of_getElem? (i := 3) rfl)) rfl
theorem wm_818 : (Cond.code yX1_leadsOn cX1_leadsOn 4 (some .boolean)) ∈ sy_W := sy_W_of (tk_4 _ (List.mem_of_getElem? (i := 69) rfl)) rfl
theorem wm_819 : (Cond.methodLink RX1 62 yX1_isStep) ∈ sy_W := sy_W_of (tk_4 _ (List.mem_of_getElem? (i := 70) rfl)) rfl
theorem wm_820 : (Cond.instanceMethod yX1_isStep) ∈ sy_W := sy_W_of (tk_4 _ (List.mem_of_getElem? (i := 72) rfl)) rfl
theorem wm_821 : (Cond.selects RX1 yX1_isStep yX1_isStep) ∈ sy_W := sy_W_of (tp_2 (yX1_isStep, 6) (List.mem_of_getElem? (i := 4) rfl)) rfl
theorem wm_822 : (Cond.code yX1_isStep cX1_isStep 3 (some .boolean)) ∈ sy_W := sy_W_of (tk_4 _ (List.mem_of_getElem? (i := 73) rfl)) rfl
theorem wm_823 : (Cond.methodLink RX1 65 yX3_isSon) ∈ sy_W := sy_W_of (tk_4 _ (List.mem_of_getElem? (i := 74) rfl)) rfl
theorem wm_824 : (Cond.methodLink RX1 54 yX1_nextOf) ∈ sy_W := sy_W_of (tk_4 _ (List.mem_of_getElem? (i := 75) rfl)) rfl
theorem wm_825 : (Cond.instanceMethod yX1_nextOf) ∈ sy_W := sy_W_of (tk_4 _ (List.mem_of_getElem? (i := 77) rfl)) rfl
theorem wm_826 : (Cond.selects RX1 yX1_nextOf yX1_nextOf) ∈ sy_W := sy_W_of (tp_2 (yX1_nextOf, 6) (List.mem_of_getElem? (i := 5) rfl)) rfl
theorem wm_827 : (Cond.code yX1_nextOf cX1_nextOf 4 (some .int)) ∈ sy_W := sy_W_of (tk_4 _ (List.mem_of_getElem? (i := 78) rfl)) rfl
theorem wm_828 : (Cond.methodLink RX11 277 yX1_holderAt) ∈ sy_W := sy_W_of (tk_4 _ (List.mem_of_getElem? (i := 79) rfl)) rfl
theorem wm_829 : (Cond.instanceMethod yX1_holderAt) ∈ sy_W := sy_W_of (tk_4 _ (List.mem_of_getElem? (i := 80) rfl)) rfl
theorem wm_830 : (Cond.selects RX1 yX1_holderAt yX1_holderAt) ∈ sy_W := sy_W_of (tk_4 _ (List.mem_of_getElem? (i := 81) rfl)) rfl
theorem wm_831 : (Cond.code yX1_holderAt cX1_holderAt 2 (some .int)) ∈ sy_W := sy_W_of (tk_4 _ (List.mem_of_getElem? (i := 82) rfl)) rfl
theorem wm_832 : (Cond.methodLink RL 80 yX12_chain) ∈ sy_W := sy_W_of (tk_6 _ (List.mem_of_getElem? (i := 52) rfl)) rfl
theorem wm_833 : (Cond.instanceMethod yX12_chain) ∈ sy_W := sy_W_of (tk_6 _ (List.mem_of_getElem? (i := 53) rfl)) rfl
theorem wm_834 : (Cond.selects RX12 yX12_chain yX12_chain) ∈ sy_W := sy_W_of (tk_6 _ (List.mem_of_getElem? (i := 54) rfl)) rfl
theorem wm_835 : (Cond.code yX12_chain cX12_chain 9 (some .int)) ∈ sy_W := sy_W_of (tk_6 _ (List.mem_of_getElem? (i := 55) rfl)) rfl
theorem wm_836 : (Cond.methodLink RX12 249 yX12_layFar) ∈ sy_W := sy_W_of (tk_6 _ (List.mem_of_getElem? (i := 56) rfl)) rfl
theorem wm_837 : (Cond.instanceMethod yX12_layFar) ∈ sy_W := sy_W_of (tk_6 _ (List.mem_of_getElem? (i := 58) rfl)) rfl
theorem wm_838 : (Cond.selects RX12 yX12_layFar yX12_layFar) ∈ sy_W := sy_W_of (tp_4 (yX12_layFar, 35) (List.mem_of_getElem? (i := 8) rfl)) rfl
theorem wm_839 : (Cond.code yX12_layFar cX12_layFar 5 none) ∈ sy_W := sy_W_of (tk_6 _ (List.mem_of_getElem? (i := 59) rfl)) rfl
theorem wm_840 : (Cond.methodLink RX12 246 yX12_isNext) ∈ sy_W := sy_W_of (tk_6 _ (List.mem_of_getElem? (i := 60) rfl)) rfl
theorem wm_841 : (Cond.instanceMethod yX12_isNext) ∈ sy_W := sy_W_of (tk_6 _ (List.mem_of_getElem? (i := 62) rfl)) rfl
theorem wm_842 : (Cond.selects RX12 yX12_isNext yX12_isNext) ∈ sy_W := sy_W_of (tp_4 (yX12_isNext, 35) (List.mem_of_getElem? (i := 9) rfl)) rfl
theorem wm_843 : (Cond.code yX12_isNext cX12_isNext 3 (some .boolean)) ∈ sy_W := sy_W_of (tk_6 _ (List.mem_of_getElem? (i := 63) rfl)) rfl
theorem wm_844 : (Cond.methodLink RX12 243 yX12_fallsNow) ∈ sy_W := sy_W_of (tk_6 _ (List.mem_of_getElem? (i := 64) rfl)) rfl
theorem wm_845 : (Cond.instanceMethod yX12_fallsNow) ∈ sy_W := sy_W_of (tk_6 _ (List.mem_of_getElem? (i := 66) rfl)) rfl
theorem wm_846 : (Cond.selects RX12 yX12_fallsNow yX12_fallsNow) ∈ sy_W := sy_W_of (tp_4 (yX12_fallsNow, 35) (List.mem_of_getElem? (i := 10) rfl)) rfl
theorem wm_847 : (Cond.code yX12_fallsNow cX12_fallsNow 2 (some .boolean)) ∈ sy_W := sy_W_of (tk_6 _ (List.mem_of_getElem? (i := 67) rfl)) rfl
theorem wm_848 : (Cond.methodLink RL 81 yX11_pair) ∈ sy_W := sy_W_of (tk_4 _ (List.mem_of_getElem? (i := 83) rfl)) rfl
theorem wm_849 : (Cond.instanceMethod yX11_pair) ∈ sy_W := sy_W_of (tk_4 _ (List.mem_of_getElem? (i := 84) rfl)) rfl
theorem wm_850 : (Cond.selects RX11 yX11_pair yX11_pair) ∈ sy_W := sy_W_of (tk_4 _ (List.mem_of_getElem? (i := 85) rfl)) rfl
theorem wm_851 : (Cond.code yX11_pair cX11_pair 8 (some .int)) ∈ sy_W := sy_W_of (tk_4 _ (List.mem_of_getElem? (i := 86) rfl)) rfl
theorem wm_852 : (Cond.methodLink RL 84 yX12_pair) ∈ sy_W := sy_W_of (tk_6 _ (List.mem_of_getElem? (i := 68) rfl)) rfl
theorem wm_853 : (Cond.instanceMethod yX12_pair) ∈ sy_W := sy_W_of (tk_6 _ (List.mem_of_getElem? (i := 69) rfl)) rfl
theorem wm_854 : (Cond.selects RX12 yX12_pair yX12_pair) ∈ sy_W := sy_W_of (tk_6 _ (List.mem_of_getElem? (i := 70) rfl)) rfl
theorem wm_855 : (Cond.code yX12_pair cX12_pair 8 (some .int)) ∈ sy_W := sy_W_of (tk_6 _ (List.mem_of_getElem? (i := 71) rfl)) rfl
theorem wm_856 : (Cond.methodLink RL 85 yX11_owes) ∈ sy_W := sy_W_of (tk_4 _ (List.mem_of_getElem? (i := 87) rfl)) rfl
theorem wm_857 : (Cond.instanceMethod yX11_owes) ∈ sy_W := sy_W_of (tk_4 _ (List.mem_of_getElem? (i := 88) rfl)) rfl
theorem wm_858 : (Cond.selects RX11 yX11_owes yX11_owes) ∈ sy_W := sy_W_of (tk_4 _ (List.mem_of_getElem? (i := 89) rfl)) rfl
theorem wm_859 : (Cond.code yX11_owes cX11_owes 2 (some .int)) ∈ sy_W := sy_W_of (tk_4 _ (List.mem_of_getElem? (i := 90) rfl)) rfl
theorem wm_860 : (Cond.methodLink RX11 278 yX2_ofOne) ∈ sy_W := sy_W_of (tk_4 _ (List.mem_of_getElem? (i := 91) rfl)) rfl
theorem wm_861 : (Cond.instanceMethod yX2_ofOne) ∈ sy_W := sy_W_of (tk_4 _ (List.mem_of_getElem? (i := 92) rfl)) rfl
theorem wm_862 : (Cond.selects RX2 yX2_ofOne yX2_ofOne) ∈ sy_W := sy_W_of (tk_4 _ (List.mem_of_getElem? (i := 93) rfl)) rfl
theorem wm_863 : (Cond.code yX2_ofOne cX2_ofOne 5 (some .int)) ∈ sy_W := sy_W_of (tk_4 _ (List.mem_of_getElem? (i := 94) rfl)) rfl
theorem wm_864 : (Cond.fieldLink RX2 22 "SkyTurns$Edge" "people" "I") ∈ sy_W := sy_W_of (tk_1 _ (List.mem_of_getElem? (i := 60) rfl)) rfl
theorem wm_865 : (Cond.fieldLink RX2 28 "SkyTurns$Sky" "held" "[I") ∈ sy_W := sy_W_of (tk_1 _ (List.mem_of_getElem? (i := 106) rfl)) rfl
theorem wm_866 : (Cond.methodLink RL 88 yX12_owes) ∈ sy_W := sy_W_of (tk_6 _ (List.mem_of_getElem? (i := 72) rfl)) rfl
theorem wm_867 : (Cond.instanceMethod yX12_owes) ∈ sy_W := sy_W_of (tk_6 _ (List.mem_of_getElem? (i := 73) rfl)) rfl
theorem wm_868 : (Cond.selects RX12 yX12_owes yX12_owes) ∈ sy_W := sy_W_of (tk_6 _ (List.mem_of_getElem? (i := 74) rfl)) rfl
theorem wm_869 : (Cond.code yX12_owes cX12_owes 2 (some .int)) ∈ sy_W := sy_W_of (tk_6 _ (List.mem_of_getElem? (i := 75) rfl)) rfl
theorem wm_870 : (Cond.methodLink RX12 252 yX12_owesOf) ∈ sy_W := sy_W_of (tk_6 _ (List.mem_of_getElem? (i := 76) rfl)) rfl
theorem wm_871 : (Cond.instanceMethod yX12_owesOf) ∈ sy_W := sy_W_of (tk_6 _ (List.mem_of_getElem? (i := 78) rfl)) rfl
theorem wm_872 : (Cond.selects RX12 yX12_owesOf yX12_owesOf) ∈ sy_W := sy_W_of (tp_4 (yX12_owesOf, 35) (List.mem_of_getElem? (i := 11) rfl)) rfl
theorem wm_873 : (Cond.code yX12_owesOf cX12_owesOf 4 (some .int)) ∈ sy_W := sy_W_of (tk_6 _ (List.mem_of_getElem? (i := 79) rfl)) rfl
theorem wm_874 : (Cond.methodLink RL 89 yX11_payments) ∈ sy_W := sy_W_of (tk_4 _ (List.mem_of_getElem? (i := 95) rfl)) rfl
theorem wm_875 : (Cond.instanceMethod yX11_payments) ∈ sy_W := sy_W_of (tk_4 _ (List.mem_of_getElem? (i := 96) rfl)) rfl
theorem wm_876 : (Cond.selects RX11 yX11_payments yX11_payments) ∈ sy_W := sy_W_of (tk_4 _ (List.mem_of_getElem? (i := 97) rfl)) rfl
theorem wm_877 : (Cond.code yX11_payments cX11_payments 1 (some .int)) ∈ sy_W := sy_W_of (tk_4 _ (List.mem_of_getElem? (i := 98) rfl)) rfl
theorem wm_878 : (Cond.methodLink RX11 282 yX2_fewestPayments) ∈ sy_W := sy_W_of (tk_4 _ (List.mem_of_getElem? (i := 99) rfl)) rfl
theorem wm_879 : (Cond.instanceMethod yX2_fewestPayments) ∈ sy_W := sy_W_of (tk_4 _ (List.mem_of_getElem? (i := 100) rfl)) rfl
theorem wm_880 : (Cond.selects RX2 yX2_fewestPayments yX2_fewestPayments) ∈ sy_W := sy_W_of (tk_4 _ (List.mem_of_getElem? (i := 101) rfl)) rfl
theorem wm_881 : (Cond.code yX2_fewestPayments cX2_fewestPayments 6 (some .int)) ∈ sy_W := sy_W_of (tk_4 _ (List.mem_of_getElem? (i := 102) rfl)) rfl
theorem wm_882 : (Cond.methodLink RX2 48 Lib.Math.max.name) ∈ sy_W := sy_W_of (tk_4 _ (List.mem_of_getElem? (i := 104) rfl)) rfl
theorem wm_883 : (Cond.methodLink RX2 37 yX2_ofOne) ∈ sy_W := sy_W_of (tk_4 _ (List.mem_of_getElem? (i := 103) rfl)) rfl
theorem wm_884 : (Cond.methodLink RL 92 yX12_payments) ∈ sy_W := sy_W_of (tk_6 _ (List.mem_of_getElem? (i := 80) rfl)) rfl
theorem wm_885 : (Cond.instanceMethod yX12_payments) ∈ sy_W := sy_W_of (tk_6 _ (List.mem_of_getElem? (i := 81) rfl)) rfl
theorem wm_886 : (Cond.selects RX12 yX12_payments yX12_payments) ∈ sy_W := sy_W_of (tk_6 _ (List.mem_of_getElem? (i := 82) rfl)) rfl
theorem wm_887 : (Cond.code yX12_payments cX12_payments 8 (some .int)) ∈ sy_W := sy_W_of (tk_6 _ (List.mem_of_getElem? (i := 83) rfl)) rfl
theorem wm_888 : (Cond.methodLink RL 93 yX11_sons) ∈ sy_W := sy_W_of (tk_4 _ (List.mem_of_getElem? (i := 105) rfl)) rfl
theorem wm_889 : (Cond.instanceMethod yX11_sons) ∈ sy_W := sy_W_of (tk_4 _ (List.mem_of_getElem? (i := 106) rfl)) rfl
theorem wm_890 : (Cond.selects RX11 yX11_sons yX11_sons) ∈ sy_W := sy_W_of (tk_4 _ (List.mem_of_getElem? (i := 107) rfl)) rfl
theorem wm_891 : (Cond.code yX11_sons cX11_sons 2 (some .int)) ∈ sy_W := sy_W_of (tk_4 _ (List.mem_of_getElem? (i := 108) rfl)) rfl
theorem wm_892 : (Cond.methodLink RX11 286 yX2_ofLine) ∈ sy_W := sy_W_of (tk_4 _ (List.mem_of_getElem? (i := 109) rfl)) rfl
theorem wm_893 : (Cond.instanceMethod yX2_ofLine) ∈ sy_W := sy_W_of (tk_4 _ (List.mem_of_getElem? (i := 110) rfl)) rfl
theorem wm_894 : (Cond.selects RX2 yX2_ofLine yX2_ofLine) ∈ sy_W := sy_W_of (tk_4 _ (List.mem_of_getElem? (i := 111) rfl)) rfl
theorem wm_895 : (Cond.code yX2_ofLine cX2_ofLine 5 (some .int)) ∈ sy_W := sy_W_of (tk_4 _ (List.mem_of_getElem? (i := 112) rfl)) rfl
theorem wm_896 : (Cond.methodLink RX2 33 yX2_isOfLine) ∈ sy_W := sy_W_of (tk_4 _ (List.mem_of_getElem? (i := 113) rfl)) rfl
theorem wm_897 : (Cond.instanceMethod yX2_isOfLine) ∈ sy_W := sy_W_of (tk_4 _ (List.mem_of_getElem? (i := 115) rfl)) rfl
theorem wm_898 : (Cond.selects RX2 yX2_isOfLine yX2_isOfLine) ∈ sy_W := sy_W_of (tp_2 (yX2_isOfLine, 3) (List.mem_of_getElem? (i := 6) rfl)) rfl
theorem wm_899 : (Cond.code yX2_isOfLine cX2_isOfLine 5 (some .boolean)) ∈ sy_W := sy_W_of (tk_4 _ (List.mem_of_getElem? (i := 116) rfl)) rfl
theorem wm_900 : (Cond.fieldLink RX2 45 "SkyTurns$Edge" "father" "[I") ∈ sy_W := sy_W_of (tk_1 _ (List.mem_of_getElem? (i := 51) rfl)) rfl
theorem wm_901 : (Cond.methodLink RX2 41 yX3_isPerson) ∈ sy_W := sy_W_of (tk_4 _ (List.mem_of_getElem? (i := 117) rfl)) rfl
theorem wm_902 : (Cond.methodLink RL 96 yX12_sons) ∈ sy_W := sy_W_of (tk_6 _ (List.mem_of_getElem? (i := 84) rfl)) rfl
theorem wm_903 : (Cond.instanceMethod yX12_sons) ∈ sy_W := sy_W_of (tk_6 _ (List.mem_of_getElem? (i := 85) rfl)) rfl
theorem wm_904 : (Cond.selects RX12 yX12_sons yX12_sons) ∈ sy_W := sy_W_of (tk_6 _ (List.mem_of_getElem? (i := 86) rfl)) rfl
theorem wm_905 : (Cond.code yX12_sons cX12_sons 5 (some .int)) ∈ sy_W := sy_W_of (tk_6 _ (List.mem_of_getElem? (i := 87) rfl)) rfl
theorem wm_906 : (Cond.methodLink RL 97 yX11_words) ∈ sy_W := sy_W_of (tk_4 _ (List.mem_of_getElem? (i := 118) rfl)) rfl
theorem wm_907 : (Cond.instanceMethod yX11_words) ∈ sy_W := sy_W_of (tk_4 _ (List.mem_of_getElem? (i := 119) rfl)) rfl
theorem wm_908 : (Cond.selects RX11 yX11_words yX11_words) ∈ sy_W := sy_W_of (tk_4 _ (List.mem_of_getElem? (i := 120) rfl)) rfl
theorem wm_909 : (Cond.code yX11_words cX11_words 6 (some .int)) ∈ sy_W := sy_W_of (tk_4 _ (List.mem_of_getElem? (i := 121) rfl)) rfl
theorem wm_910 : (Cond.fieldLink RX11 296 "SkyTurns$Game" "valueAbove" "I") ∈ sy_W := sy_W_of (tk_2 _ (List.mem_of_getElem? (i := 119) rfl)) rfl
theorem wm_911 : (Cond.fieldLink RX11 299 "SkyTurns$Game" "valueBelow" "I") ∈ sy_W := sy_W_of (tk_2 _ (List.mem_of_getElem? (i := 121) rfl)) rfl
theorem wm_912 : (Cond.fieldLink RX11 302 "SkyTurns$Game" "oddsAbove" "I") ∈ sy_W := sy_W_of (tk_2 _ (List.mem_of_getElem? (i := 123) rfl)) rfl
theorem wm_913 : (Cond.fieldLink RX11 305 "SkyTurns$Game" "oddsBelow" "I") ∈ sy_W := sy_W_of (tk_2 _ (List.mem_of_getElem? (i := 125) rfl)) rfl
theorem wm_914 : (Cond.methodLink RX11 289 yX11_isNoGain) ∈ sy_W := sy_W_of (tk_4 _ (List.mem_of_getElem? (i := 122) rfl)) rfl
theorem wm_915 : (Cond.static yX11_isNoGain) ∈ sy_W := sy_W_of (tk_4 _ (List.mem_of_getElem? (i := 123) rfl)) rfl
theorem wm_916 : (Cond.code yX11_isNoGain cX11_isNoGain 1 (some .boolean)) ∈ sy_W := sy_W_of (tk_4 _ (List.mem_of_getElem? (i := 124) rfl)) rfl
theorem wm_917 : (Cond.methodLink RX11 292 yX4_solve) ∈ sy_W := sy_W_of (tk_4 _ (List.mem_of_getElem? (i := 125) rfl)) rfl
theorem wm_918 : (Cond.instanceMethod yX4_solve) ∈ sy_W := sy_W_of (tk_4 _ (List.mem_of_getElem? (i := 126) rfl)) rfl
theorem wm_919 : (Cond.selects RX4 yX4_solve yX4_solve) ∈ sy_W := sy_W_of (tk_4 _ (List.mem_of_getElem? (i := 127) rfl)) rfl
theorem wm_920 : (Cond.code yX4_solve cX4_solve 7 none) ∈ sy_W := sy_W_of (tk_4 _ (List.mem_of_getElem? (i := 128) rfl)) rfl
theorem wm_921 : (Cond.fieldLink RX4 7 "SkyTurns$Game" "said0Thought0" "I") ∈ sy_W := sy_W_of (tk_2 _ (List.mem_of_getElem? (i := 114) rfl)) rfl
theorem wm_922 : (Cond.fieldLink RX4 13 "SkyTurns$Game" "said0Thought1" "I") ∈ sy_W := sy_W_of (tk_2 _ (List.mem_of_getElem? (i := 115) rfl)) rfl
theorem wm_923 : (Cond.fieldLink RX4 16 "SkyTurns$Game" "said1Thought0" "I") ∈ sy_W := sy_W_of (tk_2 _ (List.mem_of_getElem? (i := 116) rfl)) rfl
theorem wm_924 : (Cond.fieldLink RX4 19 "SkyTurns$Game" "said1Thought1" "I") ∈ sy_W := sy_W_of (tk_2 _ (List.mem_of_getElem? (i := 117) rfl)) rfl
theorem wm_925 : (Cond.fieldLink RX4 32 "SkyTurns$Game" "valueAbove" "I") ∈ sy_W := sy_W_of (tk_2 _ (List.mem_of_getElem? (i := 118) rfl)) rfl
theorem wm_926 : (Cond.fieldLink RX4 35 "SkyTurns$Game" "valueBelow" "I") ∈ sy_W := sy_W_of (tk_2 _ (List.mem_of_getElem? (i := 120) rfl)) rfl
theorem wm_927 : (Cond.fieldLink RX4 42 "SkyTurns$Game" "oddsAbove" "I") ∈ sy_W := sy_W_of (tk_2 _ (List.mem_of_getElem? (i := 122) rfl)) rfl
theorem wm_928 : (Cond.fieldLink RX4 45 "SkyTurns$Game" "oddsBelow" "I") ∈ sy_W := sy_W_of (tk_2 _ (List.mem_of_getElem? (i := 124) rfl)) rfl
theorem wm_929 : (Cond.methodLink RX4 22 yX4_setOdds) ∈ sy_W := sy_W_of (tk_4 _ (List.mem_of_getElem? (i := 129) rfl)) rfl
theorem wm_930 : (Cond.instanceMethod yX4_setOdds) ∈ sy_W := sy_W_of (tk_4 _ (List.mem_of_getElem? (i := 131) rfl)) rfl
theorem wm_931 : (Cond.selects RX4 yX4_setOdds yX4_setOdds) ∈ sy_W := sy_W_of (tp_2 (yX4_setOdds, 8) (List.mem_of_getElem? (i := 7) rfl)) rfl
theorem wm_932 : (Cond.code yX4_setOdds cX4_setOdds 3 none) ∈ sy_W := sy_W_of (tk_4 _ (List.mem_of_getElem? (i := 132) rfl)) rfl
theorem wm_933 : (Cond.methodLink RX4 54 yX4_valueOf) ∈ sy_W := sy_W_of (tk_4 _ (List.mem_of_getElem? (i := 133) rfl)) rfl
theorem wm_934 : (Cond.instanceMethod yX4_valueOf) ∈ sy_W := sy_W_of (tk_4 _ (List.mem_of_getElem? (i := 135) rfl)) rfl
theorem wm_935 : (Cond.selects RX4 yX4_valueOf yX4_valueOf) ∈ sy_W := sy_W_of (tp_2 (yX4_valueOf, 8) (List.mem_of_getElem? (i := 8) rfl)) rfl
theorem wm_936 : (Cond.code yX4_valueOf cX4_valueOf 5 (some .int)) ∈ sy_W := sy_W_of (tk_4 _ (List.mem_of_getElem? (i := 136) rfl)) rfl
theorem wm_937 : (Cond.methodLink RX4 57 Lib.Math.min.name) ∈ sy_W := sy_W_of (tk_4 _ (List.mem_of_getElem? (i := 137) rfl)) rfl
theorem wm_938 : (Cond.methodLink RX4 26 yX4_tryEvenOdds) ∈ sy_W := sy_W_of (tk_4 _ (List.mem_of_getElem? (i := 138) rfl)) rfl
theorem wm_939 : (Cond.instanceMethod yX4_tryEvenOdds) ∈ sy_W := sy_W_of (tk_4 _ (List.mem_of_getElem? (i := 140) rfl)) rfl
theorem wm_940 : (Cond.selects RX4 yX4_tryEvenOdds yX4_tryEvenOdds) ∈ sy_W := sy_W_of (tp_2 (yX4_tryEvenOdds, 8) (List.mem_of_getElem? (i := 9) rfl)) rfl
theorem wm_941 : (Cond.code yX4_tryEvenOdds cX4_tryEvenOdds 5 none) ∈ sy_W := sy_W_of (tk_4 _ (List.mem_of_getElem? (i := 141) rfl)) rfl
theorem wm_942 : (Cond.methodLink RX4 48 Lib.Math.abs.name) ∈ sy_W := sy_W_of (tk_4 _ (List.mem_of_getElem? (i := 142) rfl)) rfl
theorem wm_943 : (Cond.methodLink RX4 29 yX4_tryOdds) ∈ sy_W := sy_W_of (tk_4 _ (List.mem_of_getElem? (i := 143) rfl)) rfl
theorem wm_944 : (Cond.instanceMethod yX4_tryOdds) ∈ sy_W := sy_W_of (tk_4 _ (List.mem_of_getElem? (i := 145) rfl)) rfl
theorem wm_945 : (Cond.selects RX4 yX4_tryOdds yX4_tryOdds) ∈ sy_W := sy_W_of (tp_2 (yX4_tryOdds, 8) (List.mem_of_getElem? (i := 10) rfl)) rfl
theorem wm_946 : (Cond.code yX4_tryOdds cX4_tryOdds 3 none) ∈ sy_W := sy_W_of (tk_4 _ (List.mem_of_getElem? (i := 146) rfl)) rfl
theorem wm_947 : (Cond.methodLink RX4 38 yX4_greatestCommonPart) ∈ sy_W := sy_W_of (tk_4 _ (List.mem_of_getElem? (i := 147) rfl)) rfl
theorem wm_948 : (Cond.static yX4_greatestCommonPart) ∈ sy_W := sy_W_of (tk_4 _ (List.mem_of_getElem? (i := 148) rfl)) rfl
theorem wm_949 : (Cond.code yX4_greatestCommonPart cX4_greatestCommonPart 6 (some .int)) ∈ sy_W := sy_W_of (tk_4 _ (List.mem_of_getElem? (i := 149) rfl)) rfl
theorem wm_950 : (Cond.methodLink RX4 60 Lib.Math.max.name) ∈ sy_W := sy_W_of (tk_4 _ (List.mem_of_getElem? (i := 150) rfl)) rfl
theorem wm_951 : (Cond.methodLink RL 101 yX12_words) ∈ sy_W := sy_W_of (tk_6 _ (List.mem_of_getElem? (i := 88) rfl)) rfl
theorem wm_952 : (Cond.instanceMethod yX12_words) ∈ sy_W := sy_W_of (tk_6 _ (List.mem_of_getElem? (i := 89) rfl)) rfl
theorem wm_953 : (Cond.selects RX12 yX12_words yX12_words) ∈ sy_W := sy_W_of (tk_6 _ (List.mem_of_getElem? (i := 90) rfl)) rfl
theorem wm_954 : (Cond.code yX12_words cX12_words 18 (some .int)) ∈ sy_W := sy_W_of (tk_6 _ (List.mem_of_getElem? (i := 91) rfl)) rfl
theorem wm_955 : (Cond.methodLink RL 102 yX11_pillar) ∈ sy_W := sy_W_of (tk_4 _ (List.mem_of_getElem? (i := 151) rfl)) rfl
theorem wm_956 : (Cond.instanceMethod yX11_pillar) ∈ sy_W := sy_W_of (tk_4 _ (List.mem_of_getElem? (i := 152) rfl)) rfl
theorem wm_957 : (Cond.selects RX11 yX11_pillar yX11_pillar) ∈ sy_W := sy_W_of (tk_4 _ (List.mem_of_getElem? (i := 153) rfl)) rfl
theorem wm_958 : (Cond.code yX11_pillar cX11_pillar 3 (some .int)) ∈ sy_W := sy_W_of (tk_4 _ (List.mem_of_getElem? (i := 154) rfl)) rfl
theorem wm_959 : (Cond.methodLink RX11 308 yX11_harmBehind) ∈ sy_W := sy_W_of (tk_4 _ (List.mem_of_getElem? (i := 155) rfl)) rfl
theorem wm_960 : (Cond.instanceMethod yX11_harmBehind) ∈ sy_W := sy_W_of (tk_4 _ (List.mem_of_getElem? (i := 157) rfl)) rfl
theorem wm_961 : (Cond.selects RX11 yX11_harmBehind yX11_harmBehind) ∈ sy_W := sy_W_of (tp_2 (yX11_harmBehind, 16) (List.mem_of_getElem? (i := 11) rfl)) rfl
theorem wm_962 : (Cond.code yX11_harmBehind cX11_harmBehind 4 (some .int)) ∈ sy_W := sy_W_of (tk_4 _ (List.mem_of_getElem? (i := 158) rfl)) rfl
theorem wm_963 : (Cond.methodLink RX11 323 yX10_copyFrom) ∈ sy_W := sy_W_of (tk_4 _ (List.mem_of_getElem? (i := 159) rfl)) rfl
theorem wm_964 : (Cond.methodLink RL 105 yX12_pillar) ∈ sy_W := sy_W_of (tk_6 _ (List.mem_of_getElem? (i := 92) rfl)) rfl
theorem wm_965 : (Cond.instanceMethod yX12_pillar) ∈ sy_W := sy_W_of (tk_6 _ (List.mem_of_getElem? (i := 93) rfl)) rfl
theorem wm_966 : (Cond.selects RX12 yX12_pillar yX12_pillar) ∈ sy_W := sy_W_of (tk_6 _ (List.mem_of_getElem? (i := 94) rfl)) rfl
theorem wm_967 : (Cond.code yX12_pillar cX12_pillar 5 (some .int)) ∈ sy_W := sy_W_of (tk_6 _ (List.mem_of_getElem? (i := 95) rfl)) rfl
theorem wm_968 : (Cond.methodLink RL 106 yX11_see) ∈ sy_W := sy_W_of (tk_4 _ (List.mem_of_getElem? (i := 160) rfl)) rfl
theorem wm_969 : (Cond.instanceMethod yX11_see) ∈ sy_W := sy_W_of (tk_4 _ (List.mem_of_getElem? (i := 161) rfl)) rfl
theorem wm_970 : (Cond.selects RX11 yX11_see yX11_see) ∈ sy_W := sy_W_of (tk_4 _ (List.mem_of_getElem? (i := 162) rfl)) rfl
theorem wm_971 : (Cond.code yX11_see cX11_see 2 (some .int)) ∈ sy_W := sy_W_of (tk_4 _ (List.mem_of_getElem? (i := 163) rfl)) rfl
theorem wm_972 : (Cond.methodLink RX11 311 yX8_add) ∈ sy_W := sy_W_of (tk_4 _ (List.mem_of_getElem? (i := 164) rfl)) rfl
theorem wm_973 : (Cond.instanceMethod yX8_add) ∈ sy_W := sy_W_of (tk_4 _ (List.mem_of_getElem? (i := 165) rfl)) rfl
theorem wm_974 : (Cond.selects RX8 yX8_add yX8_add) ∈ sy_W := sy_W_of (tk_4 _ (List.mem_of_getElem? (i := 166) rfl)) rfl
theorem wm_975 : (Cond.code yX8_add cX8_add 2 (some .int)) ∈ sy_W := sy_W_of (tk_4 _ (List.mem_of_getElem? (i := 167) rfl)) rfl
theorem wm_976 : (Cond.methodLink RL 109 yX12_see) ∈ sy_W := sy_W_of (tk_6 _ (List.mem_of_getElem? (i := 96) rfl)) rfl
theorem wm_977 : (Cond.instanceMethod yX12_see) ∈ sy_W := sy_W_of (tk_6 _ (List.mem_of_getElem? (i := 97) rfl)) rfl
theorem wm_978 : (Cond.selects RX12 yX12_see yX12_see) ∈ sy_W := sy_W_of (tk_6 _ (List.mem_of_getElem? (i := 98) rfl)) rfl
theorem wm_979 : (Cond.code yX12_see cX12_see 2 (some .int)) ∈ sy_W := sy_W_of (tk_6 _ (List.mem_of_getElem? (i := 99) rfl)) rfl
theorem wm_980 : (Cond.methodLink RL 110 yX11_who) ∈ sy_W := sy_W_of (tk_4 _ (List.mem_of_getElem? (i := 168) rfl)) rfl
theorem wm_981 : (Cond.instanceMethod yX11_who) ∈ sy_W := sy_W_of (tk_4 _ (List.mem_of_getElem? (i := 169) rfl)) rfl
theorem wm_982 : (Cond.selects RX11 yX11_who yX11_who) ∈ sy_W := sy_W_of (tk_4 _ (List.mem_of_getElem? (i := 170) rfl)) rfl
theorem wm_983 : (Cond.code yX11_who cX11_who 2 (some .int)) ∈ sy_W := sy_W_of (tk_4 _ (List.mem_of_getElem? (i := 171) rfl)) rfl
theorem wm_984 : (Cond.fieldLink RX11 315 "SkyTurns$SeenRows" "count" "I") ∈ sy_W := sy_W_of (tk_2 _ (List.mem_of_getElem? (i := 27) rfl)) rfl
theorem wm_985 : (Cond.methodLink RX11 312 yX8_find) ∈ sy_W := sy_W_of (tk_4 _ (List.mem_of_getElem? (i := 172) rfl)) rfl
theorem wm_986 : (Cond.instanceMethod yX8_find) ∈ sy_W := sy_W_of (tk_4 _ (List.mem_of_getElem? (i := 173) rfl)) rfl
theorem wm_987 : (Cond.selects RX8 yX8_find yX8_find) ∈ sy_W := sy_W_of (tk_4 _ (List.mem_of_getElem? (i := 174) rfl)) rfl
theorem wm_988 : (Cond.code yX8_find cX8_find 2 none) ∈ sy_W := sy_W_of (tk_4 _ (List.mem_of_getElem? (i := 175) rfl)) rfl
theorem wm_989 : (Cond.methodLink RX8 28 ⟨"SkyTurns$SeenRows", "tryRows", "(LSkyTurns$Sky;I)V"⟩) ∈ sy_W := sy_W_of (tk_4 _ (List.mem_of_getElem? (i := 176) rfl)) rfl
theorem wm_990 : (Cond.sameMethod "SkyTurns$SeenRows" "SkyTurns$Rows" "tryRows" "(LSkyTurns$Sky;I)V") ∈ sy_W := sy_W_of (tk_4 _ (List.mem_of_getElem? (i := 177) rfl)) rfl
theorem wm_991 : (Cond.selects RX8 ⟨"SkyTurns$SeenRows", "tryRows", "(LSkyTurns$Sky;I)V"⟩ yX7_tryRows) ∈ sy_W := sy_W_of (tk_4 _ (List.mem_of_getElem? (i := 178) rfl)) rfl
theorem wm_992 : (Cond.methodLink RX11 316 yX8_holderAt) ∈ sy_W := sy_W_of (tk_4 _ (List.mem_of_getElem? (i := 179) rfl)) rfl
theorem wm_993 : (Cond.instanceMethod yX8_holderAt) ∈ sy_W := sy_W_of (tk_4 _ (List.mem_of_getElem? (i := 180) rfl)) rfl
theorem wm_994 : (Cond.selects RX8 yX8_holderAt yX8_holderAt) ∈ sy_W := sy_W_of (tk_4 _ (List.mem_of_getElem? (i := 181) rfl)) rfl
theorem wm_995 : (Cond.code yX8_holderAt cX8_holderAt 2 (some .int)) ∈ sy_W := sy_W_of (tk_4 _ (List.mem_of_getElem? (i := 182) rfl)) rfl
theorem wm_996 : (Cond.fieldLink RX8 44 "SkyTurns$SeenRows" "hours" "I") ∈ sy_W := sy_W_of (tk_1 _ (List.mem_of_getElem? (i := 234) rfl)) rfl
theorem wm_997 : (Cond.sameField "SkyTurns$SeenRows" "SkyTurns$Rows" "hours" "I") ∈ sy_W := sy_W_of (tk_1 _ (List.mem_of_getElem? (i := 235) rfl)) rfl
theorem wm_998 : (Cond.methodLink RL 113 yX12_who) ∈ sy_W := sy_W_of (tk_6 _ (List.mem_of_getElem? (i := 100) rfl)) rfl
theorem wm_999 : (Cond.instanceMethod yX12_who) ∈ sy_W := sy_W_of (tk_6 _ (List.mem_of_getElem? (i := 101) rfl)) rfl
theorem wm_1000 : (Cond.selects RX12 yX12_who yX12_who) ∈ sy_W := sy_W_of (tk_6 _ (List.mem_of_getElem? (i := 102) rfl)) rfl
theorem wm_1001 : (Cond.code yX12_who cX12_who 5 (some .int)) ∈ sy_W := sy_W_of (tk_6 _ (List.mem_of_getElem? (i := 103) rfl)) rfl
theorem wm_1002 : (Cond.methodLink RX12 255 yX12_isAsSeen) ∈ sy_W := sy_W_of (tk_6 _ (List.mem_of_getElem? (i := 104) rfl)) rfl
theorem wm_1003 : (Cond.instanceMethod yX12_isAsSeen) ∈ sy_W := sy_W_of (tk_6 _ (List.mem_of_getElem? (i := 106) rfl)) rfl
theorem wm_1004 : (Cond.selects RX12 yX12_isAsSeen yX12_isAsSeen) ∈ sy_W := sy_W_of (tp_4 (yX12_isAsSeen, 35) (List.mem_of_getElem? (i := 12) rfl)) rfl
theorem wm_1005 : (Cond.code yX12_isAsSeen cX12_isAsSeen 2 (some .boolean)) ∈ sy_W := sy_W_of (tk_6 _ (List.mem_of_getElem? (i := 107) rfl)) rfl
theorem wm_1006 : (Cond.methodLink RL 114 yX11_sure) ∈ sy_W := sy_W_of (tk_4 _ (List.mem_of_getElem? (i := 183) rfl)) rfl
theorem wm_1007 : (Cond.instanceMethod yX11_sure) ∈ sy_W := sy_W_of (tk_4 _ (List.mem_of_getElem? (i := 184) rfl)) rfl
theorem wm_1008 : (Cond.selects RX11 yX11_sure yX11_sure) ∈ sy_W := sy_W_of (tk_4 _ (List.mem_of_getElem? (i := 185) rfl)) rfl
theorem wm_1009 : (Cond.code yX11_sure cX11_sure 1 (some .int)) ∈ sy_W := sy_W_of (tk_4 _ (List.mem_of_getElem? (i := 186) rfl)) rfl
theorem wm_1010 : (Cond.fieldLink RX11 317 "SkyTurns$SeenRows" "common" "I") ∈ sy_W := sy_W_of (tk_2 _ (List.mem_of_getElem? (i := 29) rfl)) rfl
theorem wm_1011 : (Cond.methodLink RL 117 yX12_sure) ∈ sy_W := sy_W_of (tk_6 _ (List.mem_of_getElem? (i := 108) rfl)) rfl
theorem wm_1012 : (Cond.instanceMethod yX12_sure) ∈ sy_W := sy_W_of (tk_6 _ (List.mem_of_getElem? (i := 109) rfl)) rfl
theorem wm_1013 : (Cond.selects RX12 yX12_sure yX12_sure) ∈ sy_W := sy_W_of (tk_6 _ (List.mem_of_getElem? (i := 110) rfl)) rfl
theorem wm_1014 : (Cond.code yX12_sure cX12_sure 6 (some .int)) ∈ sy_W := sy_W_of (tk_6 _ (List.mem_of_getElem? (i := 111) rfl)) rfl
theorem wm_1015 : (Cond.methodLink RL 118 yX11_write) ∈ sy_W := sy_W_of (tk_4 _ (List.mem_of_getElem? (i := 187) rfl)) rfl
theorem wm_1016 : (Cond.instanceMethod yX11_write) ∈ sy_W := sy_W_of (tk_4 _ (List.mem_of_getElem? (i := 188) rfl)) rfl
theorem wm_1017 : (Cond.selects RX11 yX11_write yX11_write) ∈ sy_W := sy_W_of (tk_4 _ (List.mem_of_getElem? (i := 189) rfl)) rfl
theorem wm_1018 : (Cond.code yX11_write cX11_write 4 (some .int)) ∈ sy_W := sy_W_of (tk_4 _ (List.mem_of_getElem? (i := 190) rfl)) rfl
theorem wm_1019 : (Cond.methodLink RX11 320 yX0_add) ∈ sy_W := sy_W_of (tk_4 _ (List.mem_of_getElem? (i := 191) rfl)) rfl
theorem wm_1020 : (Cond.instanceMethod yX0_add) ∈ sy_W := sy_W_of (tk_4 _ (List.mem_of_getElem? (i := 192) rfl)) rfl
theorem wm_1021 : (Cond.selects RX0 yX0_add yX0_add) ∈ sy_W := sy_W_of (tk_4 _ (List.mem_of_getElem? (i := 193) rfl)) rfl
theorem wm_1022 : (Cond.code yX0_add cX0_add 4 (some .int)) ∈ sy_W := sy_W_of (tk_4 _ (List.mem_of_getElem? (i := 194) rfl)) rfl
theorem wm_1023 : (Cond.methodLink RL 122 yX12_write) ∈ sy_W := sy_W_of (tk_6 _ (List.mem_of_getElem? (i := 112) rfl)) rfl
theorem wm_1024 : (Cond.instanceMethod yX12_write) ∈ sy_W := sy_W_of (tk_6 _ (List.mem_of_getElem? (i := 113) rfl)) rfl
theorem wm_1025 : (Cond.selects RX12 yX12_write yX12_write) ∈ sy_W := sy_W_of (tk_6 _ (List.mem_of_getElem? (i := 114) rfl)) rfl
theorem wm_1026 : (Cond.code yX12_write cX12_write 4 (some .int)) ∈ sy_W := sy_W_of (tk_6 _ (List.mem_of_getElem? (i := 115) rfl)) rfl
theorem wm_1027 : (Cond.methodLink RL 123 yX11_judge) ∈ sy_W := sy_W_of (tk_4 _ (List.mem_of_getElem? (i := 195) rfl)) rfl
theorem wm_1028 : (Cond.instanceMethod yX11_judge) ∈ sy_W := sy_W_of (tk_4 _ (List.mem_of_getElem? (i := 196) rfl)) rfl
theorem wm_1029 : (Cond.selects RX11 yX11_judge yX11_judge) ∈ sy_W := sy_W_of (tk_4 _ (List.mem_of_getElem? (i := 197) rfl)) rfl
theorem wm_1030 : (Cond.code yX11_judge cX11_judge 1 (some .int)) ∈ sy_W := sy_W_of (tk_4 _ (List.mem_of_getElem? (i := 198) rfl)) rfl
theorem wm_1031 : (Cond.methodLink RX11 325 yX0_firstWrong) ∈ sy_W := sy_W_of (tk_4 _ (List.mem_of_getElem? (i := 199) rfl)) rfl
theorem wm_1032 : (Cond.instanceMethod yX0_firstWrong) ∈ sy_W := sy_W_of (tk_4 _ (List.mem_of_getElem? (i := 200) rfl)) rfl
theorem wm_1033 : (Cond.selects RX0 yX0_firstWrong yX0_firstWrong) ∈ sy_W := sy_W_of (tk_4 _ (List.mem_of_getElem? (i := 201) rfl)) rfl
theorem wm_1034 : (Cond.code yX0_firstWrong cX0_firstWrong 3 (some .int)) ∈ sy_W := sy_W_of (tk_4 _ (List.mem_of_getElem? (i := 202) rfl)) rfl
theorem wm_1035 : (Cond.methodLink RX0 26 yX10_isHolding) ∈ sy_W := sy_W_of (tk_4 _ (List.mem_of_getElem? (i := 203) rfl)) rfl
theorem wm_1036 : (Cond.methodLink RX0 32 yX10_trick) ∈ sy_W := sy_W_of (tk_4 _ (List.mem_of_getElem? (i := 204) rfl)) rfl
theorem wm_1037 : (Cond.methodLink RL 126 yX12_judge) ∈ sy_W := sy_W_of (tk_6 _ (List.mem_of_getElem? (i := 116) rfl)) rfl
theorem wm_1038 : (Cond.instanceMethod yX12_judge) ∈ sy_W := sy_W_of (tk_6 _ (List.mem_of_getElem? (i := 117) rfl)) rfl
theorem wm_1039 : (Cond.selects RX12 yX12_judge yX12_judge) ∈ sy_W := sy_W_of (tk_6 _ (List.mem_of_getElem? (i := 118) rfl)) rfl
theorem wm_1040 : (Cond.code yX12_judge cX12_judge 3 (some .int)) ∈ sy_W := sy_W_of (tk_6 _ (List.mem_of_getElem? (i := 119) rfl)) rfl
theorem wm_1041 : (Cond.methodLink RL 127 yX11_tear) ∈ sy_W := sy_W_of (tk_4 _ (List.mem_of_getElem? (i := 205) rfl)) rfl
theorem wm_1042 : (Cond.instanceMethod yX11_tear) ∈ sy_W := sy_W_of (tk_4 _ (List.mem_of_getElem? (i := 206) rfl)) rfl
theorem wm_1043 : (Cond.selects RX11 yX11_tear yX11_tear) ∈ sy_W := sy_W_of (tk_4 _ (List.mem_of_getElem? (i := 207) rfl)) rfl
theorem wm_1044 : (Cond.code yX11_tear cX11_tear 2 (some .int)) ∈ sy_W := sy_W_of (tk_4 _ (List.mem_of_getElem? (i := 208) rfl)) rfl
theorem wm_1045 : (Cond.methodLink RL 130 yX12_tear) ∈ sy_W := sy_W_of (tk_6 _ (List.mem_of_getElem? (i := 120) rfl)) rfl
theorem wm_1046 : (Cond.instanceMethod yX12_tear) ∈ sy_W := sy_W_of (tk_6 _ (List.mem_of_getElem? (i := 121) rfl)) rfl
theorem wm_1047 : (Cond.selects RX12 yX12_tear yX12_tear) ∈ sy_W := sy_W_of (tk_6 _ (List.mem_of_getElem? (i := 122) rfl)) rfl
theorem wm_1048 : (Cond.code yX12_tear cX12_tear 2 (some .int)) ∈ sy_W := sy_W_of (tk_6 _ (List.mem_of_getElem? (i := 123) rfl)) rfl
theorem wm_1049 : (Cond.methodLink RL 131 yX11_seed) ∈ sy_W := sy_W_of (tk_4 _ (List.mem_of_getElem? (i := 209) rfl)) rfl
theorem wm_1050 : (Cond.instanceMethod yX11_seed) ∈ sy_W := sy_W_of (tk_4 _ (List.mem_of_getElem? (i := 210) rfl)) rfl
theorem wm_1051 : (Cond.selects RX11 yX11_seed yX11_seed) ∈ sy_W := sy_W_of (tk_4 _ (List.mem_of_getElem? (i := 211) rfl)) rfl
theorem wm_1052 : (Cond.code yX11_seed cX11_seed 3 (some .int)) ∈ sy_W := sy_W_of (tk_4 _ (List.mem_of_getElem? (i := 212) rfl)) rfl
theorem wm_1053 : (Cond.methodLink RL 134 yX12_seed) ∈ sy_W := sy_W_of (tk_6 _ (List.mem_of_getElem? (i := 124) rfl)) rfl
theorem wm_1054 : (Cond.instanceMethod yX12_seed) ∈ sy_W := sy_W_of (tk_6 _ (List.mem_of_getElem? (i := 125) rfl)) rfl
theorem wm_1055 : (Cond.selects RX12 yX12_seed yX12_seed) ∈ sy_W := sy_W_of (tk_6 _ (List.mem_of_getElem? (i := 126) rfl)) rfl
theorem wm_1056 : (Cond.code yX12_seed cX12_seed 3 (some .int)) ∈ sy_W := sy_W_of (tk_6 _ (List.mem_of_getElem? (i := 127) rfl)) rfl
theorem wm_1057 : (Cond.methodLink RL 135 yX11_keep) ∈ sy_W := sy_W_of (tk_4 _ (List.mem_of_getElem? (i := 213) rfl)) rfl
theorem wm_1058 : (Cond.instanceMethod yX11_keep) ∈ sy_W := sy_W_of (tk_4 _ (List.mem_of_getElem? (i := 214) rfl)) rfl
theorem wm_1059 : (Cond.selects RX11 yX11_keep yX11_keep) ∈ sy_W := sy_W_of (tk_4 _ (List.mem_of_getElem? (i := 215) rfl)) rfl
theorem wm_1060 : (Cond.code yX11_keep cX11_keep 2 (some .int)) ∈ sy_W := sy_W_of (tk_4 _ (List.mem_of_getElem? (i := 216) rfl)) rfl
theorem wm_1061 : (Cond.methodLink RX11 328 yX11_isImage) ∈ sy_W := sy_W_of (tk_4 _ (List.mem_of_getElem? (i := 217) rfl)) rfl
theorem wm_1062 : (Cond.static yX11_isImage) ∈ sy_W := sy_W_of (tk_4 _ (List.mem_of_getElem? (i := 218) rfl)) rfl
theorem wm_1063 : (Cond.code yX11_isImage cX11_isImage 1 (some .boolean)) ∈ sy_W := sy_W_of (tk_4 _ (List.mem_of_getElem? (i := 219) rfl)) rfl
theorem wm_1064 : (Cond.methodLink RL 138 yX12_keep) ∈ sy_W := sy_W_of (tk_6 _ (List.mem_of_getElem? (i := 128) rfl)) rfl
theorem wm_1065 : (Cond.instanceMethod yX12_keep) ∈ sy_W := sy_W_of (tk_6 _ (List.mem_of_getElem? (i := 129) rfl)) rfl
theorem wm_1066 : (Cond.selects RX12 yX12_keep yX12_keep) ∈ sy_W := sy_W_of (tk_6 _ (List.mem_of_getElem? (i := 130) rfl)) rfl
theorem wm_1067 : (Cond.code yX12_keep cX12_keep 2 (some .int)) ∈ sy_W := sy_W_of (tk_6 _ (List.mem_of_getElem? (i := 131) rfl)) rfl
theorem wm_1068 : (Cond.methodLink RL 139 yX11_goBack) ∈ sy_W := sy_W_of (tk_4 _ (List.mem_of_getElem? (i := 220) rfl)) rfl
theorem wm_1069 : (Cond.instanceMethod yX11_goBack) ∈ sy_W := sy_W_of (tk_4 _ (List.mem_of_getElem? (i := 221) rfl)) rfl
theorem wm_1070 : (Cond.selects RX11 yX11_goBack yX11_goBack) ∈ sy_W := sy_W_of (tk_4 _ (List.mem_of_getElem? (i := 222) rfl)) rfl
theorem wm_1071 : (Cond.code yX11_goBack cX11_goBack 2 (some .int)) ∈ sy_W := sy_W_of (tk_4 _ (List.mem_of_getElem? (i := 223) rfl)) rfl
theorem wm_1072 : (Cond.methodLink RL 142 yX12_goBack) ∈ sy_W := sy_W_of (tk_6 _ (List.mem_of_getElem? (i := 132) rfl)) rfl
theorem wm_1073 : (Cond.instanceMethod yX12_goBack) ∈ sy_W := sy_W_of (tk_6 _ (List.mem_of_getElem? (i := 133) rfl)) rfl
theorem wm_1074 : (Cond.selects RX12 yX12_goBack yX12_goBack) ∈ sy_W := sy_W_of (tk_6 _ (List.mem_of_getElem? (i := 134) rfl)) rfl
theorem wm_1075 : (Cond.code yX12_goBack cX12_goBack 2 (some .int)) ∈ sy_W := sy_W_of (tk_6 _ (List.mem_of_getElem? (i := 135) rfl)) rfl
theorem wl_0_0 : (Cond.laysFinal RX0 "SkyTurns$Book" "persons" "[I") ∈ sy_W := sy_W_of (tk_2 _ (List.mem_of_getElem? (i := 83) rfl)) rfl
theorem wl_0_1 : (Cond.laysFinal RX0 "SkyTurns$Book" "wordsTold" "[I") ∈ sy_W := sy_W_of (tk_2 _ (List.mem_of_getElem? (i := 85) rfl)) rfl
theorem wl_0_2 : (Cond.laysFinal RX0 "SkyTurns$Book" "taken" "[Z") ∈ sy_W := sy_W_of (tk_2 _ (List.mem_of_getElem? (i := 87) rfl)) rfl
theorem wl_0_3 : (Cond.lays RX0 "SkyTurns$Book" "lines" "I") ∈ sy_W := sy_W_of (tk_2 _ (List.mem_of_getElem? (i := 89) rfl)) rfl
theorem inW0 : ∀ w ∈ wsX00, w ∈ sy_W := by
  intro w h
  obtain ⟨k, hk, rfl⟩ := List.mem_map.mp h
  have hk := List.mem_range.mp hk
  match k, hk with
  | 0, _ => exact wl_0_0
  | 1, _ => exact wl_0_1
  | 2, _ => exact wl_0_2
  | 3, _ => exact wl_0_3
  | k + 4, hk => exact absurd hk (by omega)
theorem wl_1_0 : (Cond.laysFinal RX1 "SkyTurns$Chain" "told" "LSkyTurns$Edge;") ∈ sy_W := sy_W_of (tk_2 _ (List.mem_of_getElem? (i := 59) rfl)) rfl
theorem wl_1_1 : (Cond.laysFinal RX1 "SkyTurns$Chain" "falls" "[Z") ∈ sy_W := sy_W_of (tk_2 _ (List.mem_of_getElem? (i := 61) rfl)) rfl
theorem wl_1_2 : (Cond.laysFinal RX1 "SkyTurns$Chain" "starts" "[Z") ∈ sy_W := sy_W_of (tk_2 _ (List.mem_of_getElem? (i := 63) rfl)) rfl
theorem wl_1_3 : (Cond.laysFinal RX1 "SkyTurns$Chain" "stepsLeft" "[I") ∈ sy_W := sy_W_of (tk_2 _ (List.mem_of_getElem? (i := 65) rfl)) rfl
theorem wl_1_4 : (Cond.laysFinal RX1 "SkyTurns$Chain" "way" "[I") ∈ sy_W := sy_W_of (tk_2 _ (List.mem_of_getElem? (i := 67) rfl)) rfl
theorem wl_1_5 : (Cond.lays RX1 "SkyTurns$Chain" "length" "I") ∈ sy_W := sy_W_of (tk_2 _ (List.mem_of_getElem? (i := 69) rfl)) rfl
theorem inW1 : ∀ w ∈ wsX10, w ∈ sy_W := by
  intro w h
  obtain ⟨k, hk, rfl⟩ := List.mem_map.mp h
  have hk := List.mem_range.mp hk
  match k, hk with
  | 0, _ => exact wl_1_0
  | 1, _ => exact wl_1_1
  | 2, _ => exact wl_1_2
  | 3, _ => exact wl_1_3
  | 4, _ => exact wl_1_4
  | 5, _ => exact wl_1_5
  | k + 6, hk => exact absurd hk (by omega)
theorem wl_2_0 : (Cond.laysFinal RX2 "SkyTurns$Debts" "told" "LSkyTurns$Edge;") ∈ sy_W := sy_W_of (tk_2 _ (List.mem_of_getElem? (i := 101) rfl)) rfl
theorem wl_2_1 : (Cond.laysFinal RX2 "SkyTurns$Debts" "sums" "[I") ∈ sy_W := sy_W_of (tk_2 _ (List.mem_of_getElem? (i := 103) rfl)) rfl
theorem wl_2_2 : (Cond.laysFinal RX2 "SkyTurns$Debts" "groups" "[I") ∈ sy_W := sy_W_of (tk_2 _ (List.mem_of_getElem? (i := 105) rfl)) rfl
theorem inW2 : ∀ w ∈ wsX20, w ∈ sy_W := by
  intro w h
  obtain ⟨k, hk, rfl⟩ := List.mem_map.mp h
  have hk := List.mem_range.mp hk
  match k, hk with
  | 0, _ => exact wl_2_0
  | 1, _ => exact wl_2_1
  | 2, _ => exact wl_2_2
  | k + 3, hk => exact absurd hk (by omega)
theorem wl_3_0 : (Cond.laysFinal RX3 "SkyTurns$Edge" "weights" "[I") ∈ sy_W := sy_W_of (tk_1 _ (List.mem_of_getElem? (i := 69) rfl)) rfl
theorem wl_3_1 : (Cond.laysFinal RX3 "SkyTurns$Edge" "kind" "[I") ∈ sy_W := sy_W_of (tk_1 _ (List.mem_of_getElem? (i := 71) rfl)) rfl
theorem wl_3_2 : (Cond.laysFinal RX3 "SkyTurns$Edge" "strength" "[I") ∈ sy_W := sy_W_of (tk_1 _ (List.mem_of_getElem? (i := 73) rfl)) rfl
theorem wl_3_3 : (Cond.laysFinal RX3 "SkyTurns$Edge" "height" "[I") ∈ sy_W := sy_W_of (tk_1 _ (List.mem_of_getElem? (i := 75) rfl)) rfl
theorem wl_3_4 : (Cond.laysFinal RX3 "SkyTurns$Edge" "wits" "[I") ∈ sy_W := sy_W_of (tk_1 _ (List.mem_of_getElem? (i := 77) rfl)) rfl
theorem wl_3_5 : (Cond.laysFinal RX3 "SkyTurns$Edge" "father" "[I") ∈ sy_W := sy_W_of (tk_1 _ (List.mem_of_getElem? (i := 79) rfl)) rfl
theorem wl_3_6 : (Cond.laysFinal RX3 "SkyTurns$Edge" "goodness" "[I") ∈ sy_W := sy_W_of (tk_1 _ (List.mem_of_getElem? (i := 81) rfl)) rfl
theorem wl_3_7 : (Cond.lays RX3 "SkyTurns$Edge" "weightCount" "I") ∈ sy_W := sy_W_of (tk_1 _ (List.mem_of_getElem? (i := 83) rfl)) rfl
theorem wl_3_8 : (Cond.lays RX3 "SkyTurns$Edge" "people" "I") ∈ sy_W := sy_W_of (tk_1 _ (List.mem_of_getElem? (i := 85) rfl)) rfl
theorem wl_3_9 : (Cond.lays RX3 "SkyTurns$Edge" "firstFruit" "I") ∈ sy_W := sy_W_of (tk_1 _ (List.mem_of_getElem? (i := 87) rfl)) rfl
theorem inW3 : ∀ w ∈ wsX30, w ∈ sy_W := by
  intro w h
  obtain ⟨k, hk, rfl⟩ := List.mem_map.mp h
  have hk := List.mem_range.mp hk
  match k, hk with
  | 0, _ => exact wl_3_0
  | 1, _ => exact wl_3_1
  | 2, _ => exact wl_3_2
  | 3, _ => exact wl_3_3
  | 4, _ => exact wl_3_4
  | 5, _ => exact wl_3_5
  | 6, _ => exact wl_3_6
  | 7, _ => exact wl_3_7
  | 8, _ => exact wl_3_8
  | 9, _ => exact wl_3_9
  | k + 10, hk => exact absurd hk (by omega)
theorem wl_4_0 : (Cond.lays RX4 "SkyTurns$Game" "said0Thought0" "I") ∈ sy_W := sy_W_of (tk_2 _ (List.mem_of_getElem? (i := 126) rfl)) rfl
theorem wl_4_1 : (Cond.lays RX4 "SkyTurns$Game" "said0Thought1" "I") ∈ sy_W := sy_W_of (tk_2 _ (List.mem_of_getElem? (i := 128) rfl)) rfl
theorem wl_4_2 : (Cond.lays RX4 "SkyTurns$Game" "said1Thought0" "I") ∈ sy_W := sy_W_of (tk_2 _ (List.mem_of_getElem? (i := 130) rfl)) rfl
theorem wl_4_3 : (Cond.lays RX4 "SkyTurns$Game" "said1Thought1" "I") ∈ sy_W := sy_W_of (tk_2 _ (List.mem_of_getElem? (i := 132) rfl)) rfl
theorem wl_4_4 : (Cond.lays RX4 "SkyTurns$Game" "valueAbove" "I") ∈ sy_W := sy_W_of (tk_2 _ (List.mem_of_getElem? (i := 134) rfl)) rfl
theorem wl_4_5 : (Cond.lays RX4 "SkyTurns$Game" "valueBelow" "I") ∈ sy_W := sy_W_of (tk_2 _ (List.mem_of_getElem? (i := 136) rfl)) rfl
theorem wl_4_6 : (Cond.lays RX4 "SkyTurns$Game" "oddsAbove" "I") ∈ sy_W := sy_W_of (tk_2 _ (List.mem_of_getElem? (i := 138) rfl)) rfl
theorem wl_4_7 : (Cond.lays RX4 "SkyTurns$Game" "oddsBelow" "I") ∈ sy_W := sy_W_of (tk_2 _ (List.mem_of_getElem? (i := 140) rfl)) rfl
theorem inW4 : ∀ w ∈ wsX40, w ∈ sy_W := by
  intro w h
  obtain ⟨k, hk, rfl⟩ := List.mem_map.mp h
  have hk := List.mem_range.mp hk
  match k, hk with
  | 0, _ => exact wl_4_0
  | 1, _ => exact wl_4_1
  | 2, _ => exact wl_4_2
  | 3, _ => exact wl_4_3
  | 4, _ => exact wl_4_4
  | 5, _ => exact wl_4_5
  | 6, _ => exact wl_4_6
  | 7, _ => exact wl_4_7
  | k + 8, hk => exact absurd hk (by omega)
theorem wl_5_0 : (Cond.laysFinal RX5 "SkyTurns$Past" "skies" "[LSkyTurns$Sky;") ∈ sy_W := sy_W_of (tk_1 _ (List.mem_of_getElem? (i := 199) rfl)) rfl
theorem wl_5_1 : (Cond.lays RX5 "SkyTurns$Past" "count" "I") ∈ sy_W := sy_W_of (tk_1 _ (List.mem_of_getElem? (i := 201) rfl)) rfl
theorem wl_5_2 : (Cond.lays RX5 "SkyTurns$Past" "next" "I") ∈ sy_W := sy_W_of (tk_1 _ (List.mem_of_getElem? (i := 203) rfl)) rfl
theorem inW5 : ∀ w ∈ wsX50, w ∈ sy_W := by
  intro w h
  obtain ⟨k, hk, rfl⟩ := List.mem_map.mp h
  have hk := List.mem_range.mp hk
  match k, hk with
  | 0, _ => exact wl_5_0
  | 1, _ => exact wl_5_1
  | 2, _ => exact wl_5_2
  | k + 3, hk => exact absurd hk (by omega)
theorem wl_6_0 : (Cond.laysFinal RX6 "SkyTurns$Reader" "letters" "[I") ∈ sy_W := sy_W_of (tk_1 _ (List.mem_of_getElem? (i := 168) rfl)) rfl
theorem wl_6_1 : (Cond.laysFinal RX6 "SkyTurns$Reader" "draft" "LSkyTurns$Edge;") ∈ sy_W := sy_W_of (tk_1 _ (List.mem_of_getElem? (i := 170) rfl)) rfl
theorem wl_6_2 : (Cond.lays RX6 "SkyTurns$Reader" "length" "I") ∈ sy_W := sy_W_of (tk_1 _ (List.mem_of_getElem? (i := 172) rfl)) rfl
theorem wl_6_3 : (Cond.lays RX6 "SkyTurns$Reader" "faultKind" "I") ∈ sy_W := sy_W_of (tk_1 _ (List.mem_of_getElem? (i := 174) rfl)) rfl
theorem wl_6_4 : (Cond.lays RX6 "SkyTurns$Reader" "faultAt" "I") ∈ sy_W := sy_W_of (tk_1 _ (List.mem_of_getElem? (i := 176) rfl)) rfl
theorem wl_6_5 : (Cond.lays RX6 "SkyTurns$Reader" "at" "I") ∈ sy_W := sy_W_of (tk_1 _ (List.mem_of_getElem? (i := 178) rfl)) rfl
theorem wl_6_6 : (Cond.lays RX6 "SkyTurns$Reader" "numberAt" "I") ∈ sy_W := sy_W_of (tk_1 _ (List.mem_of_getElem? (i := 180) rfl)) rfl
theorem wl_6_7 : (Cond.lays RX6 "SkyTurns$Reader" "goodnessTold" "Z") ∈ sy_W := sy_W_of (tk_1 _ (List.mem_of_getElem? (i := 182) rfl)) rfl
theorem wl_6_8 : (Cond.lays RX6 "SkyTurns$Reader" "fruitTold" "Z") ∈ sy_W := sy_W_of (tk_1 _ (List.mem_of_getElem? (i := 184) rfl)) rfl
theorem inW6 : ∀ w ∈ wsX60, w ∈ sy_W := by
  intro w h
  obtain ⟨k, hk, rfl⟩ := List.mem_map.mp h
  have hk := List.mem_range.mp hk
  match k, hk with
  | 0, _ => exact wl_6_0
  | 1, _ => exact wl_6_1
  | 2, _ => exact wl_6_2
  | 3, _ => exact wl_6_3
  | 4, _ => exact wl_6_4
  | 5, _ => exact wl_6_5
  | 6, _ => exact wl_6_6
  | 7, _ => exact wl_6_7
  | 8, _ => exact wl_6_8
  | k + 9, hk => exact absurd hk (by omega)
theorem wl_8_0 : (Cond.laysFinal RX8 "SkyTurns$Rows" "told" "LSkyTurns$Edge;") ∈ sy_W := sy_W_of (tk_2 _ (List.mem_of_getElem? (i := 40) rfl)) rfl
theorem wl_8_1 : (Cond.laysFinal RX8 "SkyTurns$Rows" "levels" "[LSkyTurns$Sky;") ∈ sy_W := sy_W_of (tk_2 _ (List.mem_of_getElem? (i := 41) rfl)) rfl
theorem wl_8_2 : (Cond.laysFinal RX8 "SkyTurns$Rows" "row" "[I") ∈ sy_W := sy_W_of (tk_2 _ (List.mem_of_getElem? (i := 42) rfl)) rfl
theorem wl_8_3 : (Cond.laysFinal RX8 "SkyTurns$Rows" "hoursOf" "[I") ∈ sy_W := sy_W_of (tk_2 _ (List.mem_of_getElem? (i := 43) rfl)) rfl
theorem wl_8_4 : (Cond.lays RX8 "SkyTurns$Rows" "hours" "I") ∈ sy_W := sy_W_of (tk_2 _ (List.mem_of_getElem? (i := 44) rfl)) rfl
theorem wl_8_5 : (Cond.laysFinal RX8 "SkyTurns$SeenRows" "seen" "[I") ∈ sy_W := sy_W_of (tk_2 _ (List.mem_of_getElem? (i := 30) rfl)) rfl
theorem wl_8_6 : (Cond.laysFinal RX8 "SkyTurns$SeenRows" "firstRow" "[I") ∈ sy_W := sy_W_of (tk_2 _ (List.mem_of_getElem? (i := 32) rfl)) rfl
theorem wl_8_7 : (Cond.lays RX8 "SkyTurns$SeenRows" "seenCount" "I") ∈ sy_W := sy_W_of (tk_2 _ (List.mem_of_getElem? (i := 34) rfl)) rfl
theorem wl_8_8 : (Cond.lays RX8 "SkyTurns$SeenRows" "count" "I") ∈ sy_W := sy_W_of (tk_2 _ (List.mem_of_getElem? (i := 36) rfl)) rfl
theorem wl_8_9 : (Cond.lays RX8 "SkyTurns$SeenRows" "common" "I") ∈ sy_W := sy_W_of (tk_2 _ (List.mem_of_getElem? (i := 38) rfl)) rfl
theorem inW8 : ∀ w ∈ wsX80, w ∈ sy_W := by
  intro w h
  obtain ⟨k, hk, rfl⟩ := List.mem_map.mp h
  have hk := List.mem_range.mp hk
  match k, hk with
  | 0, _ => exact wl_8_0
  | 1, _ => exact wl_8_1
  | 2, _ => exact wl_8_2
  | 3, _ => exact wl_8_3
  | 4, _ => exact wl_8_4
  | 5, _ => exact wl_8_5
  | 6, _ => exact wl_8_6
  | 7, _ => exact wl_8_7
  | 8, _ => exact wl_8_8
  | 9, _ => exact wl_8_9
  | k + 10, hk => exact absurd hk (by omega)
theorem wl_9_0 : (Cond.laysFinal RX9 "SkyTurns$Rows" "told" "LSkyTurns$Edge;") ∈ sy_W := sy_W_of (tk_2 _ (List.mem_of_getElem? (i := 4) rfl)) rfl
theorem wl_9_1 : (Cond.laysFinal RX9 "SkyTurns$Rows" "levels" "[LSkyTurns$Sky;") ∈ sy_W := sy_W_of (tk_2 _ (List.mem_of_getElem? (i := 6) rfl)) rfl
theorem wl_9_2 : (Cond.laysFinal RX9 "SkyTurns$Rows" "row" "[I") ∈ sy_W := sy_W_of (tk_2 _ (List.mem_of_getElem? (i := 8) rfl)) rfl
theorem wl_9_3 : (Cond.laysFinal RX9 "SkyTurns$Rows" "hoursOf" "[I") ∈ sy_W := sy_W_of (tk_2 _ (List.mem_of_getElem? (i := 10) rfl)) rfl
theorem wl_9_4 : (Cond.lays RX9 "SkyTurns$Rows" "hours" "I") ∈ sy_W := sy_W_of (tk_2 _ (List.mem_of_getElem? (i := 12) rfl)) rfl
theorem wl_9_5 : (Cond.laysFinal RX9 "SkyTurns$ShiftRows" "bestRow" "[I") ∈ sy_W := sy_W_of (tk_1 _ (List.mem_of_getElem? (i := 236) rfl)) rfl
theorem wl_9_6 : (Cond.lays RX9 "SkyTurns$ShiftRows" "best" "I") ∈ sy_W := sy_W_of (tk_1 _ (List.mem_of_getElem? (i := 238) rfl)) rfl
theorem wl_9_7 : (Cond.lays RX9 "SkyTurns$ShiftRows" "deepest" "I") ∈ sy_W := sy_W_of (tk_2 _ (List.mem_of_getElem? (i := 0) rfl)) rfl
theorem wl_9_8 : (Cond.lays RX9 "SkyTurns$ShiftRows" "limit" "I") ∈ sy_W := sy_W_of (tk_2 _ (List.mem_of_getElem? (i := 2) rfl)) rfl
theorem inW9 : ∀ w ∈ wsX90, w ∈ sy_W := by
  intro w h
  obtain ⟨k, hk, rfl⟩ := List.mem_map.mp h
  have hk := List.mem_range.mp hk
  match k, hk with
  | 0, _ => exact wl_9_0
  | 1, _ => exact wl_9_1
  | 2, _ => exact wl_9_2
  | 3, _ => exact wl_9_3
  | 4, _ => exact wl_9_4
  | 5, _ => exact wl_9_5
  | 6, _ => exact wl_9_6
  | 7, _ => exact wl_9_7
  | 8, _ => exact wl_9_8
  | k + 9, hk => exact absurd hk (by omega)
theorem wl_10_0 : (Cond.laysFinal RX10 "SkyTurns$Sky" "told" "LSkyTurns$Edge;") ∈ sy_W := sy_W_of (tk_1 _ (List.mem_of_getElem? (i := 124) rfl)) rfl
theorem wl_10_1 : (Cond.laysFinal RX10 "SkyTurns$Sky" "tired" "[I") ∈ sy_W := sy_W_of (tk_1 _ (List.mem_of_getElem? (i := 126) rfl)) rfl
theorem wl_10_2 : (Cond.laysFinal RX10 "SkyTurns$Sky" "held" "[I") ∈ sy_W := sy_W_of (tk_1 _ (List.mem_of_getElem? (i := 128) rfl)) rfl
theorem wl_10_3 : (Cond.laysFinal RX10 "SkyTurns$Sky" "unbroken" "[I") ∈ sy_W := sy_W_of (tk_1 _ (List.mem_of_getElem? (i := 130) rfl)) rfl
theorem wl_10_4 : (Cond.laysFinal RX10 "SkyTurns$Sky" "fallen" "[I") ∈ sy_W := sy_W_of (tk_1 _ (List.mem_of_getElem? (i := 132) rfl)) rfl
theorem wl_10_5 : (Cond.lays RX10 "SkyTurns$Sky" "clock" "I") ∈ sy_W := sy_W_of (tk_1 _ (List.mem_of_getElem? (i := 134) rfl)) rfl
theorem wl_10_6 : (Cond.lays RX10 "SkyTurns$Sky" "low" "I") ∈ sy_W := sy_W_of (tk_1 _ (List.mem_of_getElem? (i := 136) rfl)) rfl
theorem wl_10_7 : (Cond.lays RX10 "SkyTurns$Sky" "harm" "I") ∈ sy_W := sy_W_of (tk_1 _ (List.mem_of_getElem? (i := 138) rfl)) rfl
theorem wl_10_8 : (Cond.lays RX10 "SkyTurns$Sky" "fruitLeft" "I") ∈ sy_W := sy_W_of (tk_1 _ (List.mem_of_getElem? (i := 140) rfl)) rfl
theorem wl_10_9 : (Cond.lays RX10 "SkyTurns$Sky" "holder" "I") ∈ sy_W := sy_W_of (tk_1 _ (List.mem_of_getElem? (i := 142) rfl)) rfl
theorem wl_10_10 : (Cond.lays RX10 "SkyTurns$Sky" "beside" "I") ∈ sy_W := sy_W_of (tk_1 _ (List.mem_of_getElem? (i := 144) rfl)) rfl
theorem inW10 : ∀ w ∈ wsX100, w ∈ sy_W := by
  intro w h
  obtain ⟨k, hk, rfl⟩ := List.mem_map.mp h
  have hk := List.mem_range.mp hk
  match k, hk with
  | 0, _ => exact wl_10_0
  | 1, _ => exact wl_10_1
  | 2, _ => exact wl_10_2
  | 3, _ => exact wl_10_3
  | 4, _ => exact wl_10_4
  | 5, _ => exact wl_10_5
  | 6, _ => exact wl_10_6
  | 7, _ => exact wl_10_7
  | 8, _ => exact wl_10_8
  | 9, _ => exact wl_10_9
  | 10, _ => exact wl_10_10
  | k + 11, hk => exact absurd hk (by omega)
theorem wl_11_0 : (Cond.laysFinal RX11 "SkyTurns" "told" "LSkyTurns$Edge;") ∈ sy_W := sy_W_of (tk_2 _ (List.mem_of_getElem? (i := 159) rfl)) rfl
theorem wl_11_1 : (Cond.laysFinal RX11 "SkyTurns" "reader" "LSkyTurns$Reader;") ∈ sy_W := sy_W_of (tk_2 _ (List.mem_of_getElem? (i := 161) rfl)) rfl
theorem wl_11_2 : (Cond.laysFinal RX11 "SkyTurns" "now" "LSkyTurns$Sky;") ∈ sy_W := sy_W_of (tk_2 _ (List.mem_of_getElem? (i := 163) rfl)) rfl
theorem wl_11_3 : (Cond.laysFinal RX11 "SkyTurns" "trial" "LSkyTurns$Sky;") ∈ sy_W := sy_W_of (tk_2 _ (List.mem_of_getElem? (i := 165) rfl)) rfl
theorem wl_11_4 : (Cond.laysFinal RX11 "SkyTurns" "past" "LSkyTurns$Past;") ∈ sy_W := sy_W_of (tk_2 _ (List.mem_of_getElem? (i := 167) rfl)) rfl
theorem wl_11_5 : (Cond.laysFinal RX11 "SkyTurns" "images" "[LSkyTurns$Sky;") ∈ sy_W := sy_W_of (tk_2 _ (List.mem_of_getElem? (i := 169) rfl)) rfl
theorem wl_11_6 : (Cond.laysFinal RX11 "SkyTurns" "imageKept" "[Z") ∈ sy_W := sy_W_of (tk_2 _ (List.mem_of_getElem? (i := 171) rfl)) rfl
theorem wl_11_7 : (Cond.laysFinal RX11 "SkyTurns" "imageSeed" "[I") ∈ sy_W := sy_W_of (tk_2 _ (List.mem_of_getElem? (i := 173) rfl)) rfl
theorem wl_11_8 : (Cond.laysFinal RX11 "SkyTurns" "shiftRows" "LSkyTurns$ShiftRows;") ∈ sy_W := sy_W_of (tk_2 _ (List.mem_of_getElem? (i := 175) rfl)) rfl
theorem wl_11_9 : (Cond.laysFinal RX11 "SkyTurns" "seenRows" "LSkyTurns$SeenRows;") ∈ sy_W := sy_W_of (tk_2 _ (List.mem_of_getElem? (i := 177) rfl)) rfl
theorem wl_11_10 : (Cond.laysFinal RX11 "SkyTurns" "chainTried" "LSkyTurns$Chain;") ∈ sy_W := sy_W_of (tk_2 _ (List.mem_of_getElem? (i := 179) rfl)) rfl
theorem wl_11_11 : (Cond.laysFinal RX11 "SkyTurns" "book" "LSkyTurns$Book;") ∈ sy_W := sy_W_of (tk_2 _ (List.mem_of_getElem? (i := 181) rfl)) rfl
theorem wl_11_12 : (Cond.laysFinal RX11 "SkyTurns" "debts" "LSkyTurns$Debts;") ∈ sy_W := sy_W_of (tk_2 _ (List.mem_of_getElem? (i := 183) rfl)) rfl
theorem wl_11_13 : (Cond.laysFinal RX11 "SkyTurns" "game" "LSkyTurns$Game;") ∈ sy_W := sy_W_of (tk_2 _ (List.mem_of_getElem? (i := 185) rfl)) rfl
theorem wl_11_14 : (Cond.lays RX11 "SkyTurns" "latestFault" "I") ∈ sy_W := sy_W_of (tk_2 _ (List.mem_of_getElem? (i := 187) rfl)) rfl
theorem wl_11_15 : (Cond.lays RX11 "SkyTurns" "seedNow" "I") ∈ sy_W := sy_W_of (tk_2 _ (List.mem_of_getElem? (i := 189) rfl)) rfl
theorem inW11 : ∀ w ∈ wsX110, w ∈ sy_W := by
  intro w h
  obtain ⟨k, hk, rfl⟩ := List.mem_map.mp h
  have hk := List.mem_range.mp hk
  match k, hk with
  | 0, _ => exact wl_11_0
  | 1, _ => exact wl_11_1
  | 2, _ => exact wl_11_2
  | 3, _ => exact wl_11_3
  | 4, _ => exact wl_11_4
  | 5, _ => exact wl_11_5
  | 6, _ => exact wl_11_6
  | 7, _ => exact wl_11_7
  | 8, _ => exact wl_11_8
  | 9, _ => exact wl_11_9
  | 10, _ => exact wl_11_10
  | 11, _ => exact wl_11_11
  | 12, _ => exact wl_11_12
  | 13, _ => exact wl_11_13
  | 14, _ => exact wl_11_14
  | 15, _ => exact wl_11_15
  | k + 16, hk => exact absurd hk (by omega)
theorem wl_12_0 : (Cond.lays RX12 "SkyTurnsModel" "letters" "I") ∈ sy_W := sy_W_of (tk_5 _ (List.mem_of_getElem? (i := 29) rfl)) rfl
theorem wl_12_1 : (Cond.laysFinal RX12 "SkyTurnsModel" "text" "[I") ∈ sy_W := sy_W_of (tk_5 _ (List.mem_of_getElem? (i := 31) rfl)) rfl
theorem wl_12_2 : (Cond.lays RX12 "SkyTurnsModel" "position" "I") ∈ sy_W := sy_W_of (tk_5 _ (List.mem_of_getElem? (i := 33) rfl)) rfl
theorem wl_12_3 : (Cond.lays RX12 "SkyTurnsModel" "tokenAt" "I") ∈ sy_W := sy_W_of (tk_5 _ (List.mem_of_getElem? (i := 35) rfl)) rfl
theorem wl_12_4 : (Cond.lays RX12 "SkyTurnsModel" "token" "I") ∈ sy_W := sy_W_of (tk_5 _ (List.mem_of_getElem? (i := 37) rfl)) rfl
theorem wl_12_5 : (Cond.lays RX12 "SkyTurnsModel" "number" "I") ∈ sy_W := sy_W_of (tk_5 _ (List.mem_of_getElem? (i := 39) rfl)) rfl
theorem wl_12_6 : (Cond.lays RX12 "SkyTurnsModel" "faultAt" "I") ∈ sy_W := sy_W_of (tk_5 _ (List.mem_of_getElem? (i := 41) rfl)) rfl
theorem wl_12_7 : (Cond.lays RX12 "SkyTurnsModel" "faultIs" "I") ∈ sy_W := sy_W_of (tk_5 _ (List.mem_of_getElem? (i := 43) rfl)) rfl
theorem wl_12_8 : (Cond.lays RX12 "SkyTurnsModel" "readWeights" "I") ∈ sy_W := sy_W_of (tk_5 _ (List.mem_of_getElem? (i := 45) rfl)) rfl
theorem wl_12_9 : (Cond.laysFinal RX12 "SkyTurnsModel" "readWeight" "[I") ∈ sy_W := sy_W_of (tk_5 _ (List.mem_of_getElem? (i := 47) rfl)) rfl
theorem wl_12_10 : (Cond.lays RX12 "SkyTurnsModel" "readMany" "I") ∈ sy_W := sy_W_of (tk_5 _ (List.mem_of_getElem? (i := 49) rfl)) rfl
theorem wl_12_11 : (Cond.laysFinal RX12 "SkyTurnsModel" "read" "[I") ∈ sy_W := sy_W_of (tk_5 _ (List.mem_of_getElem? (i := 51) rfl)) rfl
theorem wl_12_12 : (Cond.laysFinal RX12 "SkyTurnsModel" "readWord" "[I") ∈ sy_W := sy_W_of (tk_5 _ (List.mem_of_getElem? (i := 53) rfl)) rfl
theorem wl_12_13 : (Cond.lays RX12 "SkyTurnsModel" "readFruit" "I") ∈ sy_W := sy_W_of (tk_5 _ (List.mem_of_getElem? (i := 55) rfl)) rfl
theorem wl_12_14 : (Cond.lays RX12 "SkyTurnsModel" "hasWeights" "Z") ∈ sy_W := sy_W_of (tk_5 _ (List.mem_of_getElem? (i := 57) rfl)) rfl
theorem wl_12_15 : (Cond.lays RX12 "SkyTurnsModel" "hasWords" "Z") ∈ sy_W := sy_W_of (tk_5 _ (List.mem_of_getElem? (i := 59) rfl)) rfl
theorem wl_12_16 : (Cond.lays RX12 "SkyTurnsModel" "hasFruit" "Z") ∈ sy_W := sy_W_of (tk_5 _ (List.mem_of_getElem? (i := 61) rfl)) rfl
theorem wl_12_17 : (Cond.lays RX12 "SkyTurnsModel" "weights" "I") ∈ sy_W := sy_W_of (tk_5 _ (List.mem_of_getElem? (i := 63) rfl)) rfl
theorem wl_12_18 : (Cond.laysFinal RX12 "SkyTurnsModel" "weight" "[I") ∈ sy_W := sy_W_of (tk_5 _ (List.mem_of_getElem? (i := 65) rfl)) rfl
theorem wl_12_19 : (Cond.lays RX12 "SkyTurnsModel" "many" "I") ∈ sy_W := sy_W_of (tk_5 _ (List.mem_of_getElem? (i := 67) rfl)) rfl
theorem wl_12_20 : (Cond.laysFinal RX12 "SkyTurnsModel" "person" "[I") ∈ sy_W := sy_W_of (tk_5 _ (List.mem_of_getElem? (i := 69) rfl)) rfl
theorem wl_12_21 : (Cond.laysFinal RX12 "SkyTurnsModel" "word" "[I") ∈ sy_W := sy_W_of (tk_5 _ (List.mem_of_getElem? (i := 71) rfl)) rfl
theorem wl_12_22 : (Cond.laysFinal RX12 "SkyTurnsModel" "now" "[I") ∈ sy_W := sy_W_of (tk_5 _ (List.mem_of_getElem? (i := 73) rfl)) rfl
theorem wl_12_23 : (Cond.laysFinal RX12 "SkyTurnsModel" "tried" "[I") ∈ sy_W := sy_W_of (tk_5 _ (List.mem_of_getElem? (i := 75) rfl)) rfl
theorem wl_12_24 : (Cond.laysFinal RX12 "SkyTurnsModel" "image" "[I") ∈ sy_W := sy_W_of (tk_5 _ (List.mem_of_getElem? (i := 77) rfl)) rfl
theorem wl_12_25 : (Cond.laysFinal RX12 "SkyTurnsModel" "isKept" "[Z") ∈ sy_W := sy_W_of (tk_5 _ (List.mem_of_getElem? (i := 79) rfl)) rfl
theorem wl_12_26 : (Cond.lays RX12 "SkyTurnsModel" "backs" "I") ∈ sy_W := sy_W_of (tk_5 _ (List.mem_of_getElem? (i := 81) rfl)) rfl
theorem wl_12_27 : (Cond.laysFinal RX12 "SkyTurnsModel" "backOf" "[I") ∈ sy_W := sy_W_of (tk_5 _ (List.mem_of_getElem? (i := 83) rfl)) rfl
theorem wl_12_28 : (Cond.lays RX12 "SkyTurnsModel" "sights" "I") ∈ sy_W := sy_W_of (tk_5 _ (List.mem_of_getElem? (i := 85) rfl)) rfl
theorem wl_12_29 : (Cond.laysFinal RX12 "SkyTurnsModel" "sight" "[I") ∈ sy_W := sy_W_of (tk_5 _ (List.mem_of_getElem? (i := 87) rfl)) rfl
theorem wl_12_30 : (Cond.lays RX12 "SkyTurnsModel" "lines" "I") ∈ sy_W := sy_W_of (tk_5 _ (List.mem_of_getElem? (i := 89) rfl)) rfl
theorem wl_12_31 : (Cond.laysFinal RX12 "SkyTurnsModel" "line" "[I") ∈ sy_W := sy_W_of (tk_5 _ (List.mem_of_getElem? (i := 91) rfl)) rfl
theorem wl_12_32 : (Cond.laysFinal RX12 "SkyTurnsModel" "row" "[I") ∈ sy_W := sy_W_of (tk_5 _ (List.mem_of_getElem? (i := 93) rfl)) rfl
theorem wl_12_33 : (Cond.laysFinal RX12 "SkyTurnsModel" "found" "[I") ∈ sy_W := sy_W_of (tk_5 _ (List.mem_of_getElem? (i := 95) rfl)) rfl
theorem wl_12_34 : (Cond.laysFinal RX12 "SkyTurnsModel" "sums" "[I") ∈ sy_W := sy_W_of (tk_5 _ (List.mem_of_getElem? (i := 97) rfl)) rfl
theorem inW12 : ∀ w ∈ wsX120, w ∈ sy_W := by
  intro w h
  obtain ⟨k, hk, rfl⟩ := List.mem_map.mp h
  have hk := List.mem_range.mp hk
  match k, hk with
  | 0, _ => exact wl_12_0
  | 1, _ => exact wl_12_1
  | 2, _ => exact wl_12_2
  | 3, _ => exact wl_12_3
  | 4, _ => exact wl_12_4
  | 5, _ => exact wl_12_5
  | 6, _ => exact wl_12_6
  | 7, _ => exact wl_12_7
  | 8, _ => exact wl_12_8
  | 9, _ => exact wl_12_9
  | 10, _ => exact wl_12_10
  | 11, _ => exact wl_12_11
  | 12, _ => exact wl_12_12
  | 13, _ => exact wl_12_13
  | 14, _ => exact wl_12_14
  | 15, _ => exact wl_12_15
  | 16, _ => exact wl_12_16
  | 17, _ => exact wl_12_17
  | 18, _ => exact wl_12_18
  | 19, _ => exact wl_12_19
  | 20, _ => exact wl_12_20
  | 21, _ => exact wl_12_21
  | 22, _ => exact wl_12_22
  | 23, _ => exact wl_12_23
  | 24, _ => exact wl_12_24
  | 25, _ => exact wl_12_25
  | 26, _ => exact wl_12_26
  | 27, _ => exact wl_12_27
  | 28, _ => exact wl_12_28
  | 29, _ => exact wl_12_29
  | 30, _ => exact wl_12_30
  | 31, _ => exact wl_12_31
  | 32, _ => exact wl_12_32
  | 33, _ => exact wl_12_33
  | 34, _ => exact wl_12_34
  | k + 35, hk => exact absurd hk (by omega)
theorem wp_yX7_goOn : Cond.privateMethod yX7_goOn ∈ lw_tbl := tk_3 _ (List.mem_of_getElem? (i := 237) rfl)
theorem wp_yX7_standBehind : Cond.privateMethod yX7_standBehind ∈ lw_tbl := tk_4 _ (List.mem_of_getElem? (i := 23) rfl)
theorem sy_sel_priv {C : String} {x0 y0 y : MethodName} {s : State} {args : Array Value} (hsel : (Cond.selects C x0 y0).before args s = true) (h0 : y0.cls = y.cls) (hy : y.cls ≠ "java/lang/invoke/MethodHandle" ∧ y.cls ≠ "java/lang/invoke/VarHandle") (hpriv : (Cond.privateMethod y).before args s = true) (hinst : (Cond.instanceMethod y).before args s = true) : (Cond.selects C y y).before args s = true := by
  obtain ⟨c2, r2, m2, q1, q2, q3, q4, kP, hkP, hkPi⟩ := Cond.selects_spec hsel
  obtain ⟨mk, methM, hnamed, hmethM, -, -⟩ := Cond.instanceMethod_spec hinst
  have hfound : s.methodFound? y.cls y.name y.desc = some mk := State.methodFound?_of_named hnamed hy
  have hcls : mk.cls = m2.cls := by
    have a := findClass_of_methodNamed hnamed
    have b := findClass_of_methodNamed q3
    rw [h0] at b
    exact Option.some.inj (a.symm.trans b)
  have hsel2 : selectMethod {} s.vm c2 mk = .method mk := selectMethod_private hmethM (Cond.privateMethod_at hpriv mk methM hnamed hmethM)
  simp only [Cond.before, Cond.holds, Cond.value, q1, hfound, hnamed, hsel2, hcls, hkP]
  simp
  exact hkPi
theorem sy_W_hts {s : State} {args : Array Value} (hts : ∀ w ∈ lw_tbl, w.before args s = true) : ∀ w ∈ sy_W, w.before args s = true := by
  intro w hw
  have h2 : ∀ v ∈ sy_W, v ∈ lw_tbl → v.before args s = true := fun v _ h => hts v h
  have t8 : (Cond.selects RX8 ⟨"SkyTurns$SeenRows", "tryRows", "(LSkyTurns$Sky;I)V"⟩ yX7_tryRows).before args s = true := hts _ (tk_4 _ (List.mem_of_getElem? (i := 178) rfl))
  have t9 : (Cond.selects RX9 ⟨"SkyTurns$ShiftRows", "tryRows", "(LSkyTurns$Sky;I)V"⟩ yX7_tryRows).before args s = true := hts _ (tk_3 _ (List.mem_of_getElem? (i := 231) rfl))
  have hy : ∀ y : MethodName, y.cls = RX7 → y.cls ≠ "java/lang/invoke/MethodHandle" ∧ y.cls ≠ "java/lang/invoke/VarHandle" := fun y h => by rw [h]; exact ⟨by decide +kernel, by decide +kernel⟩
  rcases List.mem_append.mp (List.mem_filter.mp hw).1 with h | h
  · simp only [sy_sels, List.mem_cons, List.not_mem_nil, or_false] at h
    rcases h with rfl | rfl | rfl | rfl
    · exact sy_sel_priv t8 rfl (hy _ rfl) (hts _ wp_yX7_goOn) (hts _ (tk_3 _ (List.mem_of_getElem? (i := 238) rfl)))
    · exact sy_sel_priv t8 rfl (hy _ rfl) (hts _ wp_yX7_standBehind) (hts _ (tk_4 _ (List.mem_of_getElem? (i := 24) rfl)))
    · exact sy_sel_priv t9 rfl (hy _ rfl) (hts _ wp_yX7_goOn) (hts _ (tk_3 _ (List.mem_of_getElem? (i := 238) rfl)))
    · exact sy_sel_priv t9 rfl (hy _ rfl) (hts _ wp_yX7_standBehind) (hts _ (tk_4 _ (List.mem_of_getElem? (i := 24) rfl)))
  · exact hts w h
end
section
/-! ===== the world: the graph of objects stands still, ints move: S k j is field or element j of cell k ===== -/
abbrev sy_St : Type := Nat → Nat → Int32
def sy_upA (S : sy_St) (k : Nat) (f : Nat → Int32) : sy_St := fun i => if i = k then f else S i
def sy_up (S : sy_St) (k j : Nat) (v : Int32) : sy_St := sy_upA S k (upd (S k) j v)
/-- how many cells, the kind of each, its length, its references -/
abbrev sy_GT : Type := Nat × (Nat → Nat) × (Nat → Nat) × (Nat → Nat → Option Nat)
abbrev sy_ET : Type := va_G × ClassId × ClassId × ClassId × (Nat → Nat) × sy_GT
def sy_D (E : sy_ET) : va_G := E.1
def sy_I (E : sy_ET) : ClassId := E.2.1
def sy_Z (E : sy_ET) : ClassId := E.2.2.1
def sy_Y (E : sy_ET) : ClassId := E.2.2.2.1
def sy_ad (E : sy_ET) : Nat → Nat := E.2.2.2.2.1
def sy_n (E : sy_ET) : Nat := E.2.2.2.2.2.1
def sy_k (E : sy_ET) : Nat → Nat := E.2.2.2.2.2.2.1
def sy_l (E : sy_ET) : Nat → Nat := E.2.2.2.2.2.2.2.1
def sy_r (E : sy_ET) : Nat → Nat → Option Nat := E.2.2.2.2.2.2.2.2
def sy_rv (E : sy_ET) (k j : Nat) : Value := va_rf ((sy_r E k j).map (sy_ad E))
def sy_f0 (E : sy_ET) (k : Nat) (f : Nat → Int32) : List Value := [sy_rv E k 0, sy_rv E k 1, sy_rv E k 2, .int (f 3)]
def sy_f1 (E : sy_ET) (k : Nat) (f : Nat → Int32) : List Value := [sy_rv E k 0, sy_rv E k 1, sy_rv E k 2, sy_rv E k 3, sy_rv E k 4, .int (f 5)]
def sy_f2 (E : sy_ET) (k : Nat) (f : Nat → Int32) : List Value := [sy_rv E k 0, sy_rv E k 1, sy_rv E k 2]
def sy_f3 (E : sy_ET) (k : Nat) (f : Nat → Int32) : List Value := [sy_rv E k 0, sy_rv E k 1, sy_rv E k 2, sy_rv E k 3, sy_rv E k 4, sy_rv E k 5, sy_rv E k 6, .int (f 7), .int (f 8), .int (f 9)]
def sy_f4 (E : sy_ET) (k : Nat) (f : Nat → Int32) : List Value := [.int (f 0), .int (f 1), .int (f 2), .int (f 3), .int (f 4), .int (f 5), .int (f 6), .int (f 7)]
def sy_f5 (E : sy_ET) (k : Nat) (f : Nat → Int32) : List Value := [sy_rv E k 0, .int (f 1), .int (f 2)]
def sy_f6 (E : sy_ET) (k : Nat) (f : Nat → Int32) : List Value := [sy_rv E k 0, sy_rv E k 1, .int (f 2), .int (f 3), .int (f 4), .int (f 5), .int (f 6), .int (f 7), .int (f 8)]
def sy_f7 (E : sy_ET) (k : Nat) (f : Nat → Int32) : List Value := [sy_rv E k 0, sy_rv E k 1, sy_rv E k 2, sy_rv E k 3, .int (f 4), sy_rv E k 5, sy_rv E k 6, .int (f 7), .int (f 8), .int (f 9)]
def sy_f8 (E : sy_ET) (k : Nat) (f : Nat → Int32) : List Value := [sy_rv E k 0, sy_rv E k 1, sy_rv E k 2, sy_rv E k 3, .int (f 4), sy_rv E k 5, .int (f 6), .int (f 7), .int (f 8)]
def sy_f9 (E : sy_ET) (k : Nat) (f : Nat → Int32) : List Value := [sy_rv E k 0, sy_rv E k 1, sy_rv E k 2, sy_rv E k 3, sy_rv E k 4, .int (f 5), .int (f 6), .int (f 7), .int (f 8), .int (f 9), .int (f 10)]
def sy_f10 (E : sy_ET) (k : Nat) (f : Nat → Int32) : List Value := [sy_rv E k 0, sy_rv E k 1, sy_rv E k 2, sy_rv E k 3, sy_rv E k 4, sy_rv E k 5, sy_rv E k 6, sy_rv E k 7, sy_rv E k 8, sy_rv E k 9, sy_rv E k 10, sy_rv E k 11, sy_rv E k 12, sy_rv E k 13, .int (f 14), .int (f 15)]
def sy_f11 (E : sy_ET) (k : Nat) (f : Nat → Int32) : List Value := [.int (f 0), sy_rv E k 1, .int (f 2), .int (f 3), .int (f 4), .int (f 5), .int (f 6), .int (f 7), .int (f 8), sy_rv E k 9, .int (f 10), sy_rv E k 11, sy_rv E k 12, .int (f 13), .int (f 14), .int (f 15), .int (f 16), .int (f 17), sy_rv E k 18, .int (f 19), sy_rv E k 20, sy_rv E k 21, sy_rv E k 22, sy_rv E k 23, sy_rv E k 24, sy_rv E k 25, .int (f 26), sy_rv E k 27, .int (f 28), sy_rv E k 29, .int (f 30), sy_rv E k 31, sy_rv E k 32, sy_rv E k 33, sy_rv E k 34]
def sy_en (E : sy_ET) (k : Nat) (f : Nat → Int32) : va_E := match sy_k E k with
  | 0 => .inr (0, sy_f0 E k f)
  | 1 => .inr (1, sy_f1 E k f)
  | 2 => .inr (2, sy_f2 E k f)
  | 3 => .inr (3, sy_f3 E k f)
  | 4 => .inr (4, sy_f4 E k f)
  | 5 => .inr (5, sy_f5 E k f)
  | 6 => .inr (6, sy_f6 E k f)
  | 7 => .inr (7, sy_f7 E k f)
  | 8 => .inr (8, sy_f8 E k f)
  | 9 => .inr (9, sy_f9 E k f)
  | 10 => .inr (10, sy_f10 E k f)
  | 11 => .inr (11, sy_f11 E k f)
  | 12 => .inl (sy_I E, sy_l E k, .inl f)
  | 13 => .inl (sy_Z E, sy_l E k, .inl f)
  | _ => .inl (sy_Y E, sy_l E k, .inr (.inr (.inr (.inr (fun j => (sy_r E k j).map (sy_ad E))))))
theorem sy_en0 {E : sy_ET} {k : Nat} {f : Nat → Int32} (h : sy_k E k = 0) : sy_en E k f = .inr (0, sy_f0 E k f) := by simp only [sy_en, h]
theorem sy_en1 {E : sy_ET} {k : Nat} {f : Nat → Int32} (h : sy_k E k = 1) : sy_en E k f = .inr (1, sy_f1 E k f) := by simp only [sy_en, h]
theorem sy_en2 {E : sy_ET} {k : Nat} {f : Nat → Int32} (h : sy_k E k = 2) : sy_en E k f = .inr (2, sy_f2 E k f) := by simp only [sy_en, h]
theorem sy_en3 {E : sy_ET} {k : Nat} {f : Nat → Int32} (h : sy_k E k = 3) : sy_en E k f = .inr (3, sy_f3 E k f) := by simp only [sy_en, h]
theorem sy_en4 {E : sy_ET} {k : Nat} {f : Nat → Int32} (h : sy_k E k = 4) : sy_en E k f = .inr (4, sy_f4 E k f) := by simp only [sy_en, h]
theorem sy_en5 {E : sy_ET} {k : Nat} {f : Nat → Int32} (h : sy_k E k = 5) : sy_en E k f = .inr (5, sy_f5 E k f) := by simp only [sy_en, h]
theorem sy_en6 {E : sy_ET} {k : Nat} {f : Nat → Int32} (h : sy_k E k = 6) : sy_en E k f = .inr (6, sy_f6 E k f) := by simp only [sy_en, h]
theorem sy_en7 {E : sy_ET} {k : Nat} {f : Nat → Int32} (h : sy_k E k = 7) : sy_en E k f = .inr (7, sy_f7 E k f) := by simp only [sy_en, h]
theorem sy_en8 {E : sy_ET} {k : Nat} {f : Nat → Int32} (h : sy_k E k = 8) : sy_en E k f = .inr (8, sy_f8 E k f) := by simp only [sy_en, h]
theorem sy_en9 {E : sy_ET} {k : Nat} {f : Nat → Int32} (h : sy_k E k = 9) : sy_en E k f = .inr (9, sy_f9 E k f) := by simp only [sy_en, h]
theorem sy_en10 {E : sy_ET} {k : Nat} {f : Nat → Int32} (h : sy_k E k = 10) : sy_en E k f = .inr (10, sy_f10 E k f) := by simp only [sy_en, h]
theorem sy_en11 {E : sy_ET} {k : Nat} {f : Nat → Int32} (h : sy_k E k = 11) : sy_en E k f = .inr (11, sy_f11 E k f) := by simp only [sy_en, h]
theorem sy_en12 {E : sy_ET} {k : Nat} {f : Nat → Int32} (h : sy_k E k = 12) : sy_en E k f = .inl (sy_I E, sy_l E k, .inl f) := by simp only [sy_en, h]
theorem sy_en13 {E : sy_ET} {k : Nat} {f : Nat → Int32} (h : sy_k E k = 13) : sy_en E k f = .inl (sy_Z E, sy_l E k, .inl f) := by simp only [sy_en, h]
theorem sy_en14 {E : sy_ET} {k : Nat} {f : Nat → Int32} (h : sy_k E k = 14) : sy_en E k f = .inl (sy_Y E, sy_l E k, .inr (.inr (.inr (.inr (fun j => (sy_r E k j).map (sy_ad E)))))) := by simp only [sy_en, h]
def sy_wl (E : sy_ET) (S : sy_St) : va_W := (List.range (sy_n E)).map (fun k => (sy_ad E k, sy_en E k (S k)))
theorem sy_wl_at {E : sy_ET} {S : sy_St} {k : Nat} (hk : k < sy_n E) : (sy_wl E S)[k]? = some (sy_ad E k, sy_en E k (S k)) := by
  unfold sy_wl
  rw [List.getElem?_map, List.getElem?_range hk]
  rfl
theorem sy_wl_no {E : sy_ET} {S : sy_St} {k : Nat} (hk : ¬ k < sy_n E) : (sy_wl E S)[k]? = none := by
  apply List.getElem?_eq_none
  unfold sy_wl
  rw [List.length_map, List.length_range]
  omega
theorem sy_wl_set {E : sy_ET} {S : sy_St} {k : Nat} {f : Nat → Int32} : (sy_wl E S).set k (sy_ad E k, sy_en E k f) = sy_wl E (sy_upA S k f) := by
  apply List.ext_getElem?
  intro i
  rw [List.getElem?_set]
  by_cases hi : i < sy_n E
  · rw [sy_wl_at hi]
    by_cases hk : k = i
    · subst hk
      rw [if_pos rfl, sy_wl_at hi]
      simp [sy_upA]
      unfold sy_wl
      rw [List.length_map, List.length_range]
      exact hi
    · rw [if_neg hk, sy_wl_at hi]
      simp [sy_upA, Ne.symm hk]
  · rw [sy_wl_no hi]
    by_cases hk : k = i
    · subst hk
      rw [if_pos rfl]
      have : ¬ k < (sy_wl E S).length := by
        unfold sy_wl
        rw [List.length_map, List.length_range]
        exact hi
      simp [this]
    · rw [if_neg hk, sy_wl_no hi]
def sy_ty (E : sy_ET) : List (ClassId × FieldType) := [(sy_I E, .int), (sy_Z E, .boolean), (sy_Y E, .object "SkyTurns$Sky")]
def sy_Wd (E : sy_ET) (A : Nat → Prop) (s : State) (S : sy_St) (H : Heap) (locs : List Loc) : Prop :=
  va_K (sy_D E) vwCl (sy_ty E) s ∧ va_P (sy_D E) vwCl (sy_wl E S) H ∧ va_D A (sy_wl E S) ∧ va_S A s.heap H locs
/-- an int array, a boolean array, of that length -/
def sy_isI (E : sy_ET) (a n : Nat) : Prop := a < sy_n E ∧ sy_k E a = 12 ∧ sy_l E a = n
def sy_isZ (E : sy_ET) (a n : Nat) : Prop := a < sy_n E ∧ sy_k E a = 13 ∧ sy_l E a = n
def sy_isY (E : sy_ET) (a n : Nat) : Prop := a < sy_n E ∧ sy_k E a = 14 ∧ sy_l E a = n
def sy_isO (E : sy_ET) (ci k : Nat) : Prop := k < sy_n E ∧ sy_k E k = ci
/-! ===== contracts ===== -/
def sy_pre (E : sy_ET) (sz : Nat) (S : sy_St) : State → Prop := fun U => U.heap.size = sz ∧ va_P (sy_D E) vwCl (sy_wl E S) U.heap ∧ va_K (sy_D E) vwCl (sy_ty E) U ∧ va_D (fun _ => True) (sy_wl E S)
def sy_pos (E : sy_ET) (A : Nat → Prop) : sy_St → State → Prop := fun S t => va_P (sy_D E) vwCl (sy_wl E S) t.heap ∧ va_K (sy_D E) vwCl (sy_ty E) t ∧ va_D A (sy_wl E S)
abbrev sy_rm (f n : Nat) : Room := { frames := f, cells := 0, slots := 0, locals := n }
abbrev sy_ws (y : MethodName) (b : ByteArray) (n : Nat) (ret : Option FieldType) : List Cond := Cond.code y b n ret :: sy_W
abbrev sy_Qi (E : sy_ET) (A : Nat → Prop) (r : Int32) (S' : sy_St) : Array Value → State → Outcome → State → Prop := va_Qi (fun (r1 : Int32) (S1 : sy_St) => r1 = r ∧ S1 = S') (sy_pos E A) A
abbrev sy_Qv (E : sy_ET) (A : Nat → Prop) (S' : sy_St) : Array Value → State → Outcome → State → Prop := va_Qv (fun (S1 : sy_St) => S1 = S') (sy_pos E A) A
def sy_MI (l : Launch) (y : MethodName) (b : ByteArray) (n : Nat) (ret : Option FieldType) (f ln : Nat) (av : List Value) (E : sy_ET) (S : sy_St) (r : Int32) (S' : sy_St) : Prop :=
  ∀ sz : Nat, Met l y (sy_ws y b n ret) (sy_rm f ln) (va_Pc av (sy_pre E sz S)) (sy_Qi E (va_A (sy_wl E S) sz) r S') 0 0 (va_A (sy_wl E S) sz)
def sy_MV (l : Launch) (y : MethodName) (b : ByteArray) (n : Nat) (f ln : Nat) (av : List Value) (E : sy_ET) (S : sy_St) (S' : sy_St) : Prop :=
  ∀ sz : Nat, Met l y (sy_ws y b n none) (sy_rm f ln) (va_Pc av (sy_pre E sz S)) (sy_Qv E (va_A (sy_wl E S) sz) S') 0 0 (va_A (sy_wl E S) sz)
theorem sy_MI_of {l : Launch} {y : MethodName} {b : ByteArray} {n : Nat} {ret : Option FieldType} {f ln : Nat} {av : List Value} {E : sy_ET} {S : sy_St} {r : Int32} {S' : sy_St} (own : String) (hy : plainName y.cls = true) (ho : y.cls = own) (hn : (lg_sl av).length ≤ n)
    (k : ∀ (p : Program) (e : Env) (s : State) (m : MethodId) (args : Array Value) (below : List Frame) (meth : Method) (c : Code) (A : Nat → Prop) (ls : Array Slot), CallFix p m c b n s args sy_W own → meth.sig.returnType = ret → meth.locks = false → (∀ q, s.heap.size ≤ q → A q) → sy_Wd E A s S s.heap [] → lv_has ls n (lv_args 0 av) →
      W p l e (sy_rm f ln) s m args below meth c s.heap [] 0 0 (MQ below (sy_Qi E A r S') args s 0 0 A) (F0 m 0 ls [])) : sy_MI l y b n ret f ln av E S r S' := by
  intro sz
  refine Met.ofW (cc := b) (maxL := n) (ret := ret) hy rfl ?_
  intro p e s m args below meth c s₁ B hml hv
  obtain ⟨rfl, hsz, hP, hK, hD0⟩ := hv
  have hts := atoms_spec (ws := sy_ws y b n ret) B.pre
  have hown : s.vm.findClass own = some m.cls := by rw [← ho]; exact findClass_of_methodNamed B.named
  subst hsz
  have hD := hD0.self (sz := s.heap.size)
  rw [lg_entry_eq]
  exact k p e s m _ below meth c _ _ ⟨B.exec, B.bytes, hml, hown, fun w h => hts w (List.mem_cons_of_mem _ h)⟩ B.returns B.notSynchronized (fun q h => Or.inr h) ⟨hK, hP, hD, va_S.rf⟩ (lv_entry av hn)
theorem sy_MV_of {l : Launch} {y : MethodName} {b : ByteArray} {n : Nat} {f ln : Nat} {av : List Value} {E : sy_ET} {S : sy_St} {S' : sy_St} (own : String) (hy : plainName y.cls = true) (ho : y.cls = own) (hn : (lg_sl av).length ≤ n)
    (k : ∀ (p : Program) (e : Env) (s : State) (m : MethodId) (args : Array Value) (below : List Frame) (meth : Method) (c : Code) (A : Nat → Prop) (ls : Array Slot), CallFix p m c b n s args sy_W own → meth.sig.returnType = none → meth.locks = false → (∀ q, s.heap.size ≤ q → A q) → sy_Wd E A s S s.heap [] → lv_has ls n (lv_args 0 av) →
      W p l e (sy_rm f ln) s m args below meth c s.heap [] 0 0 (MQ below (sy_Qv E A S') args s 0 0 A) (F0 m 0 ls [])) : sy_MV l y b n f ln av E S S' := by
  intro sz
  refine Met.ofW (cc := b) (maxL := n) (ret := none) hy rfl ?_
  intro p e s m args below meth c s₁ B hml hv
  obtain ⟨rfl, hsz, hP, hK, hD0⟩ := hv
  have hts := atoms_spec (ws := sy_ws y b n none) B.pre
  have hown : s.vm.findClass own = some m.cls := by rw [← ho]; exact findClass_of_methodNamed B.named
  subst hsz
  have hD := hD0.self (sz := s.heap.size)
  rw [lg_entry_eq]
  exact k p e s m _ below meth c _ _ ⟨B.exec, B.bytes, hml, hown, fun w h => hts w (List.mem_cons_of_mem _ h)⟩ B.returns B.notSynchronized (fun q h => Or.inr h) ⟨hK, hP, hD, va_S.rf⟩ (lv_entry av hn)
/-! ===== the words of a pure program ===== -/
def sy_b {α β : Type} (v : α) (f : α → β) : β := f v
theorem sy_b_e {α β : Type} {v : α} {f : α → β} {r : β} (h : sy_b v f = r) : ∃ x, x = v ∧ f x = r := ⟨v, rfl, h⟩
def sy_g {β : Type} (c : Prop) [Decidable c] (k : Option β) : Option β := if c then k else none
theorem sy_g_e {β : Type} {c : Prop} [Decidable c] {k : Option β} {r : β} (h : sy_g c k = some r) : c ∧ k = some r := by
  unfold sy_g at h
  by_cases hc : c
  · rw [if_pos hc] at h; exact ⟨hc, h⟩
  · rw [if_neg hc] at h; cases h
theorem sy_t {α : Type} {c : Prop} [Decidable c] {a b r : α} (hc : c) (h : (if c then a else b) = r) : a = r := by rw [if_pos hc] at h; exact h
theorem sy_f {α : Type} {c : Prop} [Decidable c] {a b r : α} (hc : ¬ c) (h : (if c then a else b) = r) : b = r := by rw [if_neg hc] at h; exact h
abbrev sy_R : Type := Option (Int32 × sy_St)
def sy_c (o : sy_R) (f : Int32 → sy_St → sy_R) : sy_R := match o with
  | none => none
  | some x => f x.1 x.2
theorem sy_c_e {o : sy_R} {f : Int32 → sy_St → sy_R} {r : Int32 × sy_St} (h : sy_c o f = some r) : ∃ (x : Int32) (S : sy_St), o = some (x, S) ∧ f x S = some r := by
  cases o with
  | none => cases h
  | some q => exact ⟨q.1, q.2, rfl, h⟩
theorem sy_r_e {x r : Int32} {S S' : sy_St} (h : (some (x, S) : sy_R) = some (r, S')) : x = r ∧ S = S' := by cases h; exact ⟨rfl, rfl⟩
abbrev sy_in (i : Int32) (n : Nat) : Prop := ¬ (i < 0 ∨ n ≤ i.toNatClampNeg)

/-! ===== rows ===== -/
section SYR
variable {p : Program} {l : Launch} {e : Env} {R : Room} {s : State} {m : MethodId} {args : Array Value} {below : List Frame} {meth : Method} {c : Code} {H : Heap} {locs : List Loc} {cells slots : Nat} {Q : State → Prop}
variable {cc : ByteArray} {pc nL : Nat} {ls : Array Slot} {rest : List Value} {A : Nat → Prop} {E : sy_ET} {S : sy_St} {own : String}
theorem sy_top {x y : Int32} (hxy : y = x) (k : W p l e R s m args below meth c H locs cells slots Q (F0 m pc ls (.int y :: rest))) : W p l e R s m args below meth c H locs cells slots Q (F0 m pc ls (.int x :: rest)) := by rw [← hxy]; exact k
theorem sy_topl {x y : Int64} (hxy : y = x) (k : W p l e R s m args below meth c H locs cells slots Q (F0 m pc ls (.long y :: rest))) : W p l e R s m args below meth c H locs cells slots Q (F0 m pc ls (.long x :: rest)) := by rw [← hxy]; exact k
theorem sy_get (fx : CallFix p m c cc nL s args sy_W own) (X : sy_Wd E A s S H locs) {k ci : Nat} {C : String} {T : u_T} {N : Nat} {fs : List Value} (hk : k < sy_n E) (he : sy_en E k (S k) = .inr (ci, fs)) (hc : vwCl[ci]? = some (C, T, N)) (hin : ∀ w ∈ u_ws C T N, w ∈ sy_W) (j : Nat) (hj : j < N) {index : Nat} {ref : String} (hl : Cond.fieldLink own index ref (T j).2.1 (T j).2.2.1 ∈ sy_W) (hsame : ∀ x, s.fieldFound? (T j).1 (T j).2.1 (T j).2.2.1 = some x → s.fieldFound? ref (T j).2.1 (T j).2.2.1 = some x) {v : Value} (hv : fs[j]? = some v) (hdg : decode cc pc = .ok (.getfield index, 3))
    (kk : W p l e R s m args below meth c H locs cells slots Q (F0 m (pc + 3) ls (v :: rest))) : W p l e R s m args below meth c H locs cells slots Q (F0 m pc ls (.ref (sy_ad E k) :: rest)) := by
  obtain ⟨hx, hb, hml, hown, hts⟩ := fx
  obtain ⟨hK, hP, hD, hS⟩ := X
  exact va_get hx hb hts hin hown hK hP k (by rw [sy_wl_at hk, he]) hc j hj (hts _ hl) hsame hv hdg kk
theorem sy_put (fx : CallFix p m c cc nL s args sy_W own) (X : sy_Wd E A s S H locs) {k ci : Nat} {C : String} {T : u_T} {N : Nat} {fs : List Value} (hk : k < sy_n E) (he : sy_en E k (S k) = .inr (ci, fs)) (hc : vwCl[ci]? = some (C, T, N)) (hin : ∀ w ∈ u_ws C T N, w ∈ sy_W) (ty0 : Nat → FieldType) (hty : ∀ k, k < N → parseFieldDescriptor (T k).2.2.1 = some (ty0 k)) (hnm : ∀ a, a < N → ∀ b, b < N → a ≠ b → (T a).2.1 ≠ (T b).2.1) (j : Nat) (hj : j < N) {index : Nat} {ref : String} (hl : Cond.fieldLink own index ref (T j).2.1 (T j).2.2.1 ∈ sy_W) (hsame : ∀ x, s.fieldFound? (T j).1 (T j).2.1 (T j).2.2.1 = some x → s.fieldFound? ref (T j).2.1 (T j).2.2.1 = some x) (hfin : (T j).2.2.2 = false) {ty : FieldType} {v : Int32} (hd : parseFieldDescriptor (T j).2.2.1 = some ty) (hn : narrow ty (.int v) = .int v) (hfit : fits ty (.int v) = true) (hlen : j < fs.length)
    {S1 : sy_St} (hS1 : S1 = sy_up S k j v) (hset : (.inr (ci, fs.set j (.int v)) : va_E) = sy_en E k (upd (S k) j v)) (hdg : decode cc pc = .ok (.putfield index, 3))
    (kk : ∀ (H1 : Heap) (locs1 : List Loc), sy_Wd E A s S1 H1 locs1 → W p l e R s m args below meth c H1 locs1 cells slots Q (F0 m (pc + 3) ls rest)) : W p l e R s m args below meth c H locs cells slots Q (F0 m pc ls (.int v :: .ref (sy_ad E k) :: rest)) := by
  obtain ⟨hx, hb, hml, hown, hts⟩ := fx
  obtain ⟨hK, hP, hD, hS⟩ := X
  refine va_put hx hb hts hin ty0 hty hnm hown hK hP hD hS k (by rw [sy_wl_at hk, he]) hc j hj (hts _ hl) hsame hfin hd hn hfit hlen hdg (fun H1 locs1 hP1 hD1 hS1' => ?_)
  rw [hset, sy_wl_set] at hP1 hD1
  subst hS1
  exact kk H1 locs1 ⟨hK, hP1, hD1, hS1'⟩
theorem sy_iald (fx : CallFix p m c cc nL s args sy_W own) (X : sy_Wd E A s S H locs) {a n : Nat} (ha : sy_isI E a n) {i : Int32} (hin : sy_in i n) (hdg : decode cc pc = .ok (.iaload, 1))
    (kk : W p l e R s m args below meth c H locs cells slots Q (F0 m (pc + 1) ls (.int (S a i.toNatClampNeg) :: rest))) : W p l e R s m args below meth c H locs cells slots Q (F0 m pc ls (.int i :: .ref (sy_ad E a) :: rest)) := by
  obtain ⟨hx, hb, hml, hown, hts⟩ := fx
  obtain ⟨hK, hP, hD, hS⟩ := X
  obtain ⟨h1, h2, h3⟩ := ha
  exact va_iald hx hb hK hP a 0 (by rw [sy_wl_at h1, sy_en12 h2]) rfl (by rw [h3]; exact hin) hdg kk
theorem sy_iast (fx : CallFix p m c cc nL s args sy_W own) (X : sy_Wd E A s S H locs) {a n : Nat} (ha : sy_isI E a n) {i v : Int32} (hin : sy_in i n) {S1 : sy_St} (hS1 : S1 = sy_up S a i.toNatClampNeg v) (hdg : decode cc pc = .ok (.iastore, 1))
    (kk : ∀ (H1 : Heap) (locs1 : List Loc), sy_Wd E A s S1 H1 locs1 → W p l e R s m args below meth c H1 locs1 cells slots Q (F0 m (pc + 1) ls rest)) : W p l e R s m args below meth c H locs cells slots Q (F0 m pc ls (.int v :: .int i :: .ref (sy_ad E a) :: rest)) := by
  obtain ⟨hx, hb, hml, hown, hts⟩ := fx
  obtain ⟨hK, hP, hD, hS⟩ := X
  obtain ⟨h1, h2, h3⟩ := ha
  refine va_iast hx hb hK hP hD hS a 0 (by rw [sy_wl_at h1, sy_en12 h2]) rfl (by rw [h3]; exact hin) hdg (fun H1 locs1 hP1 hD1 hS1' => ?_)
  rw [← sy_en12 h2, sy_wl_set] at hP1 hD1
  subst hS1
  exact kk H1 locs1 ⟨hK, hP1, hD1, hS1'⟩
theorem sy_zald (fx : CallFix p m c cc nL s args sy_W own) (X : sy_Wd E A s S H locs) {a n : Nat} (ha : sy_isZ E a n) {i : Int32} (hin : sy_in i n) (hdg : decode cc pc = .ok (.baload, 1))
    (kk : W p l e R s m args below meth c H locs cells slots Q (F0 m (pc + 1) ls (.int (S a i.toNatClampNeg) :: rest))) : W p l e R s m args below meth c H locs cells slots Q (F0 m pc ls (.int i :: .ref (sy_ad E a) :: rest)) := by
  obtain ⟨hx, hb, hml, hown, hts⟩ := fx
  obtain ⟨hK, hP, hD, hS⟩ := X
  obtain ⟨h1, h2, h3⟩ := ha
  exact va_zald hx hb hK hP a 1 (by rw [sy_wl_at h1, sy_en13 h2]) rfl (by rw [h3]; exact hin) hdg kk
theorem sy_zast (fx : CallFix p m c cc nL s args sy_W own) (X : sy_Wd E A s S H locs) {a n : Nat} (ha : sy_isZ E a n) {i v : Int32} (hin : sy_in i n) {S1 : sy_St} (hS1 : S1 = sy_up S a i.toNatClampNeg (vp_nar .boolean v)) (hdg : decode cc pc = .ok (.bastore, 1))
    (kk : ∀ (H1 : Heap) (locs1 : List Loc), sy_Wd E A s S1 H1 locs1 → W p l e R s m args below meth c H1 locs1 cells slots Q (F0 m (pc + 1) ls rest)) : W p l e R s m args below meth c H locs cells slots Q (F0 m pc ls (.int v :: .int i :: .ref (sy_ad E a) :: rest)) := by
  obtain ⟨hx, hb, hml, hown, hts⟩ := fx
  obtain ⟨hK, hP, hD, hS⟩ := X
  obtain ⟨h1, h2, h3⟩ := ha
  refine va_zast hx hb hK hP hD hS a 1 (by rw [sy_wl_at h1, sy_en13 h2]) rfl (by rw [h3]; exact hin) hdg (fun H1 locs1 hP1 hD1 hS1' => ?_)
  rw [← sy_en13 h2, sy_wl_set] at hP1 hD1
  subst hS1
  exact kk H1 locs1 ⟨hK, hP1, hD1, hS1'⟩
theorem sy_aald (fx : CallFix p m c cc nL s args sy_W own) (X : sy_Wd E A s S H locs) {a n b : Nat} (ha : sy_isY E a n) {i : Int32} (hin : sy_in i n) (hr : sy_r E a i.toNatClampNeg = some b) (hdg : decode cc pc = .ok (.aaload, 1))
    (kk : W p l e R s m args below meth c H locs cells slots Q (F0 m (pc + 1) ls (.ref (sy_ad E b) :: rest))) : W p l e R s m args below meth c H locs cells slots Q (F0 m pc ls (.int i :: .ref (sy_ad E a) :: rest)) := by
  obtain ⟨hx, hb, hml, hown, hts⟩ := fx
  obtain ⟨hK, hP, hD, hS⟩ := X
  obtain ⟨h1, h2, h3⟩ := ha
  refine va_aldq hx hb hK hP a 2 (by rw [sy_wl_at h1, sy_en14 h2]) rfl (by rw [h3]; exact hin) hdg ?_
  rw [hr]
  exact kk
theorem sy_nar {f : Nat → Int32} {i : Nat} : fits .int (.int (f i)) = true := rfl
theorem sy_cpy (fx : CallFix p m c cc nL s args sy_W own) (X : sy_Wd E A s S H locs) (hsz : ls.size = nL) {a b n0 n1 : Nat} (ha : sy_isI E a n0) (hb1 : sy_isI E b n1) {index : Nat} {sp dp n : Int32} (hlink : Cond.methodLink own index arraycopyName ∈ sy_W) (hnat : Cond.native arraycopyName ∈ sy_W) (hstat : Cond.static arraycopyName ∈ sy_W) (hini : Cond.initialized "java/lang/System" ∈ sy_W)
    (h1 : ¬ sp < 0) (h2 : ¬ dp < 0) (h3 : ¬ n < 0) (h4 : sp.toNatClampNeg + n.toNatClampNeg ≤ n0) (h5 : dp.toNatClampNeg + n.toNatClampNeg ≤ n1) (hframes : 1 ≤ R.frames) (hlocals : (rest.map fun v => v.category).sum + (nativeFrameWords "java/lang/System" "arraycopy" 5 + 11) ≤ R.locals)
    {S1 : sy_St} (hS1 : S1 = sy_upA S b (va_cpy (S a) (S b) sp.toNatClampNeg dp.toNatClampNeg n.toNatClampNeg)) (hdg : decode cc pc = .ok (.invokestatic index, 3))
    (kk : ∀ (H1 : Heap) (locs1 : List Loc), sy_Wd E A s S1 H1 locs1 → W p l e R s m args below meth c H1 locs1 cells slots Q (F0 m (pc + 3) ls rest)) : W p l e R s m args below meth c H locs cells slots Q (F0 m pc ls (.int n :: .int dp :: .ref (sy_ad E b) :: .int sp :: .ref (sy_ad E a) :: rest)) := by
  obtain ⟨hx, hb, hml, hown, hts⟩ := fx
  obtain ⟨hK, hP, hD, hS⟩ := X
  obtain ⟨a1, a2, a3⟩ := ha
  obtain ⟨b1, b2, b3⟩ := hb1
  refine va_copyi (ty := .int) hx hb (hml.trans hsz.symm) hown (hts _ hlink) (hts _ hnat) (hts _ hstat) (hts _ hini) hK hP hD hS a b 0 0 (by rw [sy_wl_at a1, sy_en12 a2]) (by rw [sy_wl_at b1, sy_en12 b2]) rfl rfl rfl h1 h2 h3 (by rw [a3]; exact h4) (by rw [b3]; exact h5) (fun i _ => sy_nar) hframes hlocals hdg (fun H1 locs1 hP1 hD1 hS1' => ?_)
  rw [← sy_en12 b2, sy_wl_set] at hP1 hD1
  subst hS1
  exact kk H1 locs1 ⟨hK, hP1, hD1, hS1'⟩
theorem sy_blind {av : List Value} {sz : Nat} : FrameBlind (va_Pc av (sy_pre E sz S)) := fun a U g mk q => by
  obtain ⟨q0, q1, qP, qK, qD⟩ := q
  exact ⟨q0, q1, qP, va_K.moved (u := U) (U := U.calling g mk a) (Vm.Alike.refl U.vm) qK, qD⟩
theorem sy_freeA (hA : ∀ q, s.heap.size ≤ q → A q) (X : sy_Wd E A s S H locs) : ∀ q, va_A (sy_wl E S) H.size q → A q := fun q h => by
  obtain ⟨hK, hP, hD, hS⟩ := X
  rcases h with ⟨k, e, h⟩ | h
  · exact hD.2 k (q, e) h
  · exact hA q (Nat.le_trans hS.1 h)
theorem sy_preU (X : sy_Wd E A s S H locs) {U : State} (hU : U.heap = H) (hW : s.WarmedH U.vm) : sy_pre E H.size S U := by
  obtain ⟨hK, hP, hD, hS⟩ := X
  exact ⟨by rw [hU], by rw [hU]; exact hP, va_K.moved hW.alike hK, hD.weaken (fun _ _ _ _ => trivial)⟩
theorem sy_recv (X : sy_Wd E A s S H locs) {k ci : Nat} {q : vw_C} (hk : sy_isO E ci k) {fs : List Value} (he : sy_en E k (S k) = .inr (ci, fs)) (hc : vwCl[ci]? = some q) : ∃ cell : Cell, H[sy_ad E k]? = some cell ∧ cell.vm.isStatics = false ∧ s.vm.findClass q.1 = some cell.cls := by
  obtain ⟨hK, hP, hD, hS⟩ := X
  exact va_recv hK hP (ci := ci) (q0 := k) hc (by rw [sy_wl_at hk.1, he])
theorem sy_mem_good {w : Cond} (h : w ∈ sy_W) : (w.onTables && w.keeps) = true ∨ ∃ ty, w = .arrayClass ty := good_of_word (sy_W_good w h)
theorem sy_goodV {index : Nat} {C : String} {y : MethodName} {b : ByteArray} {n : Nat} {ret : Option FieldType} (m1 : Cond.methodLink own index y ∈ sy_W) (m2 : Cond.instanceMethod y ∈ sy_W) (m3 : Cond.selects C y y ∈ sy_W) (m4 : Cond.initialized C ∈ sy_W) (m5 : Cond.code y b n ret ∈ sy_W) : GoodIn sy_W (wsV own index C y (sy_ws y b n ret)) := by
  intro w hw
  have h : w ∈ sy_W := by
    unfold wsV at hw
    rcases List.mem_append.mp hw with h | h
    · simp only [List.mem_cons, List.not_mem_nil, or_false] at h
      rcases h with rfl | rfl | rfl | rfl
      · exact m1
      · exact m2
      · exact m3
      · exact m4
    · rcases List.mem_cons.mp h with rfl | h
      · exact m5
      · exact h
  exact ⟨h, sy_mem_good h⟩
theorem sy_goodS {index : Nat} {y : MethodName} {b : ByteArray} {n : Nat} {ret : Option FieldType} (m1 : Cond.methodLink own index y ∈ sy_W) (m2 : Cond.static y ∈ sy_W) (m4 : Cond.initialized own ∈ sy_W) (m5 : Cond.code y b n ret ∈ sy_W) : GoodIn sy_W (wsS own index y (sy_ws y b n ret)) := by
  intro w hw
  have h : w ∈ sy_W := by
    unfold wsS at hw
    rcases List.mem_append.mp hw with h | h
    · simp only [List.mem_cons, List.not_mem_nil, or_false] at h
      rcases h with rfl | rfl | rfl
      · exact m1
      · exact m2
      · exact m4
    · rcases List.mem_cons.mp h with rfl | h
      · exact m5
      · exact h
  exact ⟨h, sy_mem_good h⟩
/-- what a method brings to be called on an object, or as a static one -/
def sy_cV (C : String) (y : MethodName) (b : ByteArray) (n : Nat) (ret : Option FieldType) (nA : Nat) : Prop := Cond.instanceMethod y ∈ sy_W ∧ Cond.selects C y y ∈ sy_W ∧ Cond.initialized C ∈ sy_W ∧ Cond.code y b n ret ∈ sy_W ∧ (y.cls = C ∧ y.cls ≠ "java/lang/invoke/MethodHandle" ∧ y.cls ≠ "java/lang/invoke/VarHandle" ∧ (parseMethodDescriptor y.desc).map (fun d => d.parameters.length) = some nA)
def sy_cS (own : String) (y : MethodName) (b : ByteArray) (n : Nat) (ret : Option FieldType) (nA : Nat) : Prop := Cond.static y ∈ sy_W ∧ Cond.initialized own ∈ sy_W ∧ Cond.code y b n ret ∈ sy_W ∧ (y.cls = own ∧ y.cls ≠ "java/lang/invoke/MethodHandle" ∧ y.cls ≠ "java/lang/invoke/VarHandle" ∧ (parseMethodDescriptor y.desc).map (fun d => d.parameters.length) = some nA)
theorem sy_vi (fx : CallFix p m c cc nL s args sy_W own) (hA : ∀ q, s.heap.size ≤ q → A q) (X : sy_Wd E A s S H locs) (hsz : ls.size = nL) {k ci : Nat} {C : String} {T : u_T} {N : Nat} {fs : List Value} (hk : sy_isO E ci k) (he : sy_en E k (S k) = .inr (ci, fs)) (hc : vwCl[ci]? = some (C, T, N)) {y : MethodName} {b : ByteArray} {n : Nat} {ret : Option FieldType} {f ln : Nat} {As : List Value} {r : Int32} {S1 : sy_St} (hM : sy_MI l y b n ret f ln (.ref (sy_ad E k) :: As) E S r S1) {index nA : Nat} (hcv : sy_cV C y b n ret nA) (hlk : Cond.methodLink own index y ∈ sy_W) (hR : f + 1 ≤ R.frames ∧ 8 + (n + 11) + ln ≤ R.locals ∧ cells ≤ R.cells ∧ slots ≤ R.slots) (hn : As.length = nA) {st : List Value} (hst : st = As.reverse ++ .ref (sy_ad E k) :: rest) (hroom : (rest.map fun v => v.category).sum ≤ 8) (hdg : decode cc pc = .ok (.invokevirtual index, 3))
    (kk : ∀ (H1 : Heap) (locs1 : List Loc), sy_Wd E A s S1 H1 locs1 → W p l e R s m args below meth c H1 locs1 cells slots Q (F0 m (pc + 3) ls (.int r :: rest))) : W p l e R s m args below meth c H locs cells slots Q (F0 m pc ls st) := by
  subst hst
  have hF := sy_freeA hA X
  obtain ⟨m2, m3, m4, m5, hd⟩ := hcv
  refine va_calli (va_runV (rest := rest) fx (hM H.size) (cwV nA fx.2.2.2.2 (sy_goodV hlk m2 m3 m4 m5) rfl rfl rfl hd ⟨hR.1, hR.2.1⟩) ⟨sy_blind, sy_recv X hk he hc, fun U hU hW => ⟨rfl, sy_preU X hU hW⟩⟩ rfl hn hsz rfl (lv_room hroom) hdg hR.2.2) X.2.2.2 (fun q _ h => hF q h) hF (fun r1 u t H1 locs1 ht hvm hw hB hz1 hk1 hS1 => ?_)
  obtain ⟨rfl, rfl⟩ := hw
  obtain ⟨hP1, hK1, hD1⟩ := hB
  exact kk H1 locs1 ⟨X.1, by rw [← ht]; exact hP1, hD1.weaken (fun _ _ _ h => hF _ h), hS1⟩
theorem sy_vv (fx : CallFix p m c cc nL s args sy_W own) (hA : ∀ q, s.heap.size ≤ q → A q) (X : sy_Wd E A s S H locs) (hsz : ls.size = nL) {k ci : Nat} {C : String} {T : u_T} {N : Nat} {fs : List Value} (hk : sy_isO E ci k) (he : sy_en E k (S k) = .inr (ci, fs)) (hc : vwCl[ci]? = some (C, T, N)) {y : MethodName} {b : ByteArray} {n : Nat} {f ln : Nat} {As : List Value} {S1 : sy_St} (hM : sy_MV l y b n f ln (.ref (sy_ad E k) :: As) E S S1) {index nA : Nat} (hcv : sy_cV C y b n none nA) (hlk : Cond.methodLink own index y ∈ sy_W) (hR : f + 1 ≤ R.frames ∧ 8 + (n + 11) + ln ≤ R.locals ∧ cells ≤ R.cells ∧ slots ≤ R.slots) (hn : As.length = nA) {st : List Value} (hst : st = As.reverse ++ .ref (sy_ad E k) :: rest) (hroom : (rest.map fun v => v.category).sum ≤ 8) (hdg : decode cc pc = .ok (.invokevirtual index, 3))
    (kk : ∀ (H1 : Heap) (locs1 : List Loc), sy_Wd E A s S1 H1 locs1 → W p l e R s m args below meth c H1 locs1 cells slots Q (F0 m (pc + 3) ls rest)) : W p l e R s m args below meth c H locs cells slots Q (F0 m pc ls st) := by
  subst hst
  have hF := sy_freeA hA X
  obtain ⟨m2, m3, m4, m5, hd⟩ := hcv
  refine va_callv (va_runV (rest := rest) fx (hM H.size) (cwV nA fx.2.2.2.2 (sy_goodV hlk m2 m3 m4 m5) rfl rfl rfl hd ⟨hR.1, hR.2.1⟩) ⟨sy_blind, sy_recv X hk he hc, fun U hU hW => ⟨rfl, sy_preU X hU hW⟩⟩ rfl hn hsz rfl (lv_room hroom) hdg hR.2.2) X.2.2.2 (fun q _ h => hF q h) hF (fun u t H1 locs1 ht hvm hw hB hz1 hk1 hS1 => ?_)
  subst hw
  obtain ⟨hP1, hK1, hD1⟩ := hB
  exact kk H1 locs1 ⟨X.1, by rw [← ht]; exact hP1, hD1.weaken (fun _ _ _ h => hF _ h), hS1⟩
theorem sy_si (fx : CallFix p m c cc nL s args sy_W own) (hA : ∀ q, s.heap.size ≤ q → A q) (X : sy_Wd E A s S H locs) (hsz : ls.size = nL) {y : MethodName} {b : ByteArray} {n : Nat} {ret : Option FieldType} {f ln : Nat} {As : List Value} {r : Int32} {S1 : sy_St} (hM : sy_MI l y b n ret f ln As E S r S1) {index nA : Nat} (hcv : sy_cS own y b n ret nA) (hlk : Cond.methodLink own index y ∈ sy_W) (hR : f + 1 ≤ R.frames ∧ 8 + (n + 11) + ln ≤ R.locals ∧ cells ≤ R.cells ∧ slots ≤ R.slots) (hn : As.length = nA) {st : List Value} (hst : st = As.reverse ++ rest) (hroom : (rest.map fun v => v.category).sum ≤ 8) (hdg : decode cc pc = .ok (.invokestatic index, 3))
    (kk : ∀ (H1 : Heap) (locs1 : List Loc), sy_Wd E A s S1 H1 locs1 → W p l e R s m args below meth c H1 locs1 cells slots Q (F0 m (pc + 3) ls (.int r :: rest))) : W p l e R s m args below meth c H locs cells slots Q (F0 m pc ls st) := by
  subst hst
  have hF := sy_freeA hA X
  obtain ⟨m2, m4, m5, hd⟩ := hcv
  refine va_calli (va_runS (rest := rest) fx (hM H.size) (cwS nA fx.2.2.2.2 (sy_goodS hlk m2 m4 m5) rfl rfl rfl hd ⟨hR.1, hR.2.1⟩) ⟨sy_blind, fun U hU hW => ⟨rfl, sy_preU X hU hW⟩⟩ rfl hn hsz rfl (lv_room hroom) hdg hR.2.2) X.2.2.2 (fun q _ h => hF q h) hF (fun r1 u t H1 locs1 ht hvm hw hB hz1 hk1 hS1 => ?_)
  obtain ⟨rfl, rfl⟩ := hw
  obtain ⟨hP1, hK1, hD1⟩ := hB
  exact kk H1 locs1 ⟨X.1, by rw [← ht]; exact hP1, hD1.weaken (fun _ _ _ h => hF _ h), hS1⟩
theorem sy_sv (fx : CallFix p m c cc nL s args sy_W own) (hA : ∀ q, s.heap.size ≤ q → A q) (X : sy_Wd E A s S H locs) (hsz : ls.size = nL) {y : MethodName} {b : ByteArray} {n : Nat} {f ln : Nat} {As : List Value} {S1 : sy_St} (hM : sy_MV l y b n f ln As E S S1) {index nA : Nat} (hcv : sy_cS own y b n none nA) (hlk : Cond.methodLink own index y ∈ sy_W) (hR : f + 1 ≤ R.frames ∧ 8 + (n + 11) + ln ≤ R.locals ∧ cells ≤ R.cells ∧ slots ≤ R.slots) (hn : As.length = nA) {st : List Value} (hst : st = As.reverse ++ rest) (hroom : (rest.map fun v => v.category).sum ≤ 8) (hdg : decode cc pc = .ok (.invokestatic index, 3))
    (kk : ∀ (H1 : Heap) (locs1 : List Loc), sy_Wd E A s S1 H1 locs1 → W p l e R s m args below meth c H1 locs1 cells slots Q (F0 m (pc + 3) ls rest)) : W p l e R s m args below meth c H locs cells slots Q (F0 m pc ls st) := by
  subst hst
  have hF := sy_freeA hA X
  obtain ⟨m2, m4, m5, hd⟩ := hcv
  refine va_callv (va_runS (rest := rest) fx (hM H.size) (cwS nA fx.2.2.2.2 (sy_goodS hlk m2 m4 m5) rfl rfl rfl hd ⟨hR.1, hR.2.1⟩) ⟨sy_blind, fun U hU hW => ⟨rfl, sy_preU X hU hW⟩⟩ rfl hn hsz rfl (lv_room hroom) hdg hR.2.2) X.2.2.2 (fun q _ h => hF q h) hF (fun u t H1 locs1 ht hvm hw hB hz1 hk1 hS1 => ?_)
  subst hw
  obtain ⟨hP1, hK1, hD1⟩ := hB
  exact kk H1 locs1 ⟨X.1, by rw [← ht]; exact hP1, hD1.weaken (fun _ _ _ h => hF _ h), hS1⟩
/-- ends -/
theorem sy_iret (fx : CallFix p m c cc nL s args sy_W own) (X : sy_Wd E A s S H locs) (hr : meth.sig.returnType = some .int) (hlocks : meth.locks = false) {r v : Int32} {S' : sy_St} (h : (some (v, S) : sy_R) = some (r, S')) (hdg : decode cc pc = .ok (.ireturn, 1)) : W p l e R s m args below meth c H locs 0 0 (MQ below (sy_Qi E A r S') args s 0 0 A) (F0 m pc ls [.int v]) := by
  obtain ⟨rfl, rfl⟩ := sy_r_e h
  obtain ⟨hK, hP, hD, hS⟩ := X
  exact W.iret (v := v) fx.1 fx.2.1 hr (fun t ht hW => ⟨⟨v, S, rfl, ⟨rfl, rfl⟩, by rw [ht]; exact hP, va_K.moved hW.alike hK, hD⟩, hS.F ht⟩) hS.2.2 hdg hlocks
theorem sy_nb {v : Int32} (h : v = 0 ∨ v = 1) : narrow .boolean (.int v) = .int v := by rcases h with rfl | rfl <;> rfl
theorem sy_zret (fx : CallFix p m c cc nL s args sy_W own) (X : sy_Wd E A s S H locs) (hr : meth.sig.returnType = some .boolean) (hlocks : meth.locks = false) {r v : Int32} (hv : v = 0 ∨ v = 1) {S' : sy_St} (h : (some (v, S) : sy_R) = some (r, S')) (hdg : decode cc pc = .ok (.ireturn, 1)) : W p l e R s m args below meth c H locs 0 0 (MQ below (sy_Qi E A r S') args s 0 0 A) (F0 m pc ls [.int v]) := by
  obtain ⟨rfl, rfl⟩ := sy_r_e h
  obtain ⟨hK, hP, hD, hS⟩ := X
  exact W.zret (v := v) fx.1 fx.2.1 hr (sy_nb hv) (fun t ht hW => ⟨⟨v, S, rfl, ⟨rfl, rfl⟩, by rw [ht]; exact hP, va_K.moved hW.alike hK, hD⟩, hS.F ht⟩) hS.2.2 hdg hlocks
theorem sy_vret (fx : CallFix p m c cc nL s args sy_W own) (X : sy_Wd E A s S H locs) (hr : meth.sig.returnType = none) (hlocks : meth.locks = false) {v r : Int32} {S' : sy_St} (h : (some (v, S) : sy_R) = some (r, S')) (hdg : decode cc pc = .ok (.return_, 1)) : W p l e R s m args below meth c H locs 0 0 (MQ below (sy_Qv E A S') args s 0 0 A) (F0 m pc ls []) := by
  obtain ⟨rfl, rfl⟩ := sy_r_e h
  obtain ⟨hK, hP, hD, hS⟩ := X
  exact W.vret fx.1 fx.2.1 hr (fun t ht hW => ⟨⟨S, rfl, rfl, by rw [ht]; exact hP, va_K.moved hW.alike hK, hD⟩, hS.F ht⟩) hS.2.2 hdg hlocks

theorem sy_g0 (fx : CallFix p m c cc nL s args sy_W own) (X : sy_Wd E A s S H locs) {k : Nat} (hk : sy_isO E 0 k) (j : Nat) (hj : j < 4) {index : Nat} {ref : String} (hl : Cond.fieldLink own index ref (TX0 j).2.1 (TX0 j).2.2.1 ∈ sy_W) (hsame : ∀ x, s.fieldFound? (TX0 j).1 (TX0 j).2.1 (TX0 j).2.2.1 = some x → s.fieldFound? ref (TX0 j).2.1 (TX0 j).2.2.1 = some x) {v : Int32} (hv : (sy_f0 E k (S k))[j]? = some (.int v)) (hdg : decode cc pc = .ok (.getfield index, 3)) (kk : W p l e R s m args below meth c H locs cells slots Q (F0 m (pc + 3) ls (.int v :: rest))) : W p l e R s m args below meth c H locs cells slots Q (F0 m pc ls (.ref (sy_ad E k) :: rest)) := sy_get fx X hk.1 (sy_en0 hk.2) rfl inW0 j hj hl hsame hv hdg kk
theorem sy_q0 (fx : CallFix p m c cc nL s args sy_W own) (X : sy_Wd E A s S H locs) {k : Nat} (hk : sy_isO E 0 k) (j : Nat) (hj : j < 4) {index : Nat} {ref : String} (hl : Cond.fieldLink own index ref (TX0 j).2.1 (TX0 j).2.2.1 ∈ sy_W) (hsame : ∀ x, s.fieldFound? (TX0 j).1 (TX0 j).2.1 (TX0 j).2.2.1 = some x → s.fieldFound? ref (TX0 j).2.1 (TX0 j).2.2.1 = some x) (hv : (sy_f0 E k (S k))[j]? = some (sy_rv E k j)) {a : Nat} (hr : sy_r E k j = some a) (hdg : decode cc pc = .ok (.getfield index, 3)) (kk : W p l e R s m args below meth c H locs cells slots Q (F0 m (pc + 3) ls (.ref (sy_ad E a) :: rest))) : W p l e R s m args below meth c H locs cells slots Q (F0 m pc ls (.ref (sy_ad E k) :: rest)) := sy_get fx X hk.1 (sy_en0 hk.2) rfl inW0 j hj hl hsame hv hdg (by unfold sy_rv; rw [hr]; exact kk)
theorem sy_p0 (fx : CallFix p m c cc nL s args sy_W own) (X : sy_Wd E A s S H locs) {k : Nat} (hk : sy_isO E 0 k) (j : Nat) (hj : j < 4) {index : Nat} {ref : String} (hl : Cond.fieldLink own index ref (TX0 j).2.1 (TX0 j).2.2.1 ∈ sy_W) (hsame : ∀ x, s.fieldFound? (TX0 j).1 (TX0 j).2.1 (TX0 j).2.2.1 = some x → s.fieldFound? ref (TX0 j).2.1 (TX0 j).2.2.1 = some x) (hfin : (TX0 j).2.2.2 = false) {ty : FieldType} {v : Int32} (hd : parseFieldDescriptor (TX0 j).2.2.1 = some ty) (hn : narrow ty (.int v) = .int v) (hfit : fits ty (.int v) = true) {S1 : sy_St} (hS1 : S1 = sy_up S k j v) (hset : (sy_f0 E k (S k)).set j (.int v) = sy_f0 E k (upd (S k) j v)) (hdg : decode cc pc = .ok (.putfield index, 3)) (kk : ∀ (H1 : Heap) (locs1 : List Loc), sy_Wd E A s S1 H1 locs1 → W p l e R s m args below meth c H1 locs1 cells slots Q (F0 m (pc + 3) ls rest)) : W p l e R s m args below meth c H locs cells slots Q (F0 m pc ls (.int v :: .ref (sy_ad E k) :: rest)) := sy_put fx X hk.1 (sy_en0 hk.2) rfl inW0 tyX0 tyX0_ok nmX0 j hj hl hsame hfin hd hn hfit hj hS1 (by rw [hset, sy_en0 hk.2]) hdg kk
theorem sy_g1 (fx : CallFix p m c cc nL s args sy_W own) (X : sy_Wd E A s S H locs) {k : Nat} (hk : sy_isO E 1 k) (j : Nat) (hj : j < 6) {index : Nat} {ref : String} (hl : Cond.fieldLink own index ref (TX1 j).2.1 (TX1 j).2.2.1 ∈ sy_W) (hsame : ∀ x, s.fieldFound? (TX1 j).1 (TX1 j).2.1 (TX1 j).2.2.1 = some x → s.fieldFound? ref (TX1 j).2.1 (TX1 j).2.2.1 = some x) {v : Int32} (hv : (sy_f1 E k (S k))[j]? = some (.int v)) (hdg : decode cc pc = .ok (.getfield index, 3)) (kk : W p l e R s m args below meth c H locs cells slots Q (F0 m (pc + 3) ls (.int v :: rest))) : W p l e R s m args below meth c H locs cells slots Q (F0 m pc ls (.ref (sy_ad E k) :: rest)) := sy_get fx X hk.1 (sy_en1 hk.2) rfl inW1 j hj hl hsame hv hdg kk
theorem sy_q1 (fx : CallFix p m c cc nL s args sy_W own) (X : sy_Wd E A s S H locs) {k : Nat} (hk : sy_isO E 1 k) (j : Nat) (hj : j < 6) {index : Nat} {ref : String} (hl : Cond.fieldLink own index ref (TX1 j).2.1 (TX1 j).2.2.1 ∈ sy_W) (hsame : ∀ x, s.fieldFound? (TX1 j).1 (TX1 j).2.1 (TX1 j).2.2.1 = some x → s.fieldFound? ref (TX1 j).2.1 (TX1 j).2.2.1 = some x) (hv : (sy_f1 E k (S k))[j]? = some (sy_rv E k j)) {a : Nat} (hr : sy_r E k j = some a) (hdg : decode cc pc = .ok (.getfield index, 3)) (kk : W p l e R s m args below meth c H locs cells slots Q (F0 m (pc + 3) ls (.ref (sy_ad E a) :: rest))) : W p l e R s m args below meth c H locs cells slots Q (F0 m pc ls (.ref (sy_ad E k) :: rest)) := sy_get fx X hk.1 (sy_en1 hk.2) rfl inW1 j hj hl hsame hv hdg (by unfold sy_rv; rw [hr]; exact kk)
theorem sy_p1 (fx : CallFix p m c cc nL s args sy_W own) (X : sy_Wd E A s S H locs) {k : Nat} (hk : sy_isO E 1 k) (j : Nat) (hj : j < 6) {index : Nat} {ref : String} (hl : Cond.fieldLink own index ref (TX1 j).2.1 (TX1 j).2.2.1 ∈ sy_W) (hsame : ∀ x, s.fieldFound? (TX1 j).1 (TX1 j).2.1 (TX1 j).2.2.1 = some x → s.fieldFound? ref (TX1 j).2.1 (TX1 j).2.2.1 = some x) (hfin : (TX1 j).2.2.2 = false) {ty : FieldType} {v : Int32} (hd : parseFieldDescriptor (TX1 j).2.2.1 = some ty) (hn : narrow ty (.int v) = .int v) (hfit : fits ty (.int v) = true) {S1 : sy_St} (hS1 : S1 = sy_up S k j v) (hset : (sy_f1 E k (S k)).set j (.int v) = sy_f1 E k (upd (S k) j v)) (hdg : decode cc pc = .ok (.putfield index, 3)) (kk : ∀ (H1 : Heap) (locs1 : List Loc), sy_Wd E A s S1 H1 locs1 → W p l e R s m args below meth c H1 locs1 cells slots Q (F0 m (pc + 3) ls rest)) : W p l e R s m args below meth c H locs cells slots Q (F0 m pc ls (.int v :: .ref (sy_ad E k) :: rest)) := sy_put fx X hk.1 (sy_en1 hk.2) rfl inW1 tyX1 tyX1_ok nmX1 j hj hl hsame hfin hd hn hfit hj hS1 (by rw [hset, sy_en1 hk.2]) hdg kk
theorem sy_g2 (fx : CallFix p m c cc nL s args sy_W own) (X : sy_Wd E A s S H locs) {k : Nat} (hk : sy_isO E 2 k) (j : Nat) (hj : j < 3) {index : Nat} {ref : String} (hl : Cond.fieldLink own index ref (TX2 j).2.1 (TX2 j).2.2.1 ∈ sy_W) (hsame : ∀ x, s.fieldFound? (TX2 j).1 (TX2 j).2.1 (TX2 j).2.2.1 = some x → s.fieldFound? ref (TX2 j).2.1 (TX2 j).2.2.1 = some x) {v : Int32} (hv : (sy_f2 E k (S k))[j]? = some (.int v)) (hdg : decode cc pc = .ok (.getfield index, 3)) (kk : W p l e R s m args below meth c H locs cells slots Q (F0 m (pc + 3) ls (.int v :: rest))) : W p l e R s m args below meth c H locs cells slots Q (F0 m pc ls (.ref (sy_ad E k) :: rest)) := sy_get fx X hk.1 (sy_en2 hk.2) rfl inW2 j hj hl hsame hv hdg kk
theorem sy_q2 (fx : CallFix p m c cc nL s args sy_W own) (X : sy_Wd E A s S H locs) {k : Nat} (hk : sy_isO E 2 k) (j : Nat) (hj : j < 3) {index : Nat} {ref : String} (hl : Cond.fieldLink own index ref (TX2 j).2.1 (TX2 j).2.2.1 ∈ sy_W) (hsame : ∀ x, s.fieldFound? (TX2 j).1 (TX2 j).2.1 (TX2 j).2.2.1 = some x → s.fieldFound? ref (TX2 j).2.1 (TX2 j).2.2.1 = some x) (hv : (sy_f2 E k (S k))[j]? = some (sy_rv E k j)) {a : Nat} (hr : sy_r E k j = some a) (hdg : decode cc pc = .ok (.getfield index, 3)) (kk : W p l e R s m args below meth c H locs cells slots Q (F0 m (pc + 3) ls (.ref (sy_ad E a) :: rest))) : W p l e R s m args below meth c H locs cells slots Q (F0 m pc ls (.ref (sy_ad E k) :: rest)) := sy_get fx X hk.1 (sy_en2 hk.2) rfl inW2 j hj hl hsame hv hdg (by unfold sy_rv; rw [hr]; exact kk)
theorem sy_p2 (fx : CallFix p m c cc nL s args sy_W own) (X : sy_Wd E A s S H locs) {k : Nat} (hk : sy_isO E 2 k) (j : Nat) (hj : j < 3) {index : Nat} {ref : String} (hl : Cond.fieldLink own index ref (TX2 j).2.1 (TX2 j).2.2.1 ∈ sy_W) (hsame : ∀ x, s.fieldFound? (TX2 j).1 (TX2 j).2.1 (TX2 j).2.2.1 = some x → s.fieldFound? ref (TX2 j).2.1 (TX2 j).2.2.1 = some x) (hfin : (TX2 j).2.2.2 = false) {ty : FieldType} {v : Int32} (hd : parseFieldDescriptor (TX2 j).2.2.1 = some ty) (hn : narrow ty (.int v) = .int v) (hfit : fits ty (.int v) = true) {S1 : sy_St} (hS1 : S1 = sy_up S k j v) (hset : (sy_f2 E k (S k)).set j (.int v) = sy_f2 E k (upd (S k) j v)) (hdg : decode cc pc = .ok (.putfield index, 3)) (kk : ∀ (H1 : Heap) (locs1 : List Loc), sy_Wd E A s S1 H1 locs1 → W p l e R s m args below meth c H1 locs1 cells slots Q (F0 m (pc + 3) ls rest)) : W p l e R s m args below meth c H locs cells slots Q (F0 m pc ls (.int v :: .ref (sy_ad E k) :: rest)) := sy_put fx X hk.1 (sy_en2 hk.2) rfl inW2 tyX2 tyX2_ok nmX2 j hj hl hsame hfin hd hn hfit hj hS1 (by rw [hset, sy_en2 hk.2]) hdg kk
theorem sy_g3 (fx : CallFix p m c cc nL s args sy_W own) (X : sy_Wd E A s S H locs) {k : Nat} (hk : sy_isO E 3 k) (j : Nat) (hj : j < 10) {index : Nat} {ref : String} (hl : Cond.fieldLink own index ref (TX3 j).2.1 (TX3 j).2.2.1 ∈ sy_W) (hsame : ∀ x, s.fieldFound? (TX3 j).1 (TX3 j).2.1 (TX3 j).2.2.1 = some x → s.fieldFound? ref (TX3 j).2.1 (TX3 j).2.2.1 = some x) {v : Int32} (hv : (sy_f3 E k (S k))[j]? = some (.int v)) (hdg : decode cc pc = .ok (.getfield index, 3)) (kk : W p l e R s m args below meth c H locs cells slots Q (F0 m (pc + 3) ls (.int v :: rest))) : W p l e R s m args below meth c H locs cells slots Q (F0 m pc ls (.ref (sy_ad E k) :: rest)) := sy_get fx X hk.1 (sy_en3 hk.2) rfl inW3 j hj hl hsame hv hdg kk
theorem sy_q3 (fx : CallFix p m c cc nL s args sy_W own) (X : sy_Wd E A s S H locs) {k : Nat} (hk : sy_isO E 3 k) (j : Nat) (hj : j < 10) {index : Nat} {ref : String} (hl : Cond.fieldLink own index ref (TX3 j).2.1 (TX3 j).2.2.1 ∈ sy_W) (hsame : ∀ x, s.fieldFound? (TX3 j).1 (TX3 j).2.1 (TX3 j).2.2.1 = some x → s.fieldFound? ref (TX3 j).2.1 (TX3 j).2.2.1 = some x) (hv : (sy_f3 E k (S k))[j]? = some (sy_rv E k j)) {a : Nat} (hr : sy_r E k j = some a) (hdg : decode cc pc = .ok (.getfield index, 3)) (kk : W p l e R s m args below meth c H locs cells slots Q (F0 m (pc + 3) ls (.ref (sy_ad E a) :: rest))) : W p l e R s m args below meth c H locs cells slots Q (F0 m pc ls (.ref (sy_ad E k) :: rest)) := sy_get fx X hk.1 (sy_en3 hk.2) rfl inW3 j hj hl hsame hv hdg (by unfold sy_rv; rw [hr]; exact kk)
theorem sy_p3 (fx : CallFix p m c cc nL s args sy_W own) (X : sy_Wd E A s S H locs) {k : Nat} (hk : sy_isO E 3 k) (j : Nat) (hj : j < 10) {index : Nat} {ref : String} (hl : Cond.fieldLink own index ref (TX3 j).2.1 (TX3 j).2.2.1 ∈ sy_W) (hsame : ∀ x, s.fieldFound? (TX3 j).1 (TX3 j).2.1 (TX3 j).2.2.1 = some x → s.fieldFound? ref (TX3 j).2.1 (TX3 j).2.2.1 = some x) (hfin : (TX3 j).2.2.2 = false) {ty : FieldType} {v : Int32} (hd : parseFieldDescriptor (TX3 j).2.2.1 = some ty) (hn : narrow ty (.int v) = .int v) (hfit : fits ty (.int v) = true) {S1 : sy_St} (hS1 : S1 = sy_up S k j v) (hset : (sy_f3 E k (S k)).set j (.int v) = sy_f3 E k (upd (S k) j v)) (hdg : decode cc pc = .ok (.putfield index, 3)) (kk : ∀ (H1 : Heap) (locs1 : List Loc), sy_Wd E A s S1 H1 locs1 → W p l e R s m args below meth c H1 locs1 cells slots Q (F0 m (pc + 3) ls rest)) : W p l e R s m args below meth c H locs cells slots Q (F0 m pc ls (.int v :: .ref (sy_ad E k) :: rest)) := sy_put fx X hk.1 (sy_en3 hk.2) rfl inW3 tyX3 tyX3_ok nmX3 j hj hl hsame hfin hd hn hfit hj hS1 (by rw [hset, sy_en3 hk.2]) hdg kk
theorem sy_g4 (fx : CallFix p m c cc nL s args sy_W own) (X : sy_Wd E A s S H locs) {k : Nat} (hk : sy_isO E 4 k) (j : Nat) (hj : j < 8) {index : Nat} {ref : String} (hl : Cond.fieldLink own index ref (TX4 j).2.1 (TX4 j).2.2.1 ∈ sy_W) (hsame : ∀ x, s.fieldFound? (TX4 j).1 (TX4 j).2.1 (TX4 j).2.2.1 = some x → s.fieldFound? ref (TX4 j).2.1 (TX4 j).2.2.1 = some x) {v : Int32} (hv : (sy_f4 E k (S k))[j]? = some (.int v)) (hdg : decode cc pc = .ok (.getfield index, 3)) (kk : W p l e R s m args below meth c H locs cells slots Q (F0 m (pc + 3) ls (.int v :: rest))) : W p l e R s m args below meth c H locs cells slots Q (F0 m pc ls (.ref (sy_ad E k) :: rest)) := sy_get fx X hk.1 (sy_en4 hk.2) rfl inW4 j hj hl hsame hv hdg kk
theorem sy_q4 (fx : CallFix p m c cc nL s args sy_W own) (X : sy_Wd E A s S H locs) {k : Nat} (hk : sy_isO E 4 k) (j : Nat) (hj : j < 8) {index : Nat} {ref : String} (hl : Cond.fieldLink own index ref (TX4 j).2.1 (TX4 j).2.2.1 ∈ sy_W) (hsame : ∀ x, s.fieldFound? (TX4 j).1 (TX4 j).2.1 (TX4 j).2.2.1 = some x → s.fieldFound? ref (TX4 j).2.1 (TX4 j).2.2.1 = some x) (hv : (sy_f4 E k (S k))[j]? = some (sy_rv E k j)) {a : Nat} (hr : sy_r E k j = some a) (hdg : decode cc pc = .ok (.getfield index, 3)) (kk : W p l e R s m args below meth c H locs cells slots Q (F0 m (pc + 3) ls (.ref (sy_ad E a) :: rest))) : W p l e R s m args below meth c H locs cells slots Q (F0 m pc ls (.ref (sy_ad E k) :: rest)) := sy_get fx X hk.1 (sy_en4 hk.2) rfl inW4 j hj hl hsame hv hdg (by unfold sy_rv; rw [hr]; exact kk)
theorem sy_p4 (fx : CallFix p m c cc nL s args sy_W own) (X : sy_Wd E A s S H locs) {k : Nat} (hk : sy_isO E 4 k) (j : Nat) (hj : j < 8) {index : Nat} {ref : String} (hl : Cond.fieldLink own index ref (TX4 j).2.1 (TX4 j).2.2.1 ∈ sy_W) (hsame : ∀ x, s.fieldFound? (TX4 j).1 (TX4 j).2.1 (TX4 j).2.2.1 = some x → s.fieldFound? ref (TX4 j).2.1 (TX4 j).2.2.1 = some x) (hfin : (TX4 j).2.2.2 = false) {ty : FieldType} {v : Int32} (hd : parseFieldDescriptor (TX4 j).2.2.1 = some ty) (hn : narrow ty (.int v) = .int v) (hfit : fits ty (.int v) = true) {S1 : sy_St} (hS1 : S1 = sy_up S k j v) (hset : (sy_f4 E k (S k)).set j (.int v) = sy_f4 E k (upd (S k) j v)) (hdg : decode cc pc = .ok (.putfield index, 3)) (kk : ∀ (H1 : Heap) (locs1 : List Loc), sy_Wd E A s S1 H1 locs1 → W p l e R s m args below meth c H1 locs1 cells slots Q (F0 m (pc + 3) ls rest)) : W p l e R s m args below meth c H locs cells slots Q (F0 m pc ls (.int v :: .ref (sy_ad E k) :: rest)) := sy_put fx X hk.1 (sy_en4 hk.2) rfl inW4 tyX4 tyX4_ok nmX4 j hj hl hsame hfin hd hn hfit hj hS1 (by rw [hset, sy_en4 hk.2]) hdg kk
theorem sy_g5 (fx : CallFix p m c cc nL s args sy_W own) (X : sy_Wd E A s S H locs) {k : Nat} (hk : sy_isO E 5 k) (j : Nat) (hj : j < 3) {index : Nat} {ref : String} (hl : Cond.fieldLink own index ref (TX5 j).2.1 (TX5 j).2.2.1 ∈ sy_W) (hsame : ∀ x, s.fieldFound? (TX5 j).1 (TX5 j).2.1 (TX5 j).2.2.1 = some x → s.fieldFound? ref (TX5 j).2.1 (TX5 j).2.2.1 = some x) {v : Int32} (hv : (sy_f5 E k (S k))[j]? = some (.int v)) (hdg : decode cc pc = .ok (.getfield index, 3)) (kk : W p l e R s m args below meth c H locs cells slots Q (F0 m (pc + 3) ls (.int v :: rest))) : W p l e R s m args below meth c H locs cells slots Q (F0 m pc ls (.ref (sy_ad E k) :: rest)) := sy_get fx X hk.1 (sy_en5 hk.2) rfl inW5 j hj hl hsame hv hdg kk
theorem sy_q5 (fx : CallFix p m c cc nL s args sy_W own) (X : sy_Wd E A s S H locs) {k : Nat} (hk : sy_isO E 5 k) (j : Nat) (hj : j < 3) {index : Nat} {ref : String} (hl : Cond.fieldLink own index ref (TX5 j).2.1 (TX5 j).2.2.1 ∈ sy_W) (hsame : ∀ x, s.fieldFound? (TX5 j).1 (TX5 j).2.1 (TX5 j).2.2.1 = some x → s.fieldFound? ref (TX5 j).2.1 (TX5 j).2.2.1 = some x) (hv : (sy_f5 E k (S k))[j]? = some (sy_rv E k j)) {a : Nat} (hr : sy_r E k j = some a) (hdg : decode cc pc = .ok (.getfield index, 3)) (kk : W p l e R s m args below meth c H locs cells slots Q (F0 m (pc + 3) ls (.ref (sy_ad E a) :: rest))) : W p l e R s m args below meth c H locs cells slots Q (F0 m pc ls (.ref (sy_ad E k) :: rest)) := sy_get fx X hk.1 (sy_en5 hk.2) rfl inW5 j hj hl hsame hv hdg (by unfold sy_rv; rw [hr]; exact kk)
theorem sy_p5 (fx : CallFix p m c cc nL s args sy_W own) (X : sy_Wd E A s S H locs) {k : Nat} (hk : sy_isO E 5 k) (j : Nat) (hj : j < 3) {index : Nat} {ref : String} (hl : Cond.fieldLink own index ref (TX5 j).2.1 (TX5 j).2.2.1 ∈ sy_W) (hsame : ∀ x, s.fieldFound? (TX5 j).1 (TX5 j).2.1 (TX5 j).2.2.1 = some x → s.fieldFound? ref (TX5 j).2.1 (TX5 j).2.2.1 = some x) (hfin : (TX5 j).2.2.2 = false) {ty : FieldType} {v : Int32} (hd : parseFieldDescriptor (TX5 j).2.2.1 = some ty) (hn : narrow ty (.int v) = .int v) (hfit : fits ty (.int v) = true) {S1 : sy_St} (hS1 : S1 = sy_up S k j v) (hset : (sy_f5 E k (S k)).set j (.int v) = sy_f5 E k (upd (S k) j v)) (hdg : decode cc pc = .ok (.putfield index, 3)) (kk : ∀ (H1 : Heap) (locs1 : List Loc), sy_Wd E A s S1 H1 locs1 → W p l e R s m args below meth c H1 locs1 cells slots Q (F0 m (pc + 3) ls rest)) : W p l e R s m args below meth c H locs cells slots Q (F0 m pc ls (.int v :: .ref (sy_ad E k) :: rest)) := sy_put fx X hk.1 (sy_en5 hk.2) rfl inW5 tyX5 tyX5_ok nmX5 j hj hl hsame hfin hd hn hfit hj hS1 (by rw [hset, sy_en5 hk.2]) hdg kk
theorem sy_g6 (fx : CallFix p m c cc nL s args sy_W own) (X : sy_Wd E A s S H locs) {k : Nat} (hk : sy_isO E 6 k) (j : Nat) (hj : j < 9) {index : Nat} {ref : String} (hl : Cond.fieldLink own index ref (TX6 j).2.1 (TX6 j).2.2.1 ∈ sy_W) (hsame : ∀ x, s.fieldFound? (TX6 j).1 (TX6 j).2.1 (TX6 j).2.2.1 = some x → s.fieldFound? ref (TX6 j).2.1 (TX6 j).2.2.1 = some x) {v : Int32} (hv : (sy_f6 E k (S k))[j]? = some (.int v)) (hdg : decode cc pc = .ok (.getfield index, 3)) (kk : W p l e R s m args below meth c H locs cells slots Q (F0 m (pc + 3) ls (.int v :: rest))) : W p l e R s m args below meth c H locs cells slots Q (F0 m pc ls (.ref (sy_ad E k) :: rest)) := sy_get fx X hk.1 (sy_en6 hk.2) rfl inW6 j hj hl hsame hv hdg kk
theorem sy_q6 (fx : CallFix p m c cc nL s args sy_W own) (X : sy_Wd E A s S H locs) {k : Nat} (hk : sy_isO E 6 k) (j : Nat) (hj : j < 9) {index : Nat} {ref : String} (hl : Cond.fieldLink own index ref (TX6 j).2.1 (TX6 j).2.2.1 ∈ sy_W) (hsame : ∀ x, s.fieldFound? (TX6 j).1 (TX6 j).2.1 (TX6 j).2.2.1 = some x → s.fieldFound? ref (TX6 j).2.1 (TX6 j).2.2.1 = some x) (hv : (sy_f6 E k (S k))[j]? = some (sy_rv E k j)) {a : Nat} (hr : sy_r E k j = some a) (hdg : decode cc pc = .ok (.getfield index, 3)) (kk : W p l e R s m args below meth c H locs cells slots Q (F0 m (pc + 3) ls (.ref (sy_ad E a) :: rest))) : W p l e R s m args below meth c H locs cells slots Q (F0 m pc ls (.ref (sy_ad E k) :: rest)) := sy_get fx X hk.1 (sy_en6 hk.2) rfl inW6 j hj hl hsame hv hdg (by unfold sy_rv; rw [hr]; exact kk)
theorem sy_p6 (fx : CallFix p m c cc nL s args sy_W own) (X : sy_Wd E A s S H locs) {k : Nat} (hk : sy_isO E 6 k) (j : Nat) (hj : j < 9) {index : Nat} {ref : String} (hl : Cond.fieldLink own index ref (TX6 j).2.1 (TX6 j).2.2.1 ∈ sy_W) (hsame : ∀ x, s.fieldFound? (TX6 j).1 (TX6 j).2.1 (TX6 j).2.2.1 = some x → s.fieldFound? ref (TX6 j).2.1 (TX6 j).2.2.1 = some x) (hfin : (TX6 j).2.2.2 = false) {ty : FieldType} {v : Int32} (hd : parseFieldDescriptor (TX6 j).2.2.1 = some ty) (hn : narrow ty (.int v) = .int v) (hfit : fits ty (.int v) = true) {S1 : sy_St} (hS1 : S1 = sy_up S k j v) (hset : (sy_f6 E k (S k)).set j (.int v) = sy_f6 E k (upd (S k) j v)) (hdg : decode cc pc = .ok (.putfield index, 3)) (kk : ∀ (H1 : Heap) (locs1 : List Loc), sy_Wd E A s S1 H1 locs1 → W p l e R s m args below meth c H1 locs1 cells slots Q (F0 m (pc + 3) ls rest)) : W p l e R s m args below meth c H locs cells slots Q (F0 m pc ls (.int v :: .ref (sy_ad E k) :: rest)) := sy_put fx X hk.1 (sy_en6 hk.2) rfl inW6 tyX6 tyX6_ok nmX6 j hj hl hsame hfin hd hn hfit hj hS1 (by rw [hset, sy_en6 hk.2]) hdg kk
theorem sy_g7 (fx : CallFix p m c cc nL s args sy_W own) (X : sy_Wd E A s S H locs) {k : Nat} (hk : sy_isO E 7 k) (j : Nat) (hj : j < 10) {index : Nat} {ref : String} (hl : Cond.fieldLink own index ref (TX8 j).2.1 (TX8 j).2.2.1 ∈ sy_W) (hsame : ∀ x, s.fieldFound? (TX8 j).1 (TX8 j).2.1 (TX8 j).2.2.1 = some x → s.fieldFound? ref (TX8 j).2.1 (TX8 j).2.2.1 = some x) {v : Int32} (hv : (sy_f7 E k (S k))[j]? = some (.int v)) (hdg : decode cc pc = .ok (.getfield index, 3)) (kk : W p l e R s m args below meth c H locs cells slots Q (F0 m (pc + 3) ls (.int v :: rest))) : W p l e R s m args below meth c H locs cells slots Q (F0 m pc ls (.ref (sy_ad E k) :: rest)) := sy_get fx X hk.1 (sy_en7 hk.2) rfl inW8 j hj hl hsame hv hdg kk
theorem sy_q7 (fx : CallFix p m c cc nL s args sy_W own) (X : sy_Wd E A s S H locs) {k : Nat} (hk : sy_isO E 7 k) (j : Nat) (hj : j < 10) {index : Nat} {ref : String} (hl : Cond.fieldLink own index ref (TX8 j).2.1 (TX8 j).2.2.1 ∈ sy_W) (hsame : ∀ x, s.fieldFound? (TX8 j).1 (TX8 j).2.1 (TX8 j).2.2.1 = some x → s.fieldFound? ref (TX8 j).2.1 (TX8 j).2.2.1 = some x) (hv : (sy_f7 E k (S k))[j]? = some (sy_rv E k j)) {a : Nat} (hr : sy_r E k j = some a) (hdg : decode cc pc = .ok (.getfield index, 3)) (kk : W p l e R s m args below meth c H locs cells slots Q (F0 m (pc + 3) ls (.ref (sy_ad E a) :: rest))) : W p l e R s m args below meth c H locs cells slots Q (F0 m pc ls (.ref (sy_ad E k) :: rest)) := sy_get fx X hk.1 (sy_en7 hk.2) rfl inW8 j hj hl hsame hv hdg (by unfold sy_rv; rw [hr]; exact kk)
theorem sy_p7 (fx : CallFix p m c cc nL s args sy_W own) (X : sy_Wd E A s S H locs) {k : Nat} (hk : sy_isO E 7 k) (j : Nat) (hj : j < 10) {index : Nat} {ref : String} (hl : Cond.fieldLink own index ref (TX8 j).2.1 (TX8 j).2.2.1 ∈ sy_W) (hsame : ∀ x, s.fieldFound? (TX8 j).1 (TX8 j).2.1 (TX8 j).2.2.1 = some x → s.fieldFound? ref (TX8 j).2.1 (TX8 j).2.2.1 = some x) (hfin : (TX8 j).2.2.2 = false) {ty : FieldType} {v : Int32} (hd : parseFieldDescriptor (TX8 j).2.2.1 = some ty) (hn : narrow ty (.int v) = .int v) (hfit : fits ty (.int v) = true) {S1 : sy_St} (hS1 : S1 = sy_up S k j v) (hset : (sy_f7 E k (S k)).set j (.int v) = sy_f7 E k (upd (S k) j v)) (hdg : decode cc pc = .ok (.putfield index, 3)) (kk : ∀ (H1 : Heap) (locs1 : List Loc), sy_Wd E A s S1 H1 locs1 → W p l e R s m args below meth c H1 locs1 cells slots Q (F0 m (pc + 3) ls rest)) : W p l e R s m args below meth c H locs cells slots Q (F0 m pc ls (.int v :: .ref (sy_ad E k) :: rest)) := sy_put fx X hk.1 (sy_en7 hk.2) rfl inW8 tyX8 tyX8_ok nmX8 j hj hl hsame hfin hd hn hfit hj hS1 (by rw [hset, sy_en7 hk.2]) hdg kk
theorem sy_g8 (fx : CallFix p m c cc nL s args sy_W own) (X : sy_Wd E A s S H locs) {k : Nat} (hk : sy_isO E 8 k) (j : Nat) (hj : j < 9) {index : Nat} {ref : String} (hl : Cond.fieldLink own index ref (TX9 j).2.1 (TX9 j).2.2.1 ∈ sy_W) (hsame : ∀ x, s.fieldFound? (TX9 j).1 (TX9 j).2.1 (TX9 j).2.2.1 = some x → s.fieldFound? ref (TX9 j).2.1 (TX9 j).2.2.1 = some x) {v : Int32} (hv : (sy_f8 E k (S k))[j]? = some (.int v)) (hdg : decode cc pc = .ok (.getfield index, 3)) (kk : W p l e R s m args below meth c H locs cells slots Q (F0 m (pc + 3) ls (.int v :: rest))) : W p l e R s m args below meth c H locs cells slots Q (F0 m pc ls (.ref (sy_ad E k) :: rest)) := sy_get fx X hk.1 (sy_en8 hk.2) rfl inW9 j hj hl hsame hv hdg kk
theorem sy_q8 (fx : CallFix p m c cc nL s args sy_W own) (X : sy_Wd E A s S H locs) {k : Nat} (hk : sy_isO E 8 k) (j : Nat) (hj : j < 9) {index : Nat} {ref : String} (hl : Cond.fieldLink own index ref (TX9 j).2.1 (TX9 j).2.2.1 ∈ sy_W) (hsame : ∀ x, s.fieldFound? (TX9 j).1 (TX9 j).2.1 (TX9 j).2.2.1 = some x → s.fieldFound? ref (TX9 j).2.1 (TX9 j).2.2.1 = some x) (hv : (sy_f8 E k (S k))[j]? = some (sy_rv E k j)) {a : Nat} (hr : sy_r E k j = some a) (hdg : decode cc pc = .ok (.getfield index, 3)) (kk : W p l e R s m args below meth c H locs cells slots Q (F0 m (pc + 3) ls (.ref (sy_ad E a) :: rest))) : W p l e R s m args below meth c H locs cells slots Q (F0 m pc ls (.ref (sy_ad E k) :: rest)) := sy_get fx X hk.1 (sy_en8 hk.2) rfl inW9 j hj hl hsame hv hdg (by unfold sy_rv; rw [hr]; exact kk)
theorem sy_p8 (fx : CallFix p m c cc nL s args sy_W own) (X : sy_Wd E A s S H locs) {k : Nat} (hk : sy_isO E 8 k) (j : Nat) (hj : j < 9) {index : Nat} {ref : String} (hl : Cond.fieldLink own index ref (TX9 j).2.1 (TX9 j).2.2.1 ∈ sy_W) (hsame : ∀ x, s.fieldFound? (TX9 j).1 (TX9 j).2.1 (TX9 j).2.2.1 = some x → s.fieldFound? ref (TX9 j).2.1 (TX9 j).2.2.1 = some x) (hfin : (TX9 j).2.2.2 = false) {ty : FieldType} {v : Int32} (hd : parseFieldDescriptor (TX9 j).2.2.1 = some ty) (hn : narrow ty (.int v) = .int v) (hfit : fits ty (.int v) = true) {S1 : sy_St} (hS1 : S1 = sy_up S k j v) (hset : (sy_f8 E k (S k)).set j (.int v) = sy_f8 E k (upd (S k) j v)) (hdg : decode cc pc = .ok (.putfield index, 3)) (kk : ∀ (H1 : Heap) (locs1 : List Loc), sy_Wd E A s S1 H1 locs1 → W p l e R s m args below meth c H1 locs1 cells slots Q (F0 m (pc + 3) ls rest)) : W p l e R s m args below meth c H locs cells slots Q (F0 m pc ls (.int v :: .ref (sy_ad E k) :: rest)) := sy_put fx X hk.1 (sy_en8 hk.2) rfl inW9 tyX9 tyX9_ok nmX9 j hj hl hsame hfin hd hn hfit hj hS1 (by rw [hset, sy_en8 hk.2]) hdg kk
theorem sy_g9 (fx : CallFix p m c cc nL s args sy_W own) (X : sy_Wd E A s S H locs) {k : Nat} (hk : sy_isO E 9 k) (j : Nat) (hj : j < 11) {index : Nat} {ref : String} (hl : Cond.fieldLink own index ref (TX10 j).2.1 (TX10 j).2.2.1 ∈ sy_W) (hsame : ∀ x, s.fieldFound? (TX10 j).1 (TX10 j).2.1 (TX10 j).2.2.1 = some x → s.fieldFound? ref (TX10 j).2.1 (TX10 j).2.2.1 = some x) {v : Int32} (hv : (sy_f9 E k (S k))[j]? = some (.int v)) (hdg : decode cc pc = .ok (.getfield index, 3)) (kk : W p l e R s m args below meth c H locs cells slots Q (F0 m (pc + 3) ls (.int v :: rest))) : W p l e R s m args below meth c H locs cells slots Q (F0 m pc ls (.ref (sy_ad E k) :: rest)) := sy_get fx X hk.1 (sy_en9 hk.2) rfl inW10 j hj hl hsame hv hdg kk
theorem sy_q9 (fx : CallFix p m c cc nL s args sy_W own) (X : sy_Wd E A s S H locs) {k : Nat} (hk : sy_isO E 9 k) (j : Nat) (hj : j < 11) {index : Nat} {ref : String} (hl : Cond.fieldLink own index ref (TX10 j).2.1 (TX10 j).2.2.1 ∈ sy_W) (hsame : ∀ x, s.fieldFound? (TX10 j).1 (TX10 j).2.1 (TX10 j).2.2.1 = some x → s.fieldFound? ref (TX10 j).2.1 (TX10 j).2.2.1 = some x) (hv : (sy_f9 E k (S k))[j]? = some (sy_rv E k j)) {a : Nat} (hr : sy_r E k j = some a) (hdg : decode cc pc = .ok (.getfield index, 3)) (kk : W p l e R s m args below meth c H locs cells slots Q (F0 m (pc + 3) ls (.ref (sy_ad E a) :: rest))) : W p l e R s m args below meth c H locs cells slots Q (F0 m pc ls (.ref (sy_ad E k) :: rest)) := sy_get fx X hk.1 (sy_en9 hk.2) rfl inW10 j hj hl hsame hv hdg (by unfold sy_rv; rw [hr]; exact kk)
theorem sy_p9 (fx : CallFix p m c cc nL s args sy_W own) (X : sy_Wd E A s S H locs) {k : Nat} (hk : sy_isO E 9 k) (j : Nat) (hj : j < 11) {index : Nat} {ref : String} (hl : Cond.fieldLink own index ref (TX10 j).2.1 (TX10 j).2.2.1 ∈ sy_W) (hsame : ∀ x, s.fieldFound? (TX10 j).1 (TX10 j).2.1 (TX10 j).2.2.1 = some x → s.fieldFound? ref (TX10 j).2.1 (TX10 j).2.2.1 = some x) (hfin : (TX10 j).2.2.2 = false) {ty : FieldType} {v : Int32} (hd : parseFieldDescriptor (TX10 j).2.2.1 = some ty) (hn : narrow ty (.int v) = .int v) (hfit : fits ty (.int v) = true) {S1 : sy_St} (hS1 : S1 = sy_up S k j v) (hset : (sy_f9 E k (S k)).set j (.int v) = sy_f9 E k (upd (S k) j v)) (hdg : decode cc pc = .ok (.putfield index, 3)) (kk : ∀ (H1 : Heap) (locs1 : List Loc), sy_Wd E A s S1 H1 locs1 → W p l e R s m args below meth c H1 locs1 cells slots Q (F0 m (pc + 3) ls rest)) : W p l e R s m args below meth c H locs cells slots Q (F0 m pc ls (.int v :: .ref (sy_ad E k) :: rest)) := sy_put fx X hk.1 (sy_en9 hk.2) rfl inW10 tyX10 tyX10_ok nmX10 j hj hl hsame hfin hd hn hfit hj hS1 (by rw [hset, sy_en9 hk.2]) hdg kk
theorem sy_g10 (fx : CallFix p m c cc nL s args sy_W own) (X : sy_Wd E A s S H locs) {k : Nat} (hk : sy_isO E 10 k) (j : Nat) (hj : j < 16) {index : Nat} {ref : String} (hl : Cond.fieldLink own index ref (TX11 j).2.1 (TX11 j).2.2.1 ∈ sy_W) (hsame : ∀ x, s.fieldFound? (TX11 j).1 (TX11 j).2.1 (TX11 j).2.2.1 = some x → s.fieldFound? ref (TX11 j).2.1 (TX11 j).2.2.1 = some x) {v : Int32} (hv : (sy_f10 E k (S k))[j]? = some (.int v)) (hdg : decode cc pc = .ok (.getfield index, 3)) (kk : W p l e R s m args below meth c H locs cells slots Q (F0 m (pc + 3) ls (.int v :: rest))) : W p l e R s m args below meth c H locs cells slots Q (F0 m pc ls (.ref (sy_ad E k) :: rest)) := sy_get fx X hk.1 (sy_en10 hk.2) rfl inW11 j hj hl hsame hv hdg kk
theorem sy_q10 (fx : CallFix p m c cc nL s args sy_W own) (X : sy_Wd E A s S H locs) {k : Nat} (hk : sy_isO E 10 k) (j : Nat) (hj : j < 16) {index : Nat} {ref : String} (hl : Cond.fieldLink own index ref (TX11 j).2.1 (TX11 j).2.2.1 ∈ sy_W) (hsame : ∀ x, s.fieldFound? (TX11 j).1 (TX11 j).2.1 (TX11 j).2.2.1 = some x → s.fieldFound? ref (TX11 j).2.1 (TX11 j).2.2.1 = some x) (hv : (sy_f10 E k (S k))[j]? = some (sy_rv E k j)) {a : Nat} (hr : sy_r E k j = some a) (hdg : decode cc pc = .ok (.getfield index, 3)) (kk : W p l e R s m args below meth c H locs cells slots Q (F0 m (pc + 3) ls (.ref (sy_ad E a) :: rest))) : W p l e R s m args below meth c H locs cells slots Q (F0 m pc ls (.ref (sy_ad E k) :: rest)) := sy_get fx X hk.1 (sy_en10 hk.2) rfl inW11 j hj hl hsame hv hdg (by unfold sy_rv; rw [hr]; exact kk)
theorem sy_p10 (fx : CallFix p m c cc nL s args sy_W own) (X : sy_Wd E A s S H locs) {k : Nat} (hk : sy_isO E 10 k) (j : Nat) (hj : j < 16) {index : Nat} {ref : String} (hl : Cond.fieldLink own index ref (TX11 j).2.1 (TX11 j).2.2.1 ∈ sy_W) (hsame : ∀ x, s.fieldFound? (TX11 j).1 (TX11 j).2.1 (TX11 j).2.2.1 = some x → s.fieldFound? ref (TX11 j).2.1 (TX11 j).2.2.1 = some x) (hfin : (TX11 j).2.2.2 = false) {ty : FieldType} {v : Int32} (hd : parseFieldDescriptor (TX11 j).2.2.1 = some ty) (hn : narrow ty (.int v) = .int v) (hfit : fits ty (.int v) = true) {S1 : sy_St} (hS1 : S1 = sy_up S k j v) (hset : (sy_f10 E k (S k)).set j (.int v) = sy_f10 E k (upd (S k) j v)) (hdg : decode cc pc = .ok (.putfield index, 3)) (kk : ∀ (H1 : Heap) (locs1 : List Loc), sy_Wd E A s S1 H1 locs1 → W p l e R s m args below meth c H1 locs1 cells slots Q (F0 m (pc + 3) ls rest)) : W p l e R s m args below meth c H locs cells slots Q (F0 m pc ls (.int v :: .ref (sy_ad E k) :: rest)) := sy_put fx X hk.1 (sy_en10 hk.2) rfl inW11 tyX11 tyX11_ok nmX11 j hj hl hsame hfin hd hn hfit hj hS1 (by rw [hset, sy_en10 hk.2]) hdg kk
theorem sy_g11 (fx : CallFix p m c cc nL s args sy_W own) (X : sy_Wd E A s S H locs) {k : Nat} (hk : sy_isO E 11 k) (j : Nat) (hj : j < 35) {index : Nat} {ref : String} (hl : Cond.fieldLink own index ref (TX12 j).2.1 (TX12 j).2.2.1 ∈ sy_W) (hsame : ∀ x, s.fieldFound? (TX12 j).1 (TX12 j).2.1 (TX12 j).2.2.1 = some x → s.fieldFound? ref (TX12 j).2.1 (TX12 j).2.2.1 = some x) {v : Int32} (hv : (sy_f11 E k (S k))[j]? = some (.int v)) (hdg : decode cc pc = .ok (.getfield index, 3)) (kk : W p l e R s m args below meth c H locs cells slots Q (F0 m (pc + 3) ls (.int v :: rest))) : W p l e R s m args below meth c H locs cells slots Q (F0 m pc ls (.ref (sy_ad E k) :: rest)) := sy_get fx X hk.1 (sy_en11 hk.2) rfl inW12 j hj hl hsame hv hdg kk
theorem sy_q11 (fx : CallFix p m c cc nL s args sy_W own) (X : sy_Wd E A s S H locs) {k : Nat} (hk : sy_isO E 11 k) (j : Nat) (hj : j < 35) {index : Nat} {ref : String} (hl : Cond.fieldLink own index ref (TX12 j).2.1 (TX12 j).2.2.1 ∈ sy_W) (hsame : ∀ x, s.fieldFound? (TX12 j).1 (TX12 j).2.1 (TX12 j).2.2.1 = some x → s.fieldFound? ref (TX12 j).2.1 (TX12 j).2.2.1 = some x) (hv : (sy_f11 E k (S k))[j]? = some (sy_rv E k j)) {a : Nat} (hr : sy_r E k j = some a) (hdg : decode cc pc = .ok (.getfield index, 3)) (kk : W p l e R s m args below meth c H locs cells slots Q (F0 m (pc + 3) ls (.ref (sy_ad E a) :: rest))) : W p l e R s m args below meth c H locs cells slots Q (F0 m pc ls (.ref (sy_ad E k) :: rest)) := sy_get fx X hk.1 (sy_en11 hk.2) rfl inW12 j hj hl hsame hv hdg (by unfold sy_rv; rw [hr]; exact kk)
theorem sy_p11 (fx : CallFix p m c cc nL s args sy_W own) (X : sy_Wd E A s S H locs) {k : Nat} (hk : sy_isO E 11 k) (j : Nat) (hj : j < 35) {index : Nat} {ref : String} (hl : Cond.fieldLink own index ref (TX12 j).2.1 (TX12 j).2.2.1 ∈ sy_W) (hsame : ∀ x, s.fieldFound? (TX12 j).1 (TX12 j).2.1 (TX12 j).2.2.1 = some x → s.fieldFound? ref (TX12 j).2.1 (TX12 j).2.2.1 = some x) (hfin : (TX12 j).2.2.2 = false) {ty : FieldType} {v : Int32} (hd : parseFieldDescriptor (TX12 j).2.2.1 = some ty) (hn : narrow ty (.int v) = .int v) (hfit : fits ty (.int v) = true) {S1 : sy_St} (hS1 : S1 = sy_up S k j v) (hset : (sy_f11 E k (S k)).set j (.int v) = sy_f11 E k (upd (S k) j v)) (hdg : decode cc pc = .ok (.putfield index, 3)) (kk : ∀ (H1 : Heap) (locs1 : List Loc), sy_Wd E A s S1 H1 locs1 → W p l e R s m args below meth c H1 locs1 cells slots Q (F0 m (pc + 3) ls rest)) : W p l e R s m args below meth c H locs cells slots Q (F0 m pc ls (.int v :: .ref (sy_ad E k) :: rest)) := sy_put fx X hk.1 (sy_en11 hk.2) rfl inW12 tyX12 tyX12_ok nmX12 j hj hl hsame hfin hd hn hfit hj hS1 (by rw [hset, sy_en11 hk.2]) hdg kk
end SYR
theorem sy_s0_3 {E : sy_ET} {k : Nat} {f : Nat → Int32} {v : Int32} : (sy_f0 E k f).set 3 (.int v) = sy_f0 E k (upd f 3 v) := rfl
theorem sy_s1_5 {E : sy_ET} {k : Nat} {f : Nat → Int32} {v : Int32} : (sy_f1 E k f).set 5 (.int v) = sy_f1 E k (upd f 5 v) := rfl
theorem sy_s3_7 {E : sy_ET} {k : Nat} {f : Nat → Int32} {v : Int32} : (sy_f3 E k f).set 7 (.int v) = sy_f3 E k (upd f 7 v) := rfl
theorem sy_s3_8 {E : sy_ET} {k : Nat} {f : Nat → Int32} {v : Int32} : (sy_f3 E k f).set 8 (.int v) = sy_f3 E k (upd f 8 v) := rfl
theorem sy_s3_9 {E : sy_ET} {k : Nat} {f : Nat → Int32} {v : Int32} : (sy_f3 E k f).set 9 (.int v) = sy_f3 E k (upd f 9 v) := rfl
theorem sy_s4_0 {E : sy_ET} {k : Nat} {f : Nat → Int32} {v : Int32} : (sy_f4 E k f).set 0 (.int v) = sy_f4 E k (upd f 0 v) := rfl
theorem sy_s4_1 {E : sy_ET} {k : Nat} {f : Nat → Int32} {v : Int32} : (sy_f4 E k f).set 1 (.int v) = sy_f4 E k (upd f 1 v) := rfl
theorem sy_s4_2 {E : sy_ET} {k : Nat} {f : Nat → Int32} {v : Int32} : (sy_f4 E k f).set 2 (.int v) = sy_f4 E k (upd f 2 v) := rfl
theorem sy_s4_3 {E : sy_ET} {k : Nat} {f : Nat → Int32} {v : Int32} : (sy_f4 E k f).set 3 (.int v) = sy_f4 E k (upd f 3 v) := rfl
theorem sy_s4_4 {E : sy_ET} {k : Nat} {f : Nat → Int32} {v : Int32} : (sy_f4 E k f).set 4 (.int v) = sy_f4 E k (upd f 4 v) := rfl
theorem sy_s4_5 {E : sy_ET} {k : Nat} {f : Nat → Int32} {v : Int32} : (sy_f4 E k f).set 5 (.int v) = sy_f4 E k (upd f 5 v) := rfl
theorem sy_s4_6 {E : sy_ET} {k : Nat} {f : Nat → Int32} {v : Int32} : (sy_f4 E k f).set 6 (.int v) = sy_f4 E k (upd f 6 v) := rfl
theorem sy_s4_7 {E : sy_ET} {k : Nat} {f : Nat → Int32} {v : Int32} : (sy_f4 E k f).set 7 (.int v) = sy_f4 E k (upd f 7 v) := rfl
theorem sy_s5_1 {E : sy_ET} {k : Nat} {f : Nat → Int32} {v : Int32} : (sy_f5 E k f).set 1 (.int v) = sy_f5 E k (upd f 1 v) := rfl
theorem sy_s5_2 {E : sy_ET} {k : Nat} {f : Nat → Int32} {v : Int32} : (sy_f5 E k f).set 2 (.int v) = sy_f5 E k (upd f 2 v) := rfl
theorem sy_s6_2 {E : sy_ET} {k : Nat} {f : Nat → Int32} {v : Int32} : (sy_f6 E k f).set 2 (.int v) = sy_f6 E k (upd f 2 v) := rfl
theorem sy_s6_3 {E : sy_ET} {k : Nat} {f : Nat → Int32} {v : Int32} : (sy_f6 E k f).set 3 (.int v) = sy_f6 E k (upd f 3 v) := rfl
theorem sy_s6_4 {E : sy_ET} {k : Nat} {f : Nat → Int32} {v : Int32} : (sy_f6 E k f).set 4 (.int v) = sy_f6 E k (upd f 4 v) := rfl
theorem sy_s6_5 {E : sy_ET} {k : Nat} {f : Nat → Int32} {v : Int32} : (sy_f6 E k f).set 5 (.int v) = sy_f6 E k (upd f 5 v) := rfl
theorem sy_s6_6 {E : sy_ET} {k : Nat} {f : Nat → Int32} {v : Int32} : (sy_f6 E k f).set 6 (.int v) = sy_f6 E k (upd f 6 v) := rfl
theorem sy_s6_7 {E : sy_ET} {k : Nat} {f : Nat → Int32} {v : Int32} : (sy_f6 E k f).set 7 (.int v) = sy_f6 E k (upd f 7 v) := rfl
theorem sy_s6_8 {E : sy_ET} {k : Nat} {f : Nat → Int32} {v : Int32} : (sy_f6 E k f).set 8 (.int v) = sy_f6 E k (upd f 8 v) := rfl
theorem sy_s7_4 {E : sy_ET} {k : Nat} {f : Nat → Int32} {v : Int32} : (sy_f7 E k f).set 4 (.int v) = sy_f7 E k (upd f 4 v) := rfl
theorem sy_s7_7 {E : sy_ET} {k : Nat} {f : Nat → Int32} {v : Int32} : (sy_f7 E k f).set 7 (.int v) = sy_f7 E k (upd f 7 v) := rfl
theorem sy_s7_8 {E : sy_ET} {k : Nat} {f : Nat → Int32} {v : Int32} : (sy_f7 E k f).set 8 (.int v) = sy_f7 E k (upd f 8 v) := rfl
theorem sy_s7_9 {E : sy_ET} {k : Nat} {f : Nat → Int32} {v : Int32} : (sy_f7 E k f).set 9 (.int v) = sy_f7 E k (upd f 9 v) := rfl
theorem sy_s8_4 {E : sy_ET} {k : Nat} {f : Nat → Int32} {v : Int32} : (sy_f8 E k f).set 4 (.int v) = sy_f8 E k (upd f 4 v) := rfl
theorem sy_s8_6 {E : sy_ET} {k : Nat} {f : Nat → Int32} {v : Int32} : (sy_f8 E k f).set 6 (.int v) = sy_f8 E k (upd f 6 v) := rfl
theorem sy_s8_7 {E : sy_ET} {k : Nat} {f : Nat → Int32} {v : Int32} : (sy_f8 E k f).set 7 (.int v) = sy_f8 E k (upd f 7 v) := rfl
theorem sy_s8_8 {E : sy_ET} {k : Nat} {f : Nat → Int32} {v : Int32} : (sy_f8 E k f).set 8 (.int v) = sy_f8 E k (upd f 8 v) := rfl
theorem sy_s9_5 {E : sy_ET} {k : Nat} {f : Nat → Int32} {v : Int32} : (sy_f9 E k f).set 5 (.int v) = sy_f9 E k (upd f 5 v) := rfl
theorem sy_s9_6 {E : sy_ET} {k : Nat} {f : Nat → Int32} {v : Int32} : (sy_f9 E k f).set 6 (.int v) = sy_f9 E k (upd f 6 v) := rfl
theorem sy_s9_7 {E : sy_ET} {k : Nat} {f : Nat → Int32} {v : Int32} : (sy_f9 E k f).set 7 (.int v) = sy_f9 E k (upd f 7 v) := rfl
theorem sy_s9_8 {E : sy_ET} {k : Nat} {f : Nat → Int32} {v : Int32} : (sy_f9 E k f).set 8 (.int v) = sy_f9 E k (upd f 8 v) := rfl
theorem sy_s9_9 {E : sy_ET} {k : Nat} {f : Nat → Int32} {v : Int32} : (sy_f9 E k f).set 9 (.int v) = sy_f9 E k (upd f 9 v) := rfl
theorem sy_s9_10 {E : sy_ET} {k : Nat} {f : Nat → Int32} {v : Int32} : (sy_f9 E k f).set 10 (.int v) = sy_f9 E k (upd f 10 v) := rfl
theorem sy_s10_14 {E : sy_ET} {k : Nat} {f : Nat → Int32} {v : Int32} : (sy_f10 E k f).set 14 (.int v) = sy_f10 E k (upd f 14 v) := rfl
theorem sy_s10_15 {E : sy_ET} {k : Nat} {f : Nat → Int32} {v : Int32} : (sy_f10 E k f).set 15 (.int v) = sy_f10 E k (upd f 15 v) := rfl
theorem sy_s11_0 {E : sy_ET} {k : Nat} {f : Nat → Int32} {v : Int32} : (sy_f11 E k f).set 0 (.int v) = sy_f11 E k (upd f 0 v) := rfl
theorem sy_s11_2 {E : sy_ET} {k : Nat} {f : Nat → Int32} {v : Int32} : (sy_f11 E k f).set 2 (.int v) = sy_f11 E k (upd f 2 v) := rfl
theorem sy_s11_3 {E : sy_ET} {k : Nat} {f : Nat → Int32} {v : Int32} : (sy_f11 E k f).set 3 (.int v) = sy_f11 E k (upd f 3 v) := rfl
theorem sy_s11_4 {E : sy_ET} {k : Nat} {f : Nat → Int32} {v : Int32} : (sy_f11 E k f).set 4 (.int v) = sy_f11 E k (upd f 4 v) := rfl
theorem sy_s11_5 {E : sy_ET} {k : Nat} {f : Nat → Int32} {v : Int32} : (sy_f11 E k f).set 5 (.int v) = sy_f11 E k (upd f 5 v) := rfl
theorem sy_s11_6 {E : sy_ET} {k : Nat} {f : Nat → Int32} {v : Int32} : (sy_f11 E k f).set 6 (.int v) = sy_f11 E k (upd f 6 v) := rfl
theorem sy_s11_7 {E : sy_ET} {k : Nat} {f : Nat → Int32} {v : Int32} : (sy_f11 E k f).set 7 (.int v) = sy_f11 E k (upd f 7 v) := rfl
theorem sy_s11_8 {E : sy_ET} {k : Nat} {f : Nat → Int32} {v : Int32} : (sy_f11 E k f).set 8 (.int v) = sy_f11 E k (upd f 8 v) := rfl
theorem sy_s11_10 {E : sy_ET} {k : Nat} {f : Nat → Int32} {v : Int32} : (sy_f11 E k f).set 10 (.int v) = sy_f11 E k (upd f 10 v) := rfl
theorem sy_s11_13 {E : sy_ET} {k : Nat} {f : Nat → Int32} {v : Int32} : (sy_f11 E k f).set 13 (.int v) = sy_f11 E k (upd f 13 v) := rfl
theorem sy_s11_14 {E : sy_ET} {k : Nat} {f : Nat → Int32} {v : Int32} : (sy_f11 E k f).set 14 (.int v) = sy_f11 E k (upd f 14 v) := rfl
theorem sy_s11_15 {E : sy_ET} {k : Nat} {f : Nat → Int32} {v : Int32} : (sy_f11 E k f).set 15 (.int v) = sy_f11 E k (upd f 15 v) := rfl
theorem sy_s11_16 {E : sy_ET} {k : Nat} {f : Nat → Int32} {v : Int32} : (sy_f11 E k f).set 16 (.int v) = sy_f11 E k (upd f 16 v) := rfl
theorem sy_s11_17 {E : sy_ET} {k : Nat} {f : Nat → Int32} {v : Int32} : (sy_f11 E k f).set 17 (.int v) = sy_f11 E k (upd f 17 v) := rfl
theorem sy_s11_19 {E : sy_ET} {k : Nat} {f : Nat → Int32} {v : Int32} : (sy_f11 E k f).set 19 (.int v) = sy_f11 E k (upd f 19 v) := rfl
theorem sy_s11_26 {E : sy_ET} {k : Nat} {f : Nat → Int32} {v : Int32} : (sy_f11 E k f).set 26 (.int v) = sy_f11 E k (upd f 26 v) := rfl
theorem sy_s11_28 {E : sy_ET} {k : Nat} {f : Nat → Int32} {v : Int32} : (sy_f11 E k f).set 28 (.int v) = sy_f11 E k (upd f 28 v) := rfl
theorem sy_s11_30 {E : sy_ET} {k : Nat} {f : Nat → Int32} {v : Int32} : (sy_f11 E k f).set 30 (.int v) = sy_f11 E k (upd f 30 v) := rfl
end
section
theorem zz_last : True := trivial
end
