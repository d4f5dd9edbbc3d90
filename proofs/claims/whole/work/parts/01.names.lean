-- ===== PART A: goes FIRST, ahead of the names: the tables' words, and 'selects' of the private methods out of them =====
/-- a private method of a class that the tables say can be made, by its rows of tables_1 -/
def lw_okq (q : MethodName × Nat) : Prop := (q.1.cls ≠ "java/lang/invoke/MethodHandle" ∧ q.1.cls ≠ "java/lang/invoke/VarHandle") ∧ Cond.instantiable q.1.cls q.2 ∈ tables_1 ∧ Cond.privateMethod q.1 ∈ tables_1 ∧ Cond.instanceMethod q.1 ∈ tables_1
theorem lw_p0 : lw_okq (⟨"OneAnvil$Plan", "readClause", "(LOneAnvil$Tape;I)V"⟩, 14) := ⟨⟨by decide +kernel, by decide +kernel⟩, List.mem_of_getElem? (i := 56) (by decide +kernel), List.mem_of_getElem? (i := 549) (by decide +kernel), List.mem_of_getElem? (i := 550) (by decide +kernel)⟩
theorem lw_p1 : lw_okq (⟨"OneAnvil$Tape", "run", "(CC)I"⟩, 4) := ⟨⟨by decide +kernel, by decide +kernel⟩, List.mem_of_getElem? (i := 29) (by decide +kernel), List.mem_of_getElem? (i := 562) (by decide +kernel), List.mem_of_getElem? (i := 563) (by decide +kernel)⟩
theorem lw_p2 : lw_okq (⟨"OneAnvil$Plan", "readJob", "(LOneAnvil$Tape;)V"⟩, 14) := ⟨⟨by decide +kernel, by decide +kernel⟩, List.mem_of_getElem? (i := 56) (by decide +kernel), List.mem_of_getElem? (i := 628) (by decide +kernel), List.mem_of_getElem? (i := 629) (by decide +kernel)⟩
theorem lw_p3 : lw_okq (⟨"OneAnvil$Program", "readSum", "(LOneAnvil$Tape;)V"⟩, 8) := ⟨⟨by decide +kernel, by decide +kernel⟩, List.mem_of_getElem? (i := 447) (by decide +kernel), List.mem_of_getElem? (i := 659) (by decide +kernel), List.mem_of_getElem? (i := 660) (by decide +kernel)⟩
theorem lw_p4 : lw_okq (⟨"OneAnvil$Program", "readValue", "(LOneAnvil$Tape;)V"⟩, 8) := ⟨⟨by decide +kernel, by decide +kernel⟩, List.mem_of_getElem? (i := 447) (by decide +kernel), List.mem_of_getElem? (i := 663) (by decide +kernel), List.mem_of_getElem? (i := 664) (by decide +kernel)⟩
theorem lw_p5 : lw_okq (⟨"OneAnvil$Program", "put", "(I)V"⟩, 8) := ⟨⟨by decide +kernel, by decide +kernel⟩, List.mem_of_getElem? (i := 447) (by decide +kernel), List.mem_of_getElem? (i := 670) (by decide +kernel), List.mem_of_getElem? (i := 671) (by decide +kernel)⟩
theorem lw_p6 : lw_okq (⟨"OneAnvil$Program", "readTest", "(LOneAnvil$Tape;I)V"⟩, 8) := ⟨⟨by decide +kernel, by decide +kernel⟩, List.mem_of_getElem? (i := 447) (by decide +kernel), List.mem_of_getElem? (i := 678) (by decide +kernel), List.mem_of_getElem? (i := 679) (by decide +kernel)⟩
theorem lw_p7 : lw_okq (⟨"OneAnvil$Program", "readFact", "(LOneAnvil$Tape;I)V"⟩, 8) := ⟨⟨by decide +kernel, by decide +kernel⟩, List.mem_of_getElem? (i := 447) (by decide +kernel), List.mem_of_getElem? (i := 682) (by decide +kernel), List.mem_of_getElem? (i := 683) (by decide +kernel)⟩
theorem lw_p8 : lw_okq (⟨"OneAnvil$Program", "readSign", "(LOneAnvil$Tape;)I"⟩, 8) := ⟨⟨by decide +kernel, by decide +kernel⟩, List.mem_of_getElem? (i := 447) (by decide +kernel), List.mem_of_getElem? (i := 687) (by decide +kernel), List.mem_of_getElem? (i := 688) (by decide +kernel)⟩
theorem lw_p9 : lw_okq (⟨"OneAnvil", "hasSmith", "(I)Z"⟩, 15) := ⟨⟨by decide +kernel, by decide +kernel⟩, List.mem_of_getElem? (i := 21) (by decide +kernel), List.mem_of_getElem? (i := 700) (by decide +kernel), List.mem_of_getElem? (i := 701) (by decide +kernel)⟩
theorem lw_p10 : lw_okq (⟨"OneAnvil", "hasJob", "(I)Z"⟩, 15) := ⟨⟨by decide +kernel, by decide +kernel⟩, List.mem_of_getElem? (i := 21) (by decide +kernel), List.mem_of_getElem? (i := 720) (by decide +kernel), List.mem_of_getElem? (i := 721) (by decide +kernel)⟩
theorem lw_p11 : lw_okq (⟨"OneAnvil", "hasPart", "(I)Z"⟩, 15) := ⟨⟨by decide +kernel, by decide +kernel⟩, List.mem_of_getElem? (i := 21) (by decide +kernel), List.mem_of_getElem? (i := 728) (by decide +kernel), List.mem_of_getElem? (i := 729) (by decide +kernel)⟩
theorem lw_p12 : lw_okq (⟨"OneAnvil", "earnedByAll", "()I"⟩, 15) := ⟨⟨by decide +kernel, by decide +kernel⟩, List.mem_of_getElem? (i := 21) (by decide +kernel), List.mem_of_getElem? (i := 740) (by decide +kernel), List.mem_of_getElem? (i := 741) (by decide +kernel)⟩
theorem lw_p13 : lw_okq (⟨"OneAnvil", "splitBits", "()I"⟩, 15) := ⟨⟨by decide +kernel, by decide +kernel⟩, List.mem_of_getElem? (i := 21) (by decide +kernel), List.mem_of_getElem? (i := 744) (by decide +kernel), List.mem_of_getElem? (i := 745) (by decide +kernel)⟩
theorem lw_p14 : lw_okq (⟨"OneAnvil", "remember", "()V"⟩, 15) := ⟨⟨by decide +kernel, by decide +kernel⟩, List.mem_of_getElem? (i := 21) (by decide +kernel), List.mem_of_getElem? (i := 752) (by decide +kernel), List.mem_of_getElem? (i := 753) (by decide +kernel)⟩
theorem lw_p15 : lw_okq (⟨"OneAnvil", "ruleInForce", "()LOneAnvil$Program;"⟩, 15) := ⟨⟨by decide +kernel, by decide +kernel⟩, List.mem_of_getElem? (i := 21) (by decide +kernel), List.mem_of_getElem? (i := 763) (by decide +kernel), List.mem_of_getElem? (i := 764) (by decide +kernel)⟩
def lw_privs_1 : List (MethodName × Nat) := [(⟨"OneAnvil$Plan", "readClause", "(LOneAnvil$Tape;I)V"⟩, 14), (⟨"OneAnvil$Tape", "run", "(CC)I"⟩, 4), (⟨"OneAnvil$Plan", "readJob", "(LOneAnvil$Tape;)V"⟩, 14), (⟨"OneAnvil$Program", "readSum", "(LOneAnvil$Tape;)V"⟩, 8), (⟨"OneAnvil$Program", "readValue", "(LOneAnvil$Tape;)V"⟩, 8), (⟨"OneAnvil$Program", "put", "(I)V"⟩, 8), (⟨"OneAnvil$Program", "readTest", "(LOneAnvil$Tape;I)V"⟩, 8), (⟨"OneAnvil$Program", "readFact", "(LOneAnvil$Tape;I)V"⟩, 8), (⟨"OneAnvil$Program", "readSign", "(LOneAnvil$Tape;)I"⟩, 8), (⟨"OneAnvil", "hasSmith", "(I)Z"⟩, 15), (⟨"OneAnvil", "hasJob", "(I)Z"⟩, 15), (⟨"OneAnvil", "hasPart", "(I)Z"⟩, 15), (⟨"OneAnvil", "earnedByAll", "()I"⟩, 15), (⟨"OneAnvil", "splitBits", "()I"⟩, 15), (⟨"OneAnvil", "remember", "()V"⟩, 15), (⟨"OneAnvil", "ruleInForce", "()LOneAnvil$Program;"⟩, 15)]
theorem lw_r1 : ∀ q ∈ lw_privs_1, lw_okq q := List.forall_mem_cons.mpr ⟨lw_p0, List.forall_mem_cons.mpr ⟨lw_p1, List.forall_mem_cons.mpr ⟨lw_p2, List.forall_mem_cons.mpr ⟨lw_p3, List.forall_mem_cons.mpr ⟨lw_p4, List.forall_mem_cons.mpr ⟨lw_p5, List.forall_mem_cons.mpr ⟨lw_p6, List.forall_mem_cons.mpr ⟨lw_p7, List.forall_mem_cons.mpr ⟨lw_p8, List.forall_mem_cons.mpr ⟨lw_p9, List.forall_mem_cons.mpr ⟨lw_p10, List.forall_mem_cons.mpr ⟨lw_p11, List.forall_mem_cons.mpr ⟨lw_p12, List.forall_mem_cons.mpr ⟨lw_p13, List.forall_mem_cons.mpr ⟨lw_p14, List.forall_mem_cons.mpr ⟨lw_p15, fun _ h => absurd h List.not_mem_nil⟩⟩⟩⟩⟩⟩⟩⟩⟩⟩⟩⟩⟩⟩⟩⟩
theorem lw_p16 : lw_okq (⟨"OneAnvil$Forge", "isHot", "(LOneAnvil$State;I)Z"⟩, 14) := ⟨⟨by decide +kernel, by decide +kernel⟩, List.mem_of_getElem? (i := 258) (by decide +kernel), List.mem_of_getElem? (i := 784) (by decide +kernel), List.mem_of_getElem? (i := 785) (by decide +kernel)⟩
theorem lw_p17 : lw_okq (⟨"OneAnvil$Forge", "fillWords", "(LOneAnvil$State;I)V"⟩, 14) := ⟨⟨by decide +kernel, by decide +kernel⟩, List.mem_of_getElem? (i := 258) (by decide +kernel), List.mem_of_getElem? (i := 788) (by decide +kernel), List.mem_of_getElem? (i := 789) (by decide +kernel)⟩
theorem lw_p18 : lw_okq (⟨"OneAnvil$Forge", "rivals", "(I)I"⟩, 14) := ⟨⟨by decide +kernel, by decide +kernel⟩, List.mem_of_getElem? (i := 258) (by decide +kernel), List.mem_of_getElem? (i := 795) (by decide +kernel), List.mem_of_getElem? (i := 796) (by decide +kernel)⟩
theorem lw_p19 : lw_okq (⟨"OneAnvil$Program", "worked", "(II[J)J"⟩, 8) := ⟨⟨by decide +kernel, by decide +kernel⟩, List.mem_of_getElem? (i := 447) (by decide +kernel), List.mem_of_getElem? (i := 803) (by decide +kernel), List.mem_of_getElem? (i := 804) (by decide +kernel)⟩
theorem lw_p20 : lw_okq (⟨"OneAnvil$Forge", "heatUp", "(LOneAnvil$State;I)V"⟩, 14) := ⟨⟨by decide +kernel, by decide +kernel⟩, List.mem_of_getElem? (i := 258) (by decide +kernel), List.mem_of_getElem? (i := 811) (by decide +kernel), List.mem_of_getElem? (i := 812) (by decide +kernel)⟩
theorem lw_p21 : lw_okq (⟨"OneAnvil$Forge", "takes", "(LOneAnvil$State;I)Z"⟩, 14) := ⟨⟨by decide +kernel, by decide +kernel⟩, List.mem_of_getElem? (i := 258) (by decide +kernel), List.mem_of_getElem? (i := 815) (by decide +kernel), List.mem_of_getElem? (i := 816) (by decide +kernel)⟩
theorem lw_p22 : lw_okq (⟨"OneAnvil$Forge", "isFree", "(LOneAnvil$State;I)Z"⟩, 14) := ⟨⟨by decide +kernel, by decide +kernel⟩, List.mem_of_getElem? (i := 258) (by decide +kernel), List.mem_of_getElem? (i := 819) (by decide +kernel), List.mem_of_getElem? (i := 820) (by decide +kernel)⟩
theorem lw_p23 : lw_okq (⟨"OneAnvil$Forge", "strikeOnce", "(LOneAnvil$State;I)V"⟩, 14) := ⟨⟨by decide +kernel, by decide +kernel⟩, List.mem_of_getElem? (i := 258) (by decide +kernel), List.mem_of_getElem? (i := 823) (by decide +kernel), List.mem_of_getElem? (i := 824) (by decide +kernel)⟩
theorem lw_p24 : lw_okq (⟨"OneAnvil$Choices", "chooseSets", "(II)V"⟩, 10) := ⟨⟨by decide +kernel, by decide +kernel⟩, List.mem_of_getElem? (i := 348) (by decide +kernel), List.mem_of_getElem? (i := 894) (by decide +kernel), List.mem_of_getElem? (i := 895) (by decide +kernel)⟩
theorem lw_p25 : lw_okq (⟨"OneAnvil$Choices", "keepRow", "()V"⟩, 10) := ⟨⟨by decide +kernel, by decide +kernel⟩, List.mem_of_getElem? (i := 348) (by decide +kernel), List.mem_of_getElem? (i := 898) (by decide +kernel), List.mem_of_getElem? (i := 899) (by decide +kernel)⟩
theorem lw_p26 : lw_okq (⟨"OneAnvil$Choices", "workers", "(LOneAnvil$State;)I"⟩, 10) := ⟨⟨by decide +kernel, by decide +kernel⟩, List.mem_of_getElem? (i := 348) (by decide +kernel), List.mem_of_getElem? (i := 902) (by decide +kernel), List.mem_of_getElem? (i := 903) (by decide +kernel)⟩
theorem lw_p27 : lw_okq (⟨"OneAnvil$Wheel", "fillStrikes", "(LOneAnvil$State;)V"⟩, 6) := ⟨⟨by decide +kernel, by decide +kernel⟩, List.mem_of_getElem? (i := 387) (by decide +kernel), List.mem_of_getElem? (i := 918) (by decide +kernel), List.mem_of_getElem? (i := 919) (by decide +kernel)⟩
theorem lw_p28 : lw_okq (⟨"OneAnvil$Wheel", "setMark", "()V"⟩, 6) := ⟨⟨by decide +kernel, by decide +kernel⟩, List.mem_of_getElem? (i := 387) (by decide +kernel), List.mem_of_getElem? (i := 923) (by decide +kernel), List.mem_of_getElem? (i := 924) (by decide +kernel)⟩
theorem lw_p29 : lw_okq (⟨"OneAnvil$Wheel", "spinOnce", "()V"⟩, 6) := ⟨⟨by decide +kernel, by decide +kernel⟩, List.mem_of_getElem? (i := 387) (by decide +kernel), List.mem_of_getElem? (i := 928) (by decide +kernel), List.mem_of_getElem? (i := 929) (by decide +kernel)⟩
theorem lw_p30 : lw_okq (⟨"OneAnvil$Wheel", "isAtMark", "()Z"⟩, 6) := ⟨⟨by decide +kernel, by decide +kernel⟩, List.mem_of_getElem? (i := 387) (by decide +kernel), List.mem_of_getElem? (i := 935) (by decide +kernel), List.mem_of_getElem? (i := 936) (by decide +kernel)⟩
theorem lw_p31 : lw_okq (⟨"OneAnvil$Choices", "chooseBeside", "(IIII)V"⟩, 10) := ⟨⟨by decide +kernel, by decide +kernel⟩, List.mem_of_getElem? (i := 348) (by decide +kernel), List.mem_of_getElem? (i := 947) (by decide +kernel), List.mem_of_getElem? (i := 948) (by decide +kernel)⟩
def lw_privs_2 : List (MethodName × Nat) := [(⟨"OneAnvil$Forge", "isHot", "(LOneAnvil$State;I)Z"⟩, 14), (⟨"OneAnvil$Forge", "fillWords", "(LOneAnvil$State;I)V"⟩, 14), (⟨"OneAnvil$Forge", "rivals", "(I)I"⟩, 14), (⟨"OneAnvil$Program", "worked", "(II[J)J"⟩, 8), (⟨"OneAnvil$Forge", "heatUp", "(LOneAnvil$State;I)V"⟩, 14), (⟨"OneAnvil$Forge", "takes", "(LOneAnvil$State;I)Z"⟩, 14), (⟨"OneAnvil$Forge", "isFree", "(LOneAnvil$State;I)Z"⟩, 14), (⟨"OneAnvil$Forge", "strikeOnce", "(LOneAnvil$State;I)V"⟩, 14), (⟨"OneAnvil$Choices", "chooseSets", "(II)V"⟩, 10), (⟨"OneAnvil$Choices", "keepRow", "()V"⟩, 10), (⟨"OneAnvil$Choices", "workers", "(LOneAnvil$State;)I"⟩, 10), (⟨"OneAnvil$Wheel", "fillStrikes", "(LOneAnvil$State;)V"⟩, 6), (⟨"OneAnvil$Wheel", "setMark", "()V"⟩, 6), (⟨"OneAnvil$Wheel", "spinOnce", "()V"⟩, 6), (⟨"OneAnvil$Wheel", "isAtMark", "()Z"⟩, 6), (⟨"OneAnvil$Choices", "chooseBeside", "(IIII)V"⟩, 10)]
theorem lw_r2 : ∀ q ∈ lw_privs_2, lw_okq q := List.forall_mem_cons.mpr ⟨lw_p16, List.forall_mem_cons.mpr ⟨lw_p17, List.forall_mem_cons.mpr ⟨lw_p18, List.forall_mem_cons.mpr ⟨lw_p19, List.forall_mem_cons.mpr ⟨lw_p20, List.forall_mem_cons.mpr ⟨lw_p21, List.forall_mem_cons.mpr ⟨lw_p22, List.forall_mem_cons.mpr ⟨lw_p23, List.forall_mem_cons.mpr ⟨lw_p24, List.forall_mem_cons.mpr ⟨lw_p25, List.forall_mem_cons.mpr ⟨lw_p26, List.forall_mem_cons.mpr ⟨lw_p27, List.forall_mem_cons.mpr ⟨lw_p28, List.forall_mem_cons.mpr ⟨lw_p29, List.forall_mem_cons.mpr ⟨lw_p30, List.forall_mem_cons.mpr ⟨lw_p31, fun _ h => absurd h List.not_mem_nil⟩⟩⟩⟩⟩⟩⟩⟩⟩⟩⟩⟩⟩⟩⟩⟩
theorem lw_p32 : lw_okq (⟨"OneAnvil$Choices", "chooseJobs", "(II)V"⟩, 10) := ⟨⟨by decide +kernel, by decide +kernel⟩, List.mem_of_getElem? (i := 348) (by decide +kernel), List.mem_of_getElem? (i := 983) (by decide +kernel), List.mem_of_getElem? (i := 984) (by decide +kernel)⟩
theorem lw_p33 : lw_okq (⟨"OneAnvil$Choices", "putFirst", "(LOneAnvil$State;IZ)V"⟩, 10) := ⟨⟨by decide +kernel, by decide +kernel⟩, List.mem_of_getElem? (i := 348) (by decide +kernel), List.mem_of_getElem? (i := 987) (by decide +kernel), List.mem_of_getElem? (i := 988) (by decide +kernel)⟩
theorem lw_p34 : lw_okq (⟨"OneAnvil$Clues", "fits", "(LOneAnvil$Notes;I)Z"⟩, 7) := ⟨⟨by decide +kernel, by decide +kernel⟩, List.mem_of_getElem? (i := 414) (by decide +kernel), List.mem_of_getElem? (i := 1030) (by decide +kernel), List.mem_of_getElem? (i := 1031) (by decide +kernel)⟩
theorem lw_p35 : lw_okq (⟨"OneAnvilModel", "four", "(I)V"⟩, 50) := ⟨⟨by decide +kernel, by decide +kernel⟩, List.mem_of_getElem? (i := 1077) (by decide +kernel), List.mem_of_getElem? (i := 1238) (by decide +kernel), List.mem_of_getElem? (i := 1239) (by decide +kernel)⟩
theorem lw_p36 : lw_okq (⟨"OneAnvilModel", "readsAll", "()Z"⟩, 50) := ⟨⟨by decide +kernel, by decide +kernel⟩, List.mem_of_getElem? (i := 1077) (by decide +kernel), List.mem_of_getElem? (i := 1250) (by decide +kernel), List.mem_of_getElem? (i := 1251) (by decide +kernel)⟩
theorem lw_p37 : lw_okq (⟨"OneAnvilModel", "clauseHere", "()Z"⟩, 50) := ⟨⟨by decide +kernel, by decide +kernel⟩, List.mem_of_getElem? (i := 1077) (by decide +kernel), List.mem_of_getElem? (i := 1254) (by decide +kernel), List.mem_of_getElem? (i := 1255) (by decide +kernel)⟩
theorem lw_p38 : lw_okq (⟨"OneAnvilModel", "see", "()I"⟩, 50) := ⟨⟨by decide +kernel, by decide +kernel⟩, List.mem_of_getElem? (i := 1077) (by decide +kernel), List.mem_of_getElem? (i := 1258) (by decide +kernel), List.mem_of_getElem? (i := 1259) (by decide +kernel)⟩
theorem lw_p39 : lw_okq (⟨"OneAnvilModel", "isSmithyWord", "()Z"⟩, 50) := ⟨⟨by decide +kernel, by decide +kernel⟩, List.mem_of_getElem? (i := 1077) (by decide +kernel), List.mem_of_getElem? (i := 1262) (by decide +kernel), List.mem_of_getElem? (i := 1263) (by decide +kernel)⟩
theorem lw_p40 : lw_okq (⟨"OneAnvilModel", "isWord", "(J)Z"⟩, 50) := ⟨⟨by decide +kernel, by decide +kernel⟩, List.mem_of_getElem? (i := 1077) (by decide +kernel), List.mem_of_getElem? (i := 1267) (by decide +kernel), List.mem_of_getElem? (i := 1268) (by decide +kernel)⟩
theorem lw_p41 : lw_okq (⟨"OneAnvilModel", "isLetter", "(I)Z"⟩, 50) := ⟨⟨by decide +kernel, by decide +kernel⟩, List.mem_of_getElem? (i := 1077) (by decide +kernel), List.mem_of_getElem? (i := 1271) (by decide +kernel), List.mem_of_getElem? (i := 1272) (by decide +kernel)⟩
theorem lw_p42 : lw_okq (⟨"OneAnvilModel", "fails", "(II)Z"⟩, 50) := ⟨⟨by decide +kernel, by decide +kernel⟩, List.mem_of_getElem? (i := 1077) (by decide +kernel), List.mem_of_getElem? (i := 1279) (by decide +kernel), List.mem_of_getElem? (i := 1280) (by decide +kernel)⟩
theorem lw_p43 : lw_okq (⟨"OneAnvilModel", "smithyLineHere", "(I)Z"⟩, 50) := ⟨⟨by decide +kernel, by decide +kernel⟩, List.mem_of_getElem? (i := 1077) (by decide +kernel), List.mem_of_getElem? (i := 1283) (by decide +kernel), List.mem_of_getElem? (i := 1284) (by decide +kernel)⟩
theorem lw_p44 : lw_okq (⟨"OneAnvilModel", "isSmithyHere", "(I)Z"⟩, 50) := ⟨⟨by decide +kernel, by decide +kernel⟩, List.mem_of_getElem? (i := 1077) (by decide +kernel), List.mem_of_getElem? (i := 1287) (by decide +kernel), List.mem_of_getElem? (i := 1288) (by decide +kernel)⟩
theorem lw_p45 : lw_okq (⟨"OneAnvilModel", "passWord", "()V"⟩, 50) := ⟨⟨by decide +kernel, by decide +kernel⟩, List.mem_of_getElem? (i := 1077) (by decide +kernel), List.mem_of_getElem? (i := 1291) (by decide +kernel), List.mem_of_getElem? (i := 1292) (by decide +kernel)⟩
theorem lw_p46 : lw_okq (⟨"OneAnvilModel", "numberHere", "(II)Z"⟩, 50) := ⟨⟨by decide +kernel, by decide +kernel⟩, List.mem_of_getElem? (i := 1077) (by decide +kernel), List.mem_of_getElem? (i := 1295) (by decide +kernel), List.mem_of_getElem? (i := 1296) (by decide +kernel)⟩
theorem lw_p47 : lw_okq (⟨"OneAnvilModel", "isDigit", "(I)Z"⟩, 50) := ⟨⟨by decide +kernel, by decide +kernel⟩, List.mem_of_getElem? (i := 1077) (by decide +kernel), List.mem_of_getElem? (i := 1299) (by decide +kernel), List.mem_of_getElem? (i := 1300) (by decide +kernel)⟩
def lw_privs_3 : List (MethodName × Nat) := [(⟨"OneAnvil$Choices", "chooseJobs", "(II)V"⟩, 10), (⟨"OneAnvil$Choices", "putFirst", "(LOneAnvil$State;IZ)V"⟩, 10), (⟨"OneAnvil$Clues", "fits", "(LOneAnvil$Notes;I)Z"⟩, 7), (⟨"OneAnvilModel", "four", "(I)V"⟩, 50), (⟨"OneAnvilModel", "readsAll", "()Z"⟩, 50), (⟨"OneAnvilModel", "clauseHere", "()Z"⟩, 50), (⟨"OneAnvilModel", "see", "()I"⟩, 50), (⟨"OneAnvilModel", "isSmithyWord", "()Z"⟩, 50), (⟨"OneAnvilModel", "isWord", "(J)Z"⟩, 50), (⟨"OneAnvilModel", "isLetter", "(I)Z"⟩, 50), (⟨"OneAnvilModel", "fails", "(II)Z"⟩, 50), (⟨"OneAnvilModel", "smithyLineHere", "(I)Z"⟩, 50), (⟨"OneAnvilModel", "isSmithyHere", "(I)Z"⟩, 50), (⟨"OneAnvilModel", "passWord", "()V"⟩, 50), (⟨"OneAnvilModel", "numberHere", "(II)Z"⟩, 50), (⟨"OneAnvilModel", "isDigit", "(I)Z"⟩, 50)]
theorem lw_r3 : ∀ q ∈ lw_privs_3, lw_okq q := List.forall_mem_cons.mpr ⟨lw_p32, List.forall_mem_cons.mpr ⟨lw_p33, List.forall_mem_cons.mpr ⟨lw_p34, List.forall_mem_cons.mpr ⟨lw_p35, List.forall_mem_cons.mpr ⟨lw_p36, List.forall_mem_cons.mpr ⟨lw_p37, List.forall_mem_cons.mpr ⟨lw_p38, List.forall_mem_cons.mpr ⟨lw_p39, List.forall_mem_cons.mpr ⟨lw_p40, List.forall_mem_cons.mpr ⟨lw_p41, List.forall_mem_cons.mpr ⟨lw_p42, List.forall_mem_cons.mpr ⟨lw_p43, List.forall_mem_cons.mpr ⟨lw_p44, List.forall_mem_cons.mpr ⟨lw_p45, List.forall_mem_cons.mpr ⟨lw_p46, List.forall_mem_cons.mpr ⟨lw_p47, fun _ h => absurd h List.not_mem_nil⟩⟩⟩⟩⟩⟩⟩⟩⟩⟩⟩⟩⟩⟩⟩⟩
theorem lw_p48 : lw_okq (⟨"OneAnvilModel", "cellHere", "(III)Z"⟩, 50) := ⟨⟨by decide +kernel, by decide +kernel⟩, List.mem_of_getElem? (i := 1077) (by decide +kernel), List.mem_of_getElem? (i := 1306) (by decide +kernel), List.mem_of_getElem? (i := 1307) (by decide +kernel)⟩
theorem lw_p49 : lw_okq (⟨"OneAnvilModel", "isSmithHere", "(I)Z"⟩, 50) := ⟨⟨by decide +kernel, by decide +kernel⟩, List.mem_of_getElem? (i := 1077) (by decide +kernel), List.mem_of_getElem? (i := 1310) (by decide +kernel), List.mem_of_getElem? (i := 1311) (by decide +kernel)⟩
theorem lw_p50 : lw_okq (⟨"OneAnvilModel", "isJobHere", "(I)Z"⟩, 50) := ⟨⟨by decide +kernel, by decide +kernel⟩, List.mem_of_getElem? (i := 1077) (by decide +kernel), List.mem_of_getElem? (i := 1314) (by decide +kernel), List.mem_of_getElem? (i := 1315) (by decide +kernel)⟩
theorem lw_p51 : lw_okq (⟨"OneAnvilModel", "partHere", "()I"⟩, 50) := ⟨⟨by decide +kernel, by decide +kernel⟩, List.mem_of_getElem? (i := 1077) (by decide +kernel), List.mem_of_getElem? (i := 1318) (by decide +kernel), List.mem_of_getElem? (i := 1319) (by decide +kernel)⟩
theorem lw_p52 : lw_okq (⟨"OneAnvilModel", "takesWord", "(J)Z"⟩, 50) := ⟨⟨by decide +kernel, by decide +kernel⟩, List.mem_of_getElem? (i := 1077) (by decide +kernel), List.mem_of_getElem? (i := 1323) (by decide +kernel), List.mem_of_getElem? (i := 1324) (by decide +kernel)⟩
theorem lw_p53 : lw_okq (⟨"OneAnvilModel", "isPartHere", "()Z"⟩, 50) := ⟨⟨by decide +kernel, by decide +kernel⟩, List.mem_of_getElem? (i := 1077) (by decide +kernel), List.mem_of_getElem? (i := 1330) (by decide +kernel), List.mem_of_getElem? (i := 1331) (by decide +kernel)⟩
theorem lw_p54 : lw_okq (⟨"OneAnvilModel", "isStrikeHere", "()Z"⟩, 50) := ⟨⟨by decide +kernel, by decide +kernel⟩, List.mem_of_getElem? (i := 1077) (by decide +kernel), List.mem_of_getElem? (i := 1334) (by decide +kernel), List.mem_of_getElem? (i := 1335) (by decide +kernel)⟩
theorem lw_p55 : lw_okq (⟨"OneAnvilModel", "sum", "()Z"⟩, 50) := ⟨⟨by decide +kernel, by decide +kernel⟩, List.mem_of_getElem? (i := 1077) (by decide +kernel), List.mem_of_getElem? (i := 1338) (by decide +kernel), List.mem_of_getElem? (i := 1339) (by decide +kernel)⟩
theorem lw_p56 : lw_okq (⟨"OneAnvilModel", "term", "()Z"⟩, 50) := ⟨⟨by decide +kernel, by decide +kernel⟩, List.mem_of_getElem? (i := 1077) (by decide +kernel), List.mem_of_getElem? (i := 1342) (by decide +kernel), List.mem_of_getElem? (i := 1343) (by decide +kernel)⟩
theorem lw_p57 : lw_okq (⟨"OneAnvilModel", "value", "()Z"⟩, 50) := ⟨⟨by decide +kernel, by decide +kernel⟩, List.mem_of_getElem? (i := 1077) (by decide +kernel), List.mem_of_getElem? (i := 1346) (by decide +kernel), List.mem_of_getElem? (i := 1347) (by decide +kernel)⟩
theorem lw_p58 : lw_okq (⟨"OneAnvilModel", "makes", "(I)Z"⟩, 50) := ⟨⟨by decide +kernel, by decide +kernel⟩, List.mem_of_getElem? (i := 1077) (by decide +kernel), List.mem_of_getElem? (i := 1351) (by decide +kernel), List.mem_of_getElem? (i := 1352) (by decide +kernel)⟩
theorem lw_p59 : lw_okq (⟨"OneAnvilModel", "puts", "(II)V"⟩, 50) := ⟨⟨by decide +kernel, by decide +kernel⟩, List.mem_of_getElem? (i := 1077) (by decide +kernel), List.mem_of_getElem? (i := 1355) (by decide +kernel), List.mem_of_getElem? (i := 1356) (by decide +kernel)⟩
theorem lw_p60 : lw_okq (⟨"OneAnvilModel", "wordHere", "()I"⟩, 50) := ⟨⟨by decide +kernel, by decide +kernel⟩, List.mem_of_getElem? (i := 1077) (by decide +kernel), List.mem_of_getElem? (i := 1359) (by decide +kernel), List.mem_of_getElem? (i := 1360) (by decide +kernel)⟩
theorem lw_p61 : lw_okq (⟨"OneAnvilModel", "tested", "()Z"⟩, 50) := ⟨⟨by decide +kernel, by decide +kernel⟩, List.mem_of_getElem? (i := 1077) (by decide +kernel), List.mem_of_getElem? (i := 1376) (by decide +kernel), List.mem_of_getElem? (i := 1377) (by decide +kernel)⟩
theorem lw_p62 : lw_okq (⟨"OneAnvilModel", "fact", "()Z"⟩, 50) := ⟨⟨by decide +kernel, by decide +kernel⟩, List.mem_of_getElem? (i := 1077) (by decide +kernel), List.mem_of_getElem? (i := 1380) (by decide +kernel), List.mem_of_getElem? (i := 1381) (by decide +kernel)⟩
theorem lw_p63 : lw_okq (⟨"OneAnvilModel", "opens", "(I)Z"⟩, 50) := ⟨⟨by decide +kernel, by decide +kernel⟩, List.mem_of_getElem? (i := 1077) (by decide +kernel), List.mem_of_getElem? (i := 1385) (by decide +kernel), List.mem_of_getElem? (i := 1386) (by decide +kernel)⟩
def lw_privs_4 : List (MethodName × Nat) := [(⟨"OneAnvilModel", "cellHere", "(III)Z"⟩, 50), (⟨"OneAnvilModel", "isSmithHere", "(I)Z"⟩, 50), (⟨"OneAnvilModel", "isJobHere", "(I)Z"⟩, 50), (⟨"OneAnvilModel", "partHere", "()I"⟩, 50), (⟨"OneAnvilModel", "takesWord", "(J)Z"⟩, 50), (⟨"OneAnvilModel", "isPartHere", "()Z"⟩, 50), (⟨"OneAnvilModel", "isStrikeHere", "()Z"⟩, 50), (⟨"OneAnvilModel", "sum", "()Z"⟩, 50), (⟨"OneAnvilModel", "term", "()Z"⟩, 50), (⟨"OneAnvilModel", "value", "()Z"⟩, 50), (⟨"OneAnvilModel", "makes", "(I)Z"⟩, 50), (⟨"OneAnvilModel", "puts", "(II)V"⟩, 50), (⟨"OneAnvilModel", "wordHere", "()I"⟩, 50), (⟨"OneAnvilModel", "tested", "()Z"⟩, 50), (⟨"OneAnvilModel", "fact", "()Z"⟩, 50), (⟨"OneAnvilModel", "opens", "(I)Z"⟩, 50)]
theorem lw_r4 : ∀ q ∈ lw_privs_4, lw_okq q := List.forall_mem_cons.mpr ⟨lw_p48, List.forall_mem_cons.mpr ⟨lw_p49, List.forall_mem_cons.mpr ⟨lw_p50, List.forall_mem_cons.mpr ⟨lw_p51, List.forall_mem_cons.mpr ⟨lw_p52, List.forall_mem_cons.mpr ⟨lw_p53, List.forall_mem_cons.mpr ⟨lw_p54, List.forall_mem_cons.mpr ⟨lw_p55, List.forall_mem_cons.mpr ⟨lw_p56, List.forall_mem_cons.mpr ⟨lw_p57, List.forall_mem_cons.mpr ⟨lw_p58, List.forall_mem_cons.mpr ⟨lw_p59, List.forall_mem_cons.mpr ⟨lw_p60, List.forall_mem_cons.mpr ⟨lw_p61, List.forall_mem_cons.mpr ⟨lw_p62, List.forall_mem_cons.mpr ⟨lw_p63, fun _ h => absurd h List.not_mem_nil⟩⟩⟩⟩⟩⟩⟩⟩⟩⟩⟩⟩⟩⟩⟩⟩
theorem lw_p64 : lw_okq (⟨"OneAnvilModel", "compare", "()Z"⟩, 50) := ⟨⟨by decide +kernel, by decide +kernel⟩, List.mem_of_getElem? (i := 1077) (by decide +kernel), List.mem_of_getElem? (i := 1389) (by decide +kernel), List.mem_of_getElem? (i := 1390) (by decide +kernel)⟩
theorem lw_p65 : lw_okq (⟨"OneAnvilModel", "closes", "()V"⟩, 50) := ⟨⟨by decide +kernel, by decide +kernel⟩, List.mem_of_getElem? (i := 1077) (by decide +kernel), List.mem_of_getElem? (i := 1393) (by decide +kernel), List.mem_of_getElem? (i := 1394) (by decide +kernel)⟩
theorem lw_p66 : lw_okq (⟨"OneAnvilModel", "settles", "(I)V"⟩, 50) := ⟨⟨by decide +kernel, by decide +kernel⟩, List.mem_of_getElem? (i := 1077) (by decide +kernel), List.mem_of_getElem? (i := 1397) (by decide +kernel), List.mem_of_getElem? (i := 1398) (by decide +kernel)⟩
theorem lw_p67 : lw_okq (⟨"OneAnvilModel", "isInside", "()Z"⟩, 50) := ⟨⟨by decide +kernel, by decide +kernel⟩, List.mem_of_getElem? (i := 1077) (by decide +kernel), List.mem_of_getElem? (i := 1404) (by decide +kernel), List.mem_of_getElem? (i := 1405) (by decide +kernel)⟩
theorem lw_p68 : lw_okq (⟨"OneAnvilModel", "isRule", "(I)Z"⟩, 50) := ⟨⟨by decide +kernel, by decide +kernel⟩, List.mem_of_getElem? (i := 1077) (by decide +kernel), List.mem_of_getElem? (i := 1418) (by decide +kernel), List.mem_of_getElem? (i := 1419) (by decide +kernel)⟩
theorem lw_p69 : lw_okq (⟨"OneAnvilModel", "isSmith", "(I)Z"⟩, 50) := ⟨⟨by decide +kernel, by decide +kernel⟩, List.mem_of_getElem? (i := 1077) (by decide +kernel), List.mem_of_getElem? (i := 1426) (by decide +kernel), List.mem_of_getElem? (i := 1427) (by decide +kernel)⟩
theorem lw_p70 : lw_okq (⟨"OneAnvilModel", "smithOf", "(II)I"⟩, 50) := ⟨⟨by decide +kernel, by decide +kernel⟩, List.mem_of_getElem? (i := 1077) (by decide +kernel), List.mem_of_getElem? (i := 1430) (by decide +kernel), List.mem_of_getElem? (i := 1431) (by decide +kernel)⟩
theorem lw_p71 : lw_okq (⟨"OneAnvilModel", "jobNow", "(I)I"⟩, 50) := ⟨⟨by decide +kernel, by decide +kernel⟩, List.mem_of_getElem? (i := 1077) (by decide +kernel), List.mem_of_getElem? (i := 1434) (by decide +kernel), List.mem_of_getElem? (i := 1435) (by decide +kernel)⟩
theorem lw_p72 : lw_okq (⟨"OneAnvilModel", "isOpen", "(II)Z"⟩, 50) := ⟨⟨by decide +kernel, by decide +kernel⟩, List.mem_of_getElem? (i := 1077) (by decide +kernel), List.mem_of_getElem? (i := 1438) (by decide +kernel), List.mem_of_getElem? (i := 1439) (by decide +kernel)⟩
theorem lw_p73 : lw_okq (⟨"OneAnvilModel", "jobOf", "(II)I"⟩, 50) := ⟨⟨by decide +kernel, by decide +kernel⟩, List.mem_of_getElem? (i := 1077) (by decide +kernel), List.mem_of_getElem? (i := 1442) (by decide +kernel), List.mem_of_getElem? (i := 1443) (by decide +kernel)⟩
theorem lw_p74 : lw_okq (⟨"OneAnvilModel", "isHot", "(I)Z"⟩, 50) := ⟨⟨by decide +kernel, by decide +kernel⟩, List.mem_of_getElem? (i := 1077) (by decide +kernel), List.mem_of_getElem? (i := 1446) (by decide +kernel), List.mem_of_getElem? (i := 1447) (by decide +kernel)⟩
theorem lw_p75 : lw_okq (⟨"OneAnvilModel", "isJob", "(I)Z"⟩, 50) := ⟨⟨by decide +kernel, by decide +kernel⟩, List.mem_of_getElem? (i := 1077) (by decide +kernel), List.mem_of_getElem? (i := 1454) (by decide +kernel), List.mem_of_getElem? (i := 1455) (by decide +kernel)⟩
theorem lw_p76 : lw_okq (⟨"OneAnvilModel", "isSmithy", "()Z"⟩, 50) := ⟨⟨by decide +kernel, by decide +kernel⟩, List.mem_of_getElem? (i := 1077) (by decide +kernel), List.mem_of_getElem? (i := 1463) (by decide +kernel), List.mem_of_getElem? (i := 1464) (by decide +kernel)⟩
theorem lw_p77 : lw_okq (⟨"OneAnvilModel", "keepsAct", "()V"⟩, 50) := ⟨⟨by decide +kernel, by decide +kernel⟩, List.mem_of_getElem? (i := 1077) (by decide +kernel), List.mem_of_getElem? (i := 1476) (by decide +kernel), List.mem_of_getElem? (i := 1477) (by decide +kernel)⟩
theorem lw_p78 : lw_okq (⟨"OneAnvilModel", "passes", "()I"⟩, 50) := ⟨⟨by decide +kernel, by decide +kernel⟩, List.mem_of_getElem? (i := 1077) (by decide +kernel), List.mem_of_getElem? (i := 1480) (by decide +kernel), List.mem_of_getElem? (i := 1481) (by decide +kernel)⟩
theorem lw_p79 : lw_okq (⟨"OneAnvilModel", "takesTurns", "()V"⟩, 50) := ⟨⟨by decide +kernel, by decide +kernel⟩, List.mem_of_getElem? (i := 1077) (by decide +kernel), List.mem_of_getElem? (i := 1484) (by decide +kernel), List.mem_of_getElem? (i := 1485) (by decide +kernel)⟩
def lw_privs_5 : List (MethodName × Nat) := [(⟨"OneAnvilModel", "compare", "()Z"⟩, 50), (⟨"OneAnvilModel", "closes", "()V"⟩, 50), (⟨"OneAnvilModel", "settles", "(I)V"⟩, 50), (⟨"OneAnvilModel", "isInside", "()Z"⟩, 50), (⟨"OneAnvilModel", "isRule", "(I)Z"⟩, 50), (⟨"OneAnvilModel", "isSmith", "(I)Z"⟩, 50), (⟨"OneAnvilModel", "smithOf", "(II)I"⟩, 50), (⟨"OneAnvilModel", "jobNow", "(I)I"⟩, 50), (⟨"OneAnvilModel", "isOpen", "(II)Z"⟩, 50), (⟨"OneAnvilModel", "jobOf", "(II)I"⟩, 50), (⟨"OneAnvilModel", "isHot", "(I)Z"⟩, 50), (⟨"OneAnvilModel", "isJob", "(I)Z"⟩, 50), (⟨"OneAnvilModel", "isSmithy", "()Z"⟩, 50), (⟨"OneAnvilModel", "keepsAct", "()V"⟩, 50), (⟨"OneAnvilModel", "passes", "()I"⟩, 50), (⟨"OneAnvilModel", "takesTurns", "()V"⟩, 50)]
theorem lw_r5 : ∀ q ∈ lw_privs_5, lw_okq q := List.forall_mem_cons.mpr ⟨lw_p64, List.forall_mem_cons.mpr ⟨lw_p65, List.forall_mem_cons.mpr ⟨lw_p66, List.forall_mem_cons.mpr ⟨lw_p67, List.forall_mem_cons.mpr ⟨lw_p68, List.forall_mem_cons.mpr ⟨lw_p69, List.forall_mem_cons.mpr ⟨lw_p70, List.forall_mem_cons.mpr ⟨lw_p71, List.forall_mem_cons.mpr ⟨lw_p72, List.forall_mem_cons.mpr ⟨lw_p73, List.forall_mem_cons.mpr ⟨lw_p74, List.forall_mem_cons.mpr ⟨lw_p75, List.forall_mem_cons.mpr ⟨lw_p76, List.forall_mem_cons.mpr ⟨lw_p77, List.forall_mem_cons.mpr ⟨lw_p78, List.forall_mem_cons.mpr ⟨lw_p79, fun _ h => absurd h List.not_mem_nil⟩⟩⟩⟩⟩⟩⟩⟩⟩⟩⟩⟩⟩⟩⟩⟩
theorem lw_p80 : lw_okq (⟨"OneAnvilModel", "splitParts", "()I"⟩, 50) := ⟨⟨by decide +kernel, by decide +kernel⟩, List.mem_of_getElem? (i := 1077) (by decide +kernel), List.mem_of_getElem? (i := 1488) (by decide +kernel), List.mem_of_getElem? (i := 1489) (by decide +kernel)⟩
theorem lw_p81 : lw_okq (⟨"OneAnvilModel", "willsStrike", "(I)Z"⟩, 50) := ⟨⟨by decide +kernel, by decide +kernel⟩, List.mem_of_getElem? (i := 1077) (by decide +kernel), List.mem_of_getElem? (i := 1492) (by decide +kernel), List.mem_of_getElem? (i := 1493) (by decide +kernel)⟩
theorem lw_p82 : lw_okq (⟨"OneAnvilModel", "words", "(I)V"⟩, 50) := ⟨⟨by decide +kernel, by decide +kernel⟩, List.mem_of_getElem? (i := 1077) (by decide +kernel), List.mem_of_getElem? (i := 1499) (by decide +kernel), List.mem_of_getElem? (i := 1500) (by decide +kernel)⟩
theorem lw_p83 : lw_okq (⟨"OneAnvilModel", "wornFor", "(I)I"⟩, 50) := ⟨⟨by decide +kernel, by decide +kernel⟩, List.mem_of_getElem? (i := 1077) (by decide +kernel), List.mem_of_getElem? (i := 1503) (by decide +kernel), List.mem_of_getElem? (i := 1504) (by decide +kernel)⟩
theorem lw_p84 : lw_okq (⟨"OneAnvilModel", "needs", "(I)I"⟩, 50) := ⟨⟨by decide +kernel, by decide +kernel⟩, List.mem_of_getElem? (i := 1077) (by decide +kernel), List.mem_of_getElem? (i := 1507) (by decide +kernel), List.mem_of_getElem? (i := 1508) (by decide +kernel)⟩
theorem lw_p85 : lw_okq (⟨"OneAnvilModel", "rivalsOf", "(I)I"⟩, 50) := ⟨⟨by decide +kernel, by decide +kernel⟩, List.mem_of_getElem? (i := 1077) (by decide +kernel), List.mem_of_getElem? (i := 1511) (by decide +kernel), List.mem_of_getElem? (i := 1512) (by decide +kernel)⟩
theorem lw_p86 : lw_okq (⟨"OneAnvilModel", "summedBy", "(I)J"⟩, 50) := ⟨⟨by decide +kernel, by decide +kernel⟩, List.mem_of_getElem? (i := 1077) (by decide +kernel), List.mem_of_getElem? (i := 1515) (by decide +kernel), List.mem_of_getElem? (i := 1516) (by decide +kernel)⟩
theorem lw_p87 : lw_okq (⟨"OneAnvilModel", "reckons", "(III)J"⟩, 50) := ⟨⟨by decide +kernel, by decide +kernel⟩, List.mem_of_getElem? (i := 1077) (by decide +kernel), List.mem_of_getElem? (i := 1519) (by decide +kernel), List.mem_of_getElem? (i := 1520) (by decide +kernel)⟩
theorem lw_p88 : lw_okq (⟨"OneAnvilModel", "push", "(J)V"⟩, 50) := ⟨⟨by decide +kernel, by decide +kernel⟩, List.mem_of_getElem? (i := 1077) (by decide +kernel), List.mem_of_getElem? (i := 1523) (by decide +kernel), List.mem_of_getElem? (i := 1524) (by decide +kernel)⟩
theorem lw_p89 : lw_okq (⟨"OneAnvilModel", "pop", "()J"⟩, 50) := ⟨⟨by decide +kernel, by decide +kernel⟩, List.mem_of_getElem? (i := 1077) (by decide +kernel), List.mem_of_getElem? (i := 1527) (by decide +kernel), List.mem_of_getElem? (i := 1528) (by decide +kernel)⟩
theorem lw_p90 : lw_okq (⟨"OneAnvilModel", "goesOn", "(I)V"⟩, 50) := ⟨⟨by decide +kernel, by decide +kernel⟩, List.mem_of_getElem? (i := 1077) (by decide +kernel), List.mem_of_getElem? (i := 1534) (by decide +kernel), List.mem_of_getElem? (i := 1535) (by decide +kernel)⟩
theorem lw_p91 : lw_okq (⟨"OneAnvilModel", "heats", "(II)V"⟩, 50) := ⟨⟨by decide +kernel, by decide +kernel⟩, List.mem_of_getElem? (i := 1077) (by decide +kernel), List.mem_of_getElem? (i := 1538) (by decide +kernel), List.mem_of_getElem? (i := 1539) (by decide +kernel)⟩
theorem lw_p92 : lw_okq (⟨"OneAnvilModel", "strikes", "(IIZ)V"⟩, 50) := ⟨⟨by decide +kernel, by decide +kernel⟩, List.mem_of_getElem? (i := 1077) (by decide +kernel), List.mem_of_getElem? (i := 1542) (by decide +kernel), List.mem_of_getElem? (i := 1543) (by decide +kernel)⟩
theorem lw_p93 : lw_okq (⟨"OneAnvilModel", "wears", "()V"⟩, 50) := ⟨⟨by decide +kernel, by decide +kernel⟩, List.mem_of_getElem? (i := 1077) (by decide +kernel), List.mem_of_getElem? (i := 1546) (by decide +kernel), List.mem_of_getElem? (i := 1547) (by decide +kernel)⟩
theorem lw_p94 : lw_okq (⟨"OneAnvilModel", "openMany", "(I)I"⟩, 50) := ⟨⟨by decide +kernel, by decide +kernel⟩, List.mem_of_getElem? (i := 1077) (by decide +kernel), List.mem_of_getElem? (i := 1562) (by decide +kernel), List.mem_of_getElem? (i := 1563) (by decide +kernel)⟩
theorem lw_p95 : lw_okq (⟨"OneAnvilModel", "putsBehind", "(I)V"⟩, 50) := ⟨⟨by decide +kernel, by decide +kernel⟩, List.mem_of_getElem? (i := 1077) (by decide +kernel), List.mem_of_getElem? (i := 1566) (by decide +kernel), List.mem_of_getElem? (i := 1567) (by decide +kernel)⟩
def lw_privs_6 : List (MethodName × Nat) := [(⟨"OneAnvilModel", "splitParts", "()I"⟩, 50), (⟨"OneAnvilModel", "willsStrike", "(I)Z"⟩, 50), (⟨"OneAnvilModel", "words", "(I)V"⟩, 50), (⟨"OneAnvilModel", "wornFor", "(I)I"⟩, 50), (⟨"OneAnvilModel", "needs", "(I)I"⟩, 50), (⟨"OneAnvilModel", "rivalsOf", "(I)I"⟩, 50), (⟨"OneAnvilModel", "summedBy", "(I)J"⟩, 50), (⟨"OneAnvilModel", "reckons", "(III)J"⟩, 50), (⟨"OneAnvilModel", "push", "(J)V"⟩, 50), (⟨"OneAnvilModel", "pop", "()J"⟩, 50), (⟨"OneAnvilModel", "goesOn", "(I)V"⟩, 50), (⟨"OneAnvilModel", "heats", "(II)V"⟩, 50), (⟨"OneAnvilModel", "strikes", "(IIZ)V"⟩, 50), (⟨"OneAnvilModel", "wears", "()V"⟩, 50), (⟨"OneAnvilModel", "openMany", "(I)I"⟩, 50), (⟨"OneAnvilModel", "putsBehind", "(I)V"⟩, 50)]
theorem lw_r6 : ∀ q ∈ lw_privs_6, lw_okq q := List.forall_mem_cons.mpr ⟨lw_p80, List.forall_mem_cons.mpr ⟨lw_p81, List.forall_mem_cons.mpr ⟨lw_p82, List.forall_mem_cons.mpr ⟨lw_p83, List.forall_mem_cons.mpr ⟨lw_p84, List.forall_mem_cons.mpr ⟨lw_p85, List.forall_mem_cons.mpr ⟨lw_p86, List.forall_mem_cons.mpr ⟨lw_p87, List.forall_mem_cons.mpr ⟨lw_p88, List.forall_mem_cons.mpr ⟨lw_p89, List.forall_mem_cons.mpr ⟨lw_p90, List.forall_mem_cons.mpr ⟨lw_p91, List.forall_mem_cons.mpr ⟨lw_p92, List.forall_mem_cons.mpr ⟨lw_p93, List.forall_mem_cons.mpr ⟨lw_p94, List.forall_mem_cons.mpr ⟨lw_p95, fun _ h => absurd h List.not_mem_nil⟩⟩⟩⟩⟩⟩⟩⟩⟩⟩⟩⟩⟩⟩⟩⟩
theorem lw_p96 : lw_okq (⟨"OneAnvilModel", "keeps", "()V"⟩, 50) := ⟨⟨by decide +kernel, by decide +kernel⟩, List.mem_of_getElem? (i := 1077) (by decide +kernel), List.mem_of_getElem? (i := 1575) (by decide +kernel), List.mem_of_getElem? (i := 1576) (by decide +kernel)⟩
theorem lw_p97 : lw_okq (⟨"OneAnvilModel", "laysBack", "()V"⟩, 50) := ⟨⟨by decide +kernel, by decide +kernel⟩, List.mem_of_getElem? (i := 1077) (by decide +kernel), List.mem_of_getElem? (i := 1579) (by decide +kernel), List.mem_of_getElem? (i := 1580) (by decide +kernel)⟩
theorem lw_p98 : lw_okq (⟨"OneAnvilModel", "momentsLeft", "()I"⟩, 50) := ⟨⟨by decide +kernel, by decide +kernel⟩, List.mem_of_getElem? (i := 1077) (by decide +kernel), List.mem_of_getElem? (i := 1591) (by decide +kernel), List.mem_of_getElem? (i := 1592) (by decide +kernel)⟩
theorem lw_p99 : lw_okq (⟨"OneAnvilModel", "areDone", "()Z"⟩, 50) := ⟨⟨by decide +kernel, by decide +kernel⟩, List.mem_of_getElem? (i := 1077) (by decide +kernel), List.mem_of_getElem? (i := 1595) (by decide +kernel), List.mem_of_getElem? (i := 1596) (by decide +kernel)⟩
theorem lw_p100 : lw_okq (⟨"OneAnvilModel", "power", "(I)I"⟩, 50) := ⟨⟨by decide +kernel, by decide +kernel⟩, List.mem_of_getElem? (i := 1077) (by decide +kernel), List.mem_of_getElem? (i := 1604) (by decide +kernel), List.mem_of_getElem? (i := 1605) (by decide +kernel)⟩
theorem lw_p101 : lw_okq (⟨"OneAnvilModel", "blowsBy", "(II)I"⟩, 50) := ⟨⟨by decide +kernel, by decide +kernel⟩, List.mem_of_getElem? (i := 1077) (by decide +kernel), List.mem_of_getElem? (i := 1608) (by decide +kernel), List.mem_of_getElem? (i := 1609) (by decide +kernel)⟩
theorem lw_p102 : lw_okq (⟨"OneAnvilModel", "setIn", "(III)I"⟩, 50) := ⟨⟨by decide +kernel, by decide +kernel⟩, List.mem_of_getElem? (i := 1077) (by decide +kernel), List.mem_of_getElem? (i := 1612) (by decide +kernel), List.mem_of_getElem? (i := 1613) (by decide +kernel)⟩
theorem lw_p103 : lw_okq (⟨"OneAnvilModel", "roundNow", "()I"⟩, 50) := ⟨⟨by decide +kernel, by decide +kernel⟩, List.mem_of_getElem? (i := 1077) (by decide +kernel), List.mem_of_getElem? (i := 1621) (by decide +kernel), List.mem_of_getElem? (i := 1622) (by decide +kernel)⟩
theorem lw_p104 : lw_okq (⟨"OneAnvilModel", "heatsThen", "(I)I"⟩, 50) := ⟨⟨by decide +kernel, by decide +kernel⟩, List.mem_of_getElem? (i := 1077) (by decide +kernel), List.mem_of_getElem? (i := 1625) (by decide +kernel), List.mem_of_getElem? (i := 1626) (by decide +kernel)⟩
theorem lw_p105 : lw_okq (⟨"OneAnvilModel", "countsBeside", "(I)V"⟩, 50) := ⟨⟨by decide +kernel, by decide +kernel⟩, List.mem_of_getElem? (i := 1077) (by decide +kernel), List.mem_of_getElem? (i := 1636) (by decide +kernel), List.mem_of_getElem? (i := 1637) (by decide +kernel)⟩
theorem lw_p106 : lw_okq (⟨"OneAnvilModel", "jobIn", "(II)I"⟩, 50) := ⟨⟨by decide +kernel, by decide +kernel⟩, List.mem_of_getElem? (i := 1077) (by decide +kernel), List.mem_of_getElem? (i := 1640) (by decide +kernel), List.mem_of_getElem? (i := 1641) (by decide +kernel)⟩
theorem lw_p107 : lw_okq (⟨"OneAnvilModel", "othersBlows", "(II)I"⟩, 50) := ⟨⟨by decide +kernel, by decide +kernel⟩, List.mem_of_getElem? (i := 1077) (by decide +kernel), List.mem_of_getElem? (i := 1650) (by decide +kernel), List.mem_of_getElem? (i := 1651) (by decide +kernel)⟩
theorem lw_p108 : lw_okq (⟨"OneAnvilModel", "laysOrder", "(II)V"⟩, 50) := ⟨⟨by decide +kernel, by decide +kernel⟩, List.mem_of_getElem? (i := 1077) (by decide +kernel), List.mem_of_getElem? (i := 1665) (by decide +kernel), List.mem_of_getElem? (i := 1666) (by decide +kernel)⟩
theorem lw_p109 : lw_okq (⟨"OneAnvilModel", "momentsBy", "(II)I"⟩, 50) := ⟨⟨by decide +kernel, by decide +kernel⟩, List.mem_of_getElem? (i := 1077) (by decide +kernel), List.mem_of_getElem? (i := 1669) (by decide +kernel), List.mem_of_getElem? (i := 1670) (by decide +kernel)⟩
theorem lw_p110 : lw_okq (⟨"OneAnvilModel", "gathersRules", "(I)V"⟩, 50) := ⟨⟨by decide +kernel, by decide +kernel⟩, List.mem_of_getElem? (i := 1077) (by decide +kernel), List.mem_of_getElem? (i := 1683) (by decide +kernel), List.mem_of_getElem? (i := 1684) (by decide +kernel)⟩
theorem lw_p111 : lw_okq (⟨"OneAnvilModel", "begins", "()V"⟩, 50) := ⟨⟨by decide +kernel, by decide +kernel⟩, List.mem_of_getElem? (i := 1077) (by decide +kernel), List.mem_of_getElem? (i := 1687) (by decide +kernel), List.mem_of_getElem? (i := 1688) (by decide +kernel)⟩
def lw_privs_7 : List (MethodName × Nat) := [(⟨"OneAnvilModel", "keeps", "()V"⟩, 50), (⟨"OneAnvilModel", "laysBack", "()V"⟩, 50), (⟨"OneAnvilModel", "momentsLeft", "()I"⟩, 50), (⟨"OneAnvilModel", "areDone", "()Z"⟩, 50), (⟨"OneAnvilModel", "power", "(I)I"⟩, 50), (⟨"OneAnvilModel", "blowsBy", "(II)I"⟩, 50), (⟨"OneAnvilModel", "setIn", "(III)I"⟩, 50), (⟨"OneAnvilModel", "roundNow", "()I"⟩, 50), (⟨"OneAnvilModel", "heatsThen", "(I)I"⟩, 50), (⟨"OneAnvilModel", "countsBeside", "(I)V"⟩, 50), (⟨"OneAnvilModel", "jobIn", "(II)I"⟩, 50), (⟨"OneAnvilModel", "othersBlows", "(II)I"⟩, 50), (⟨"OneAnvilModel", "laysOrder", "(II)V"⟩, 50), (⟨"OneAnvilModel", "momentsBy", "(II)I"⟩, 50), (⟨"OneAnvilModel", "gathersRules", "(I)V"⟩, 50), (⟨"OneAnvilModel", "begins", "()V"⟩, 50)]
theorem lw_r7 : ∀ q ∈ lw_privs_7, lw_okq q := List.forall_mem_cons.mpr ⟨lw_p96, List.forall_mem_cons.mpr ⟨lw_p97, List.forall_mem_cons.mpr ⟨lw_p98, List.forall_mem_cons.mpr ⟨lw_p99, List.forall_mem_cons.mpr ⟨lw_p100, List.forall_mem_cons.mpr ⟨lw_p101, List.forall_mem_cons.mpr ⟨lw_p102, List.forall_mem_cons.mpr ⟨lw_p103, List.forall_mem_cons.mpr ⟨lw_p104, List.forall_mem_cons.mpr ⟨lw_p105, List.forall_mem_cons.mpr ⟨lw_p106, List.forall_mem_cons.mpr ⟨lw_p107, List.forall_mem_cons.mpr ⟨lw_p108, List.forall_mem_cons.mpr ⟨lw_p109, List.forall_mem_cons.mpr ⟨lw_p110, List.forall_mem_cons.mpr ⟨lw_p111, fun _ h => absurd h List.not_mem_nil⟩⟩⟩⟩⟩⟩⟩⟩⟩⟩⟩⟩⟩⟩⟩⟩
theorem lw_p112 : lw_okq (⟨"OneAnvilModel", "areNotesSo", "()Z"⟩, 50) := ⟨⟨by decide +kernel, by decide +kernel⟩, List.mem_of_getElem? (i := 1077) (by decide +kernel), List.mem_of_getElem? (i := 1691) (by decide +kernel), List.mem_of_getElem? (i := 1692) (by decide +kernel)⟩
theorem lw_p113 : lw_okq (⟨"OneAnvilModel", "alikeOf", "(I)I"⟩, 50) := ⟨⟨by decide +kernel, by decide +kernel⟩, List.mem_of_getElem? (i := 1077) (by decide +kernel), List.mem_of_getElem? (i := 1699) (by decide +kernel), List.mem_of_getElem? (i := 1700) (by decide +kernel)⟩
theorem lw_p114 : lw_okq (⟨"OneAnvilModel", "countOf", "(I)I"⟩, 50) := ⟨⟨by decide +kernel, by decide +kernel⟩, List.mem_of_getElem? (i := 1077) (by decide +kernel), List.mem_of_getElem? (i := 1717) (by decide +kernel), List.mem_of_getElem? (i := 1718) (by decide +kernel)⟩
theorem lw_p115 : lw_okq (⟨"OneAnvilModel", "draw", "(I)I"⟩, 50) := ⟨⟨by decide +kernel, by decide +kernel⟩, List.mem_of_getElem? (i := 1077) (by decide +kernel), List.mem_of_getElem? (i := 1721) (by decide +kernel), List.mem_of_getElem? (i := 1722) (by decide +kernel)⟩
def lw_privs_8 : List (MethodName × Nat) := [(⟨"OneAnvilModel", "areNotesSo", "()Z"⟩, 50), (⟨"OneAnvilModel", "alikeOf", "(I)I"⟩, 50), (⟨"OneAnvilModel", "countOf", "(I)I"⟩, 50), (⟨"OneAnvilModel", "draw", "(I)I"⟩, 50)]
theorem lw_r8 : ∀ q ∈ lw_privs_8, lw_okq q := List.forall_mem_cons.mpr ⟨lw_p112, List.forall_mem_cons.mpr ⟨lw_p113, List.forall_mem_cons.mpr ⟨lw_p114, List.forall_mem_cons.mpr ⟨lw_p115, fun _ h => absurd h List.not_mem_nil⟩⟩⟩⟩
def lw_privs : List (MethodName × Nat) := lw_privs_1 ++ (lw_privs_2 ++ (lw_privs_3 ++ (lw_privs_4 ++ (lw_privs_5 ++ (lw_privs_6 ++ (lw_privs_7 ++ (lw_privs_8)))))))
def lw_tbl : List Cond := k2_sels lw_privs ++ tables_1
theorem lw_privs_ok : ∀ q ∈ lw_privs, lw_okq q := by
  show ∀ q ∈ lw_privs_1 ++ (lw_privs_2 ++ (lw_privs_3 ++ (lw_privs_4 ++ (lw_privs_5 ++ (lw_privs_6 ++ (lw_privs_7 ++ (lw_privs_8))))))), lw_okq q
  exact List.forall_mem_append.mpr ⟨lw_r1, List.forall_mem_append.mpr ⟨lw_r2, List.forall_mem_append.mpr ⟨lw_r3, List.forall_mem_append.mpr ⟨lw_r4, List.forall_mem_append.mpr ⟨lw_r5, List.forall_mem_append.mpr ⟨lw_r6, List.forall_mem_append.mpr ⟨lw_r7, lw_r8⟩⟩⟩⟩⟩⟩⟩

def RX0 : String := "OneAnvil$Choices"
def TX0 : u_T := fun k => match k with
  | 0 => ("OneAnvil$Choices", "plan", "LOneAnvil$Plan;", true)
  | 1 => ("OneAnvil$Choices", "forge", "LOneAnvil$Forge;", true)
  | 2 => ("OneAnvil$Choices", "steps", "[LOneAnvil$State;", true)
  | 3 => ("OneAnvil$Choices", "row", "[I", true)
  | 4 => ("OneAnvil$Choices", "bestRow", "[I", true)
  | 5 => ("OneAnvil$Choices", "todo", "[I", true)
  | 6 => ("OneAnvil$Choices", "total", "I", false)
  | 7 => ("OneAnvil$Choices", "best", "I", false)
  | 8 => ("OneAnvil$Choices", "bestPay", "I", false)
  | _ => ("OneAnvil$Choices", "orderer", "I", false)
def tyX0 : Nat → FieldType := fun k => match k with
  | 0 => .object "OneAnvil$Plan"
  | 1 => .object "OneAnvil$Forge"
  | 2 => .array (.object "OneAnvil$State")
  | 3 => .array .int
  | 4 => .array .int
  | 5 => .array .int
  | 6 => .int
  | 7 => .int
  | 8 => .int
  | _ => .int
abbrev wsX00 : List Cond := u_ws RX0 TX0 10
theorem nmX0 : ∀ a, a < 10 → ∀ b, b < 10 → a ≠ b → (TX0 a).2.1 ≠ (TX0 b).2.1 := by decide +kernel
theorem tyX0_ok : ∀ k, k < 10 → parseFieldDescriptor (TX0 k).2.2.1 = some (tyX0 k) := by decide +kernel
abbrev cX0_init : ByteArray := prog_2_method_1_code
def yX0_init : MethodName := ⟨RX0, "<init>", "(LOneAnvil$Plan;LOneAnvil$Forge;)V"⟩
abbrev cX0_keepRow : ByteArray := prog_2_method_2_code
def yX0_keepRow : MethodName := ⟨RX0, "keepRow", "()V"⟩
abbrev cX0_bestRota : ByteArray := prog_2_method_3_code
def yX0_bestRota : MethodName := ⟨RX0, "bestRota", "(LOneAnvil$State;II)I"⟩
abbrev cX0_chooseSets : ByteArray := prog_2_method_4_code
def yX0_chooseSets : MethodName := ⟨RX0, "chooseSets", "(II)V"⟩
abbrev cX0_workers : ByteArray := prog_2_method_5_code
def yX0_workers : MethodName := ⟨RX0, "workers", "(LOneAnvil$State;)I"⟩
abbrev cX0_bestOrder : ByteArray := prog_2_method_6_code
def yX0_bestOrder : MethodName := ⟨RX0, "bestOrder", "(LOneAnvil$State;II)I"⟩
abbrev cX0_chooseJobs : ByteArray := prog_2_method_7_code
def yX0_chooseJobs : MethodName := ⟨RX0, "chooseJobs", "(II)V"⟩
abbrev cX0_putFirst : ByteArray := prog_2_method_8_code
def yX0_putFirst : MethodName := ⟨RX0, "putFirst", "(LOneAnvil$State;IZ)V"⟩
abbrev cX0_bestBeside : ByteArray := prog_2_method_9_code
def yX0_bestBeside : MethodName := ⟨RX0, "bestBeside", "(LOneAnvil$State;I)I"⟩
abbrev cX0_chooseBeside : ByteArray := prog_2_method_10_code
def yX0_chooseBeside : MethodName := ⟨RX0, "chooseBeside", "(IIII)V"⟩
def RX1 : String := "OneAnvil$Clues"
def TX1 : u_T := fun k => match k with
  | 0 => ("OneAnvil$Clues", "plan", "LOneAnvil$Plan;", true)
  | 1 => ("OneAnvil$Clues", "forge", "LOneAnvil$Forge;", true)
  | 2 => ("OneAnvil$Clues", "then", "LOneAnvil$State;", true)
  | 3 => ("OneAnvil$Clues", "seen", "[I", true)
  | 4 => ("OneAnvil$Clues", "wear", "[[I", true)
  | 5 => ("OneAnvil$Clues", "fitting", "I", false)
  | _ => ("OneAnvil$Clues", "first", "I", false)
def tyX1 : Nat → FieldType := fun k => match k with
  | 0 => .object "OneAnvil$Plan"
  | 1 => .object "OneAnvil$Forge"
  | 2 => .object "OneAnvil$State"
  | 3 => .array .int
  | 4 => .array (.array .int)
  | 5 => .int
  | _ => .int
abbrev wsX10 : List Cond := u_ws RX1 TX1 7
theorem nmX1 : ∀ a, a < 7 → ∀ b, b < 7 → a ≠ b → (TX1 a).2.1 ≠ (TX1 b).2.1 := by decide +kernel
theorem tyX1_ok : ∀ k, k < 7 → parseFieldDescriptor (TX1 k).2.2.1 = some (tyX1 k) := by decide +kernel
abbrev cX1_init : ByteArray := prog_3_method_1_code
def yX1_init : MethodName := ⟨RX1, "<init>", "(LOneAnvil$Plan;LOneAnvil$Forge;)V"⟩
abbrev cX1_weigh : ByteArray := prog_3_method_2_code
def yX1_weigh : MethodName := ⟨RX1, "weigh", "([LOneAnvil$Program;ILOneAnvil$Notes;I)V"⟩
abbrev cX1_fits : ByteArray := prog_3_method_3_code
def yX1_fits : MethodName := ⟨RX1, "fits", "(LOneAnvil$Notes;I)Z"⟩
abbrev cX1_mostAlike : ByteArray := prog_3_method_4_code
def yX1_mostAlike : MethodName := ⟨RX1, "mostAlike", "(I)I"⟩
abbrev cX1_partingPart : ByteArray := prog_3_method_5_code
def yX1_partingPart : MethodName := ⟨RX1, "partingPart", "()I"⟩
def RX2 : String := "OneAnvil$Forge"
def TX2 : u_T := fun k => match k with
  | 0 => ("OneAnvil$Forge", "plan", "LOneAnvil$Plan;", true)
  | 1 => ("OneAnvil$Forge", "rule", "LOneAnvil$Program;", false)
  | 2 => ("OneAnvil$Forge", "absent", "I", false)
  | 3 => ("OneAnvil$Forge", "chosen", "I", false)
  | 4 => ("OneAnvil$Forge", "second", "Z", false)
  | 5 => ("OneAnvil$Forge", "fireless", "Z", false)
  | 6 => ("OneAnvil$Forge", "endless", "Z", false)
  | 7 => ("OneAnvil$Forge", "job", "[I", true)
  | 8 => ("OneAnvil$Forge", "wills", "[Z", true)
  | 9 => ("OneAnvil$Forge", "taker", "[I", true)
  | 10 => ("OneAnvil$Forge", "words", "[J", true)
  | 11 => ("OneAnvil$Forge", "blows", "I", false)
  | 12 => ("OneAnvil$Forge", "struck", "I", false)
  | _ => ("OneAnvil$Forge", "burns", "I", false)
def tyX2 : Nat → FieldType := fun k => match k with
  | 0 => .object "OneAnvil$Plan"
  | 1 => .object "OneAnvil$Program"
  | 2 => .int
  | 3 => .int
  | 4 => .boolean
  | 5 => .boolean
  | 6 => .boolean
  | 7 => .array .int
  | 8 => .array .boolean
  | 9 => .array .int
  | 10 => .array .long
  | 11 => .int
  | 12 => .int
  | _ => .int
abbrev wsX20 : List Cond := u_ws RX2 TX2 14
theorem nmX2 : ∀ a, a < 14 → ∀ b, b < 14 → a ≠ b → (TX2 a).2.1 ≠ (TX2 b).2.1 := by decide +kernel
theorem tyX2_ok : ∀ k, k < 14 → parseFieldDescriptor (TX2 k).2.2.1 = some (tyX2 k) := by decide +kernel
abbrev cX2_init : ByteArray := prog_4_method_1_code
def yX2_init : MethodName := ⟨RX2, "<init>", "(LOneAnvil$Plan;)V"⟩
abbrev cX2_plain : ByteArray := prog_4_method_2_code
def yX2_plain : MethodName := ⟨RX2, "plain", "(LOneAnvil$Program;)V"⟩
abbrev cX2_go : ByteArray := prog_4_method_3_code
def yX2_go : MethodName := ⟨RX2, "go", "(LOneAnvil$State;)V"⟩
abbrev cX2_assign : ByteArray := prog_4_method_4_code
def yX2_assign : MethodName := ⟨RX2, "assign", "(LOneAnvil$State;)V"⟩
abbrev cX2_willsToStrike : ByteArray := prog_4_method_5_code
def yX2_willsToStrike : MethodName := ⟨RX2, "willsToStrike", "(LOneAnvil$State;I)Z"⟩
abbrev cX2_isHot : ByteArray := prog_4_method_6_code
def yX2_isHot : MethodName := ⟨RX2, "isHot", "(LOneAnvil$State;I)Z"⟩
abbrev cX2_fillWords : ByteArray := prog_4_method_7_code
def yX2_fillWords : MethodName := ⟨RX2, "fillWords", "(LOneAnvil$State;I)V"⟩
abbrev cX2_rivals : ByteArray := prog_4_method_8_code
def yX2_rivals : MethodName := ⟨RX2, "rivals", "(I)I"⟩
abbrev cX2_work : ByteArray := prog_4_method_9_code
def yX2_work : MethodName := ⟨RX2, "work", "(LOneAnvil$State;)V"⟩
abbrev cX2_heatUp : ByteArray := prog_4_method_10_code
def yX2_heatUp : MethodName := ⟨RX2, "heatUp", "(LOneAnvil$State;I)V"⟩
abbrev cX2_takes : ByteArray := prog_4_method_11_code
def yX2_takes : MethodName := ⟨RX2, "takes", "(LOneAnvil$State;I)Z"⟩
abbrev cX2_isFree : ByteArray := prog_4_method_12_code
def yX2_isFree : MethodName := ⟨RX2, "isFree", "(LOneAnvil$State;I)Z"⟩
abbrev cX2_strikeOnce : ByteArray := prog_4_method_13_code
def yX2_strikeOnce : MethodName := ⟨RX2, "strikeOnce", "(LOneAnvil$State;I)V"⟩
def RX3 : String := "OneAnvil$Notes"
def TX3 : u_T := fun k => match k with
  | 0 => ("OneAnvil$Notes", "count", "I", false)
  | 1 => ("OneAnvil$Notes", "at", "[I", true)
  | 2 => ("OneAnvil$Notes", "part", "[I", true)
  | _ => ("OneAnvil$Notes", "wear", "[I", true)
def tyX3 : Nat → FieldType := fun k => match k with
  | 0 => .int
  | 1 => .array .int
  | 2 => .array .int
  | _ => .array .int
abbrev wsX30 : List Cond := u_ws RX3 TX3 4
theorem nmX3 : ∀ a, a < 4 → ∀ b, b < 4 → a ≠ b → (TX3 a).2.1 ≠ (TX3 b).2.1 := by decide +kernel
theorem tyX3_ok : ∀ k, k < 4 → parseFieldDescriptor (TX3 k).2.2.1 = some (tyX3 k) := by decide +kernel
abbrev cX3_init : ByteArray := prog_5_method_1_code
def yX3_init : MethodName := ⟨RX3, "<init>", "()V"⟩
abbrev cX3_copyFrom : ByteArray := prog_5_method_2_code
def yX3_copyFrom : MethodName := ⟨RX3, "copyFrom", "(LOneAnvil$Notes;)V"⟩
abbrev cX3_add : ByteArray := prog_5_method_3_code
def yX3_add : MethodName := ⟨RX3, "add", "(III)V"⟩
abbrev cX3_latest : ByteArray := prog_5_method_4_code
def yX3_latest : MethodName := ⟨RX3, "latest", "()I"⟩
abbrev cX3_agree : ByteArray := prog_5_method_5_code
def yX3_agree : MethodName := ⟨RX3, "agree", "(ILOneAnvil$State;)Z"⟩
def RX4 : String := "OneAnvil$Plan"
def TX4 : u_T := fun k => match k with
  | 0 => ("OneAnvil$Plan", "told", "Z", false)
  | 1 => ("OneAnvil$Plan", "cool", "I", false)
  | 2 => ("OneAnvil$Plan", "burn", "I", false)
  | 3 => ("OneAnvil$Plan", "strength", "I", false)
  | 4 => ("OneAnvil$Plan", "smiths", "I", false)
  | 5 => ("OneAnvil$Plan", "jobs", "I", false)
  | 6 => ("OneAnvil$Plan", "quick", "[I", true)
  | 7 => ("OneAnvil$Plan", "owner", "[I", true)
  | 8 => ("OneAnvil$Plan", "part", "[I", true)
  | 9 => ("OneAnvil$Plan", "bits", "[I", true)
  | 10 => ("OneAnvil$Plan", "blows", "[I", true)
  | 11 => ("OneAnvil$Plan", "need", "[I", true)
  | 12 => ("OneAnvil$Plan", "pay", "[I", true)
  | _ => ("OneAnvil$Plan", "used", "[I", true)
def tyX4 : Nat → FieldType := fun k => match k with
  | 0 => .boolean
  | 1 => .int
  | 2 => .int
  | 3 => .int
  | 4 => .int
  | 5 => .int
  | 6 => .array .int
  | 7 => .array .int
  | 8 => .array .int
  | 9 => .array .int
  | 10 => .array .int
  | 11 => .array .int
  | 12 => .array .int
  | _ => .array .int
abbrev wsX40 : List Cond := u_ws RX4 TX4 14
theorem nmX4 : ∀ a, a < 14 → ∀ b, b < 14 → a ≠ b → (TX4 a).2.1 ≠ (TX4 b).2.1 := by decide +kernel
theorem tyX4_ok : ∀ k, k < 14 → parseFieldDescriptor (TX4 k).2.2.1 = some (tyX4 k) := by decide +kernel
abbrev cX4_init : ByteArray := prog_6_method_1_code
def yX4_init : MethodName := ⟨RX4, "<init>", "()V"⟩
abbrev cX4_copyFrom : ByteArray := prog_6_method_2_code
def yX4_copyFrom : MethodName := ⟨RX4, "copyFrom", "(LOneAnvil$Plan;)V"⟩
abbrev cX4_read : ByteArray := prog_6_method_3_code
def yX4_read : MethodName := ⟨RX4, "read", "(LOneAnvil$Tape;)I"⟩
abbrev cX4_readClause : ByteArray := prog_6_method_4_code
def yX4_readClause : MethodName := ⟨RX4, "readClause", "(LOneAnvil$Tape;I)V"⟩
abbrev cX4_readJob : ByteArray := prog_6_method_5_code
def yX4_readJob : MethodName := ⟨RX4, "readJob", "(LOneAnvil$Tape;)V"⟩
def RX5 : String := "OneAnvil$Program"
def TX5 : u_T := fun k => match k with
  | 0 => ("OneAnvil$Program", "row", "[I", true)
  | 1 => ("OneAnvil$Program", "length", "I", false)
  | 2 => ("OneAnvil$Program", "size", "I", false)
  | 3 => ("OneAnvil$Program", "clauses", "I", false)
  | 4 => ("OneAnvil$Program", "sumFrom", "[I", true)
  | 5 => ("OneAnvil$Program", "testFrom", "[I", true)
  | 6 => ("OneAnvil$Program", "testTo", "[I", true)
  | _ => ("OneAnvil$Program", "stack", "[J", true)
def tyX5 : Nat → FieldType := fun k => match k with
  | 0 => .array .int
  | 1 => .int
  | 2 => .int
  | 3 => .int
  | 4 => .array .int
  | 5 => .array .int
  | 6 => .array .int
  | _ => .array .long
abbrev wsX50 : List Cond := u_ws RX5 TX5 8
theorem nmX5 : ∀ a, a < 8 → ∀ b, b < 8 → a ≠ b → (TX5 a).2.1 ≠ (TX5 b).2.1 := by decide +kernel
theorem tyX5_ok : ∀ k, k < 8 → parseFieldDescriptor (TX5 k).2.2.1 = some (tyX5 k) := by decide +kernel
abbrev cX5_init : ByteArray := prog_7_method_1_code
def yX5_init : MethodName := ⟨RX5, "<init>", "()V"⟩
abbrev cX5_read : ByteArray := prog_7_method_2_code
def yX5_read : MethodName := ⟨RX5, "read", "(LOneAnvil$Tape;)I"⟩
abbrev cX5_passStrike : ByteArray := prog_7_method_3_code
def yX5_passStrike : MethodName := ⟨RX5, "passStrike", "(LOneAnvil$Tape;Z)V"⟩
abbrev cX5_put : ByteArray := prog_7_method_4_code
def yX5_put : MethodName := ⟨RX5, "put", "(I)V"⟩
abbrev cX5_readTest : ByteArray := prog_7_method_5_code
def yX5_readTest : MethodName := ⟨RX5, "readTest", "(LOneAnvil$Tape;I)V"⟩
abbrev cX5_readFact : ByteArray := prog_7_method_6_code
def yX5_readFact : MethodName := ⟨RX5, "readFact", "(LOneAnvil$Tape;I)V"⟩
abbrev cX5_readSign : ByteArray := prog_7_method_7_code
def yX5_readSign : MethodName := ⟨RX5, "readSign", "(LOneAnvil$Tape;)I"⟩
abbrev cX5_readSum : ByteArray := prog_7_method_8_code
def yX5_readSum : MethodName := ⟨RX5, "readSum", "(LOneAnvil$Tape;)V"⟩
abbrev cX5_signOf : ByteArray := prog_7_method_9_code
def yX5_signOf : MethodName := ⟨RX5, "signOf", "(I)I"⟩
abbrev cX5_readValue : ByteArray := prog_7_method_10_code
def yX5_readValue : MethodName := ⟨RX5, "readValue", "(LOneAnvil$Tape;)V"⟩
abbrev cX5_strikes : ByteArray := prog_7_method_11_code
def yX5_strikes : MethodName := ⟨RX5, "strikes", "([J)Z"⟩
abbrev cX5_worked : ByteArray := prog_7_method_12_code
def yX5_worked : MethodName := ⟨RX5, "worked", "(II[J)J"⟩
def RX6 : String := "OneAnvil$Sight"
def TX6 : u_T := fun k => match k with
  | 0 => ("OneAnvil$Sight", "plan", "LOneAnvil$Plan;", true)
  | 1 => ("OneAnvil$Sight", "forge", "LOneAnvil$Forge;", true)
  | 2 => ("OneAnvil$Sight", "then", "LOneAnvil$State;", true)
  | 3 => ("OneAnvil$Sight", "blows", "I", false)
  | _ => ("OneAnvil$Sight", "burns", "I", false)
def tyX6 : Nat → FieldType := fun k => match k with
  | 0 => .object "OneAnvil$Plan"
  | 1 => .object "OneAnvil$Forge"
  | 2 => .object "OneAnvil$State"
  | 3 => .int
  | _ => .int
abbrev wsX60 : List Cond := u_ws RX6 TX6 5
theorem nmX6 : ∀ a, a < 5 → ∀ b, b < 5 → a ≠ b → (TX6 a).2.1 ≠ (TX6 b).2.1 := by decide +kernel
theorem tyX6_ok : ∀ k, k < 5 → parseFieldDescriptor (TX6 k).2.2.1 = some (tyX6 k) := by decide +kernel
abbrev cX6_init : ByteArray := prog_8_method_1_code
def yX6_init : MethodName := ⟨RX6, "<init>", "(LOneAnvil$Plan;LOneAnvil$Forge;)V"⟩
abbrev cX6_goOn : ByteArray := prog_8_method_2_code
def yX6_goOn : MethodName := ⟨RX6, "goOn", "(LOneAnvil$State;I)LOneAnvil$State;"⟩
abbrev cX6_readyAt : ByteArray := prog_8_method_3_code
def yX6_readyAt : MethodName := ⟨RX6, "readyAt", "(LOneAnvil$State;I)I"⟩
abbrev cX6_untilAll : ByteArray := prog_8_method_4_code
def yX6_untilAll : MethodName := ⟨RX6, "untilAll", "(LOneAnvil$State;)I"⟩
abbrev cX6_blowsOfOthers : ByteArray := prog_8_method_5_code
def yX6_blowsOfOthers : MethodName := ⟨RX6, "blowsOfOthers", "(LOneAnvil$State;II)I"⟩
abbrev cX6_splitting : ByteArray := prog_8_method_6_code
def yX6_splitting : MethodName := ⟨RX6, "splitting", "(LOneAnvil$State;II)I"⟩
abbrev cX6_live : ByteArray := prog_8_method_7_code
def yX6_live : MethodName := ⟨RX6, "live", "(LOneAnvil$World;III)V"⟩
def RX7 : String := "OneAnvil$State"
def TX7 : u_T := fun k => match k with
  | 0 => ("OneAnvil$State", "moment", "I", false)
  | 1 => ("OneAnvil$State", "heat", "[I", true)
  | 2 => ("OneAnvil$State", "waits", "[I", true)
  | 3 => ("OneAnvil$State", "done", "[I", true)
  | 4 => ("OneAnvil$State", "burnt", "[I", true)
  | 5 => ("OneAnvil$State", "cold", "[I", true)
  | 6 => ("OneAnvil$State", "left", "[I", true)
  | 7 => ("OneAnvil$State", "since", "[I", true)
  | 8 => ("OneAnvil$State", "rank", "[I", true)
  | _ => ("OneAnvil$State", "wear", "[I", true)
def tyX7 : Nat → FieldType := fun k => match k with
  | 0 => .int
  | 1 => .array .int
  | 2 => .array .int
  | 3 => .array .int
  | 4 => .array .int
  | 5 => .array .int
  | 6 => .array .int
  | 7 => .array .int
  | 8 => .array .int
  | _ => .array .int
abbrev wsX70 : List Cond := u_ws RX7 TX7 10
theorem nmX7 : ∀ a, a < 10 → ∀ b, b < 10 → a ≠ b → (TX7 a).2.1 ≠ (TX7 b).2.1 := by decide +kernel
theorem tyX7_ok : ∀ k, k < 10 → parseFieldDescriptor (TX7 k).2.2.1 = some (tyX7 k) := by decide +kernel
abbrev cX7_init : ByteArray := prog_9_method_1_code
def yX7_init : MethodName := ⟨RX7, "<init>", "()V"⟩
abbrev cX7_copyFrom : ByteArray := prog_9_method_2_code
def yX7_copyFrom : MethodName := ⟨RX7, "copyFrom", "(LOneAnvil$State;)V"⟩
abbrev cX7_begin : ByteArray := prog_9_method_3_code
def yX7_begin : MethodName := ⟨RX7, "begin", "(LOneAnvil$Plan;)V"⟩
abbrev cX7_isToDo : ByteArray := prog_9_method_4_code
def yX7_isToDo : MethodName := ⟨RX7, "isToDo", "(LOneAnvil$Plan;II)Z"⟩
abbrev cX7_jobOf : ByteArray := prog_9_method_5_code
def yX7_jobOf : MethodName := ⟨RX7, "jobOf", "(LOneAnvil$Plan;I)I"⟩
abbrev cX7_toDo : ByteArray := prog_9_method_6_code
def yX7_toDo : MethodName := ⟨RX7, "toDo", "(LOneAnvil$Plan;I)I"⟩
abbrev cX7_putLast : ByteArray := prog_9_method_7_code
def yX7_putLast : MethodName := ⟨RX7, "putLast", "(LOneAnvil$Plan;I)V"⟩
abbrev cX7_doneBits : ByteArray := prog_9_method_8_code
def yX7_doneBits : MethodName := ⟨RX7, "doneBits", "(LOneAnvil$Plan;)I"⟩
abbrev cX7_allDone : ByteArray := prog_9_method_9_code
def yX7_allDone : MethodName := ⟨RX7, "allDone", "(LOneAnvil$Plan;)Z"⟩
abbrev cX7_earnedBy : ByteArray := prog_9_method_10_code
def yX7_earnedBy : MethodName := ⟨RX7, "earnedBy", "(LOneAnvil$Plan;I)I"⟩
def RX8 : String := "OneAnvil$Tape"
def TX8 : u_T := fun k => match k with
  | 0 => ("OneAnvil$Tape", "bytes", "[I", true)
  | 1 => ("OneAnvil$Tape", "length", "I", false)
  | 2 => ("OneAnvil$Tape", "at", "I", false)
  | _ => ("OneAnvil$Tape", "fault", "I", false)
def tyX8 : Nat → FieldType := fun k => match k with
  | 0 => .array .int
  | 1 => .int
  | 2 => .int
  | _ => .int
abbrev wsX80 : List Cond := u_ws RX8 TX8 4
theorem nmX8 : ∀ a, a < 4 → ∀ b, b < 4 → a ≠ b → (TX8 a).2.1 ≠ (TX8 b).2.1 := by decide +kernel
theorem tyX8_ok : ∀ k, k < 4 → parseFieldDescriptor (TX8 k).2.2.1 = some (tyX8 k) := by decide +kernel
abbrev cX8_init : ByteArray := prog_10_method_1_code
def yX8_init : MethodName := ⟨RX8, "<init>", "()V"⟩
abbrev cX8_add : ByteArray := prog_10_method_2_code
def yX8_add : MethodName := ⟨RX8, "add", "(I)V"⟩
abbrev cX8_rewind : ByteArray := prog_10_method_3_code
def yX8_rewind : MethodName := ⟨RX8, "rewind", "()V"⟩
abbrev cX8_fail : ByteArray := prog_10_method_4_code
def yX8_fail : MethodName := ⟨RX8, "fail", "(II)V"⟩
abbrev cX8_next : ByteArray := prog_10_method_5_code
def yX8_next : MethodName := ⟨RX8, "next", "()I"⟩
abbrev cX8_run : ByteArray := prog_10_method_6_code
def yX8_run : MethodName := ⟨RX8, "run", "(CC)I"⟩
abbrev cX8_word : ByteArray := prog_10_method_7_code
def yX8_word : MethodName := ⟨RX8, "word", "(Ljava/lang/String;)I"⟩
abbrev cX8_passWord : ByteArray := prog_10_method_8_code
def yX8_passWord : MethodName := ⟨RX8, "passWord", "()V"⟩
abbrev cX8_number : ByteArray := prog_10_method_9_code
def yX8_number : MethodName := ⟨RX8, "number", "(II)I"⟩
def RX9 : String := "OneAnvil$Wheel"
def TX9 : u_T := fun k => match k with
  | 0 => ("OneAnvil$Wheel", "plan", "LOneAnvil$Plan;", true)
  | 1 => ("OneAnvil$Wheel", "forge", "LOneAnvil$Forge;", true)
  | 2 => ("OneAnvil$Wheel", "spin", "LOneAnvil$State;", true)
  | 3 => ("OneAnvil$Wheel", "strikes", "[Z", true)
  | 4 => ("OneAnvil$Wheel", "mark", "[I", true)
  | _ => ("OneAnvil$Wheel", "blows", "[I", true)
def tyX9 : Nat → FieldType := fun k => match k with
  | 0 => .object "OneAnvil$Plan"
  | 1 => .object "OneAnvil$Forge"
  | 2 => .object "OneAnvil$State"
  | 3 => .array .boolean
  | 4 => .array .int
  | _ => .array .int
abbrev wsX90 : List Cond := u_ws RX9 TX9 6
theorem nmX9 : ∀ a, a < 6 → ∀ b, b < 6 → a ≠ b → (TX9 a).2.1 ≠ (TX9 b).2.1 := by decide +kernel
theorem tyX9_ok : ∀ k, k < 6 → parseFieldDescriptor (TX9 k).2.2.1 = some (tyX9 k) := by decide +kernel
abbrev cX9_init : ByteArray := prog_11_method_1_code
def yX9_init : MethodName := ⟨RX9, "<init>", "(LOneAnvil$Plan;LOneAnvil$Forge;)V"⟩
abbrev cX9_turn : ByteArray := prog_11_method_2_code
def yX9_turn : MethodName := ⟨RX9, "turn", "(LOneAnvil$State;I)I"⟩
abbrev cX9_fillStrikes : ByteArray := prog_11_method_3_code
def yX9_fillStrikes : MethodName := ⟨RX9, "fillStrikes", "(LOneAnvil$State;)V"⟩
abbrev cX9_spinOnce : ByteArray := prog_11_method_4_code
def yX9_spinOnce : MethodName := ⟨RX9, "spinOnce", "()V"⟩
abbrev cX9_setMark : ByteArray := prog_11_method_5_code
def yX9_setMark : MethodName := ⟨RX9, "setMark", "()V"⟩
abbrev cX9_isAtMark : ByteArray := prog_11_method_6_code
def yX9_isAtMark : MethodName := ⟨RX9, "isAtMark", "()Z"⟩
def RX10 : String := "OneAnvil$World"
def TX10 : u_T := fun k => match k with
  | 0 => ("OneAnvil$World", "plan", "LOneAnvil$Plan;", true)
  | 1 => ("OneAnvil$World", "state", "LOneAnvil$State;", true)
  | 2 => ("OneAnvil$World", "notes", "LOneAnvil$Notes;", true)
  | 3 => ("OneAnvil$World", "inForce", "I", false)
  | _ => ("OneAnvil$World", "x", "I", false)
def tyX10 : Nat → FieldType := fun k => match k with
  | 0 => .object "OneAnvil$Plan"
  | 1 => .object "OneAnvil$State"
  | 2 => .object "OneAnvil$Notes"
  | 3 => .int
  | _ => .int
abbrev wsX100 : List Cond := u_ws RX10 TX10 5
theorem nmX10 : ∀ a, a < 5 → ∀ b, b < 5 → a ≠ b → (TX10 a).2.1 ≠ (TX10 b).2.1 := by decide +kernel
theorem tyX10_ok : ∀ k, k < 5 → parseFieldDescriptor (TX10 k).2.2.1 = some (tyX10 k) := by decide +kernel
abbrev cX10_init : ByteArray := prog_12_method_1_code
def yX10_init : MethodName := ⟨RX10, "<init>", "()V"⟩
abbrev cX10_copyFrom : ByteArray := prog_12_method_2_code
def yX10_copyFrom : MethodName := ⟨RX10, "copyFrom", "(LOneAnvil$World;)V"⟩
def RX11 : String := "OneAnvil"
def TX11 : u_T := fun k => match k with
  | 0 => ("OneAnvil", "tape", "LOneAnvil$Tape;", true)
  | 1 => ("OneAnvil", "draft", "LOneAnvil$Plan;", true)
  | 2 => ("OneAnvil", "world", "LOneAnvil$World;", true)
  | 3 => ("OneAnvil", "rules", "[LOneAnvil$Program;", true)
  | 4 => ("OneAnvil", "ruleCount", "I", false)
  | 5 => ("OneAnvil", "past", "[LOneAnvil$State;", true)
  | 6 => ("OneAnvil", "pastCount", "I", false)
  | 7 => ("OneAnvil", "pastNext", "I", false)
  | 8 => ("OneAnvil", "images", "[LOneAnvil$World;", true)
  | 9 => ("OneAnvil", "made", "[Z", true)
  | 10 => ("OneAnvil", "forge", "LOneAnvil$Forge;", true)
  | 11 => ("OneAnvil", "sight", "LOneAnvil$Sight;", true)
  | 12 => ("OneAnvil", "choices", "LOneAnvil$Choices;", true)
  | 13 => ("OneAnvil", "wheel", "LOneAnvil$Wheel;", true)
  | _ => ("OneAnvil", "clues", "LOneAnvil$Clues;", true)
def tyX11 : Nat → FieldType := fun k => match k with
  | 0 => .object "OneAnvil$Tape"
  | 1 => .object "OneAnvil$Plan"
  | 2 => .object "OneAnvil$World"
  | 3 => .array (.object "OneAnvil$Program")
  | 4 => .int
  | 5 => .array (.object "OneAnvil$State")
  | 6 => .int
  | 7 => .int
  | 8 => .array (.object "OneAnvil$World")
  | 9 => .array .boolean
  | 10 => .object "OneAnvil$Forge"
  | 11 => .object "OneAnvil$Sight"
  | 12 => .object "OneAnvil$Choices"
  | 13 => .object "OneAnvil$Wheel"
  | _ => .object "OneAnvil$Clues"
abbrev wsX110 : List Cond := u_ws RX11 TX11 15
theorem nmX11 : ∀ a, a < 15 → ∀ b, b < 15 → a ≠ b → (TX11 a).2.1 ≠ (TX11 b).2.1 := by decide +kernel
theorem tyX11_ok : ∀ k, k < 15 → parseFieldDescriptor (TX11 k).2.2.1 = some (tyX11 k) := by decide +kernel
abbrev cX11_init : ByteArray := prog_1_method_1_code
def yX11_init : MethodName := ⟨RX11, "<init>", "()V"⟩
abbrev cX11_feed : ByteArray := prog_1_method_2_code
def yX11_feed : MethodName := ⟨RX11, "feed", "(IIIII)I"⟩
abbrev cX11_end : ByteArray := prog_1_method_3_code
def yX11_end : MethodName := ⟨RX11, "end", "(I)I"⟩
abbrev cX11_smithy : ByteArray := prog_1_method_4_code
def yX11_smithy : MethodName := ⟨RX11, "smithy", "()I"⟩
abbrev cX11_rule : ByteArray := prog_1_method_5_code
def yX11_rule : MethodName := ⟨RX11, "rule", "()I"⟩
abbrev cX11_force : ByteArray := prog_1_method_6_code
def yX11_force : MethodName := ⟨RX11, "force", "(I)I"⟩
abbrev cX11_smith : ByteArray := prog_1_method_7_code
def yX11_smith : MethodName := ⟨RX11, "smith", "(II)I"⟩
abbrev cX11_job : ByteArray := prog_1_method_8_code
def yX11_job : MethodName := ⟨RX11, "job", "(II)I"⟩
abbrev cX11_worn : ByteArray := prog_1_method_9_code
def yX11_worn : MethodName := ⟨RX11, "worn", "(I)I"⟩
abbrev cX11_count : ByteArray := prog_1_method_10_code
def yX11_count : MethodName := ⟨RX11, "count", "(I)I"⟩
abbrev cX11_moment : ByteArray := prog_1_method_11_code
def yX11_moment : MethodName := ⟨RX11, "moment", "()I"⟩
abbrev cX11_quench : ByteArray := prog_1_method_12_code
def yX11_quench : MethodName := ⟨RX11, "quench", "(I)I"⟩
abbrev cX11_mend : ByteArray := prog_1_method_13_code
def yX11_mend : MethodName := ⟨RX11, "mend", "(I)I"⟩
abbrev cX11_aside : ByteArray := prog_1_method_14_code
def yX11_aside : MethodName := ⟨RX11, "aside", "(I)I"⟩
abbrev cX11_undo : ByteArray := prog_1_method_15_code
def yX11_undo : MethodName := ⟨RX11, "undo", "()I"⟩
abbrev cX11_ahead : ByteArray := prog_1_method_16_code
def yX11_ahead : MethodName := ⟨RX11, "ahead", "(III)I"⟩
abbrev cX11_ready : ByteArray := prog_1_method_17_code
def yX11_ready : MethodName := ⟨RX11, "ready", "(I)I"⟩
abbrev cX11_all : ByteArray := prog_1_method_18_code
def yX11_all : MethodName := ⟨RX11, "all", "()I"⟩
abbrev cX11_rota : ByteArray := prog_1_method_19_code
def yX11_rota : MethodName := ⟨RX11, "rota", "(II)I"⟩
abbrev cX11_round : ByteArray := prog_1_method_20_code
def yX11_round : MethodName := ⟨RX11, "round", "(I)I"⟩
abbrev cX11_beside : ByteArray := prog_1_method_21_code
def yX11_beside : MethodName := ⟨RX11, "beside", "(I)I"⟩
abbrev cX11_worth : ByteArray := prog_1_method_22_code
def yX11_worth : MethodName := ⟨RX11, "worth", "(II)I"⟩
abbrev cX11_splits : ByteArray := prog_1_method_23_code
def yX11_splits : MethodName := ⟨RX11, "splits", "(II)I"⟩
abbrev cX11_order : ByteArray := prog_1_method_24_code
def yX11_order : MethodName := ⟨RX11, "order", "(II)I"⟩
abbrev cX11_second : ByteArray := prog_1_method_25_code
def yX11_second : MethodName := ⟨RX11, "second", "()I"⟩
abbrev cX11_seed : ByteArray := prog_1_method_26_code
def yX11_seed : MethodName := ⟨RX11, "seed", "(I)I"⟩
abbrev cX11_days : ByteArray := prog_1_method_27_code
def yX11_days : MethodName := ⟨RX11, "days", "(IIII)I"⟩
abbrev cX11_note : ByteArray := prog_1_method_28_code
def yX11_note : MethodName := ⟨RX11, "note", "(III)I"⟩
abbrev cX11_ruled : ByteArray := prog_1_method_29_code
def yX11_ruled : MethodName := ⟨RX11, "ruled", "(I)I"⟩
abbrev cX11_look : ByteArray := prog_1_method_30_code
def yX11_look : MethodName := ⟨RX11, "look", "(II)I"⟩
abbrev cX11_image : ByteArray := prog_1_method_31_code
def yX11_image : MethodName := ⟨RX11, "image", "(I)I"⟩
abbrev cX11_back : ByteArray := prog_1_method_32_code
def yX11_back : MethodName := ⟨RX11, "back", "(I)I"⟩
abbrev cX11_hasSmith : ByteArray := prog_1_method_33_code
def yX11_hasSmith : MethodName := ⟨RX11, "hasSmith", "(I)Z"⟩
abbrev cX11_hasJob : ByteArray := prog_1_method_34_code
def yX11_hasJob : MethodName := ⟨RX11, "hasJob", "(I)Z"⟩
abbrev cX11_hasPart : ByteArray := prog_1_method_35_code
def yX11_hasPart : MethodName := ⟨RX11, "hasPart", "(I)Z"⟩
abbrev cX11_ruleInForce : ByteArray := prog_1_method_36_code
def yX11_ruleInForce : MethodName := ⟨RX11, "ruleInForce", "()LOneAnvil$Program;"⟩
abbrev cX11_remember : ByteArray := prog_1_method_37_code
def yX11_remember : MethodName := ⟨RX11, "remember", "()V"⟩
abbrev cX11_earnedByAll : ByteArray := prog_1_method_38_code
def yX11_earnedByAll : MethodName := ⟨RX11, "earnedByAll", "()I"⟩
abbrev cX11_splitBits : ByteArray := prog_1_method_39_code
def yX11_splitBits : MethodName := ⟨RX11, "splitBits", "()I"⟩
def RX12 : String := "OneAnvilModel"
def TX12 : u_T := fun k => match k with
  | 0 => ("OneAnvilModel", "tape", "[B", true)
  | 1 => ("OneAnvilModel", "taped", "I", false)
  | 2 => ("OneAnvilModel", "rules", "I", false)
  | 3 => ("OneAnvilModel", "sign", "[I", true)
  | 4 => ("OneAnvilModel", "length", "[I", true)
  | 5 => ("OneAnvilModel", "clause", "[I", true)
  | 6 => ("OneAnvilModel", "clauses", "[I", true)
  | 7 => ("OneAnvilModel", "read", "[I", true)
  | 8 => ("OneAnvilModel", "next", "I", false)
  | 9 => ("OneAnvilModel", "wrong", "I", false)
  | 10 => ("OneAnvilModel", "number", "I", false)
  | 11 => ("OneAnvilModel", "text", "I", false)
  | 12 => ("OneAnvilModel", "made", "I", false)
  | 13 => ("OneAnvilModel", "deep", "I", false)
  | 14 => ("OneAnvilModel", "lines", "I", false)
  | 15 => ("OneAnvilModel", "open", "[I", true)
  | 16 => ("OneAnvilModel", "opened", "I", false)
  | 17 => ("OneAnvilModel", "stack", "[J", true)
  | 18 => ("OneAnvilModel", "top", "I", false)
  | 19 => ("OneAnvilModel", "word", "[J", true)
  | 20 => ("OneAnvilModel", "said", "[I", true)
  | 21 => ("OneAnvilModel", "force", "I", false)
  | 22 => ("OneAnvilModel", "x", "I", false)
  | 23 => ("OneAnvilModel", "without", "I", false)
  | 24 => ("OneAnvilModel", "willing", "I", false)
  | 25 => ("OneAnvilModel", "isForEver", "Z", false)
  | 26 => ("OneAnvilModel", "isSecond", "Z", false)
  | 27 => ("OneAnvilModel", "secondWorn", "I", false)
  | 28 => ("OneAnvilModel", "isCold", "Z", false)
  | 29 => ("OneAnvilModel", "took", "[I", true)
  | 30 => ("OneAnvilModel", "takenBy", "[I", true)
  | 31 => ("OneAnvilModel", "blows", "[I", true)
  | 32 => ("OneAnvilModel", "isSecondTaken", "Z", false)
  | 33 => ("OneAnvilModel", "wasSaid", "[I", true)
  | 34 => ("OneAnvilModel", "undone", "I", false)
  | 35 => ("OneAnvilModel", "kept", "[I", true)
  | 36 => ("OneAnvilModel", "roundBlows", "[I", true)
  | 37 => ("OneAnvilModel", "bestBeside", "[I", true)
  | 38 => ("OneAnvilModel", "besideMany", "I", false)
  | 39 => ("OneAnvilModel", "besidePay", "I", false)
  | 40 => ("OneAnvilModel", "openJob", "[I", true)
  | 41 => ("OneAnvilModel", "order", "[I", true)
  | 42 => ("OneAnvilModel", "bestOrder", "[I", true)
  | 43 => ("OneAnvilModel", "isFit", "[Z", true)
  | 44 => ("OneAnvilModel", "wornThen", "[I", true)
  | 45 => ("OneAnvilModel", "drawX", "J", false)
  | 46 => ("OneAnvilModel", "images", "[I", true)
  | 47 => ("OneAnvilModel", "imageForce", "[I", true)
  | 48 => ("OneAnvilModel", "imageX", "[I", true)
  | _ => ("OneAnvilModel", "isMade", "[Z", true)
def tyX12 : Nat → FieldType := fun k => match k with
  | 0 => .array .byte
  | 1 => .int
  | 2 => .int
  | 3 => .array .int
  | 4 => .array .int
  | 5 => .array .int
  | 6 => .array .int
  | 7 => .array .int
  | 8 => .int
  | 9 => .int
  | 10 => .int
  | 11 => .int
  | 12 => .int
  | 13 => .int
  | 14 => .int
  | 15 => .array .int
  | 16 => .int
  | 17 => .array .long
  | 18 => .int
  | 19 => .array .long
  | 20 => .array .int
  | 21 => .int
  | 22 => .int
  | 23 => .int
  | 24 => .int
  | 25 => .boolean
  | 26 => .boolean
  | 27 => .int
  | 28 => .boolean
  | 29 => .array .int
  | 30 => .array .int
  | 31 => .array .int
  | 32 => .boolean
  | 33 => .array .int
  | 34 => .int
  | 35 => .array .int
  | 36 => .array .int
  | 37 => .array .int
  | 38 => .int
  | 39 => .int
  | 40 => .array .int
  | 41 => .array .int
  | 42 => .array .int
  | 43 => .array .boolean
  | 44 => .array .int
  | 45 => .long
  | 46 => .array .int
  | 47 => .array .int
  | 48 => .array .int
  | _ => .array .boolean
abbrev wsX120 : List Cond := u_ws RX12 TX12 50
theorem nmX12 : ∀ a, a < 50 → ∀ b, b < 50 → a ≠ b → (TX12 a).2.1 ≠ (TX12 b).2.1 := by decide +kernel
theorem tyX12_ok : ∀ k, k < 50 → parseFieldDescriptor (TX12 k).2.2.1 = some (tyX12 k) := by decide +kernel
abbrev cX12_init : ByteArray := prog_14_method_1_code
def yX12_init : MethodName := ⟨RX12, "<init>", "()V"⟩
abbrev cX12_in : ByteArray := prog_14_method_2_code
def yX12_in : MethodName := ⟨RX12, "in", "(JJJ)Z"⟩
abbrev cX12_isOf : ByteArray := prog_14_method_3_code
def yX12_isOf : MethodName := ⟨RX12, "isOf", "(II)Z"⟩
abbrev cX12_four : ByteArray := prog_14_method_4_code
def yX12_four : MethodName := ⟨RX12, "four", "(I)V"⟩
abbrev cX12_feed : ByteArray := prog_14_method_5_code
def yX12_feed : MethodName := ⟨RX12, "feed", "(IIIII)I"⟩
abbrev cX12_end : ByteArray := prog_14_method_6_code
def yX12_end : MethodName := ⟨RX12, "end", "(I)I"⟩
abbrev cX12_fails : ByteArray := prog_14_method_7_code
def yX12_fails : MethodName := ⟨RX12, "fails", "(II)Z"⟩
abbrev cX12_see : ByteArray := prog_14_method_8_code
def yX12_see : MethodName := ⟨RX12, "see", "()I"⟩
abbrev cX12_isDigit : ByteArray := prog_14_method_9_code
def yX12_isDigit : MethodName := ⟨RX12, "isDigit", "(I)Z"⟩
abbrev cX12_isLetter : ByteArray := prog_14_method_10_code
def yX12_isLetter : MethodName := ⟨RX12, "isLetter", "(I)Z"⟩
abbrev cX12_isWord : ByteArray := prog_14_method_11_code
def yX12_isWord : MethodName := ⟨RX12, "isWord", "(J)Z"⟩
abbrev cX12_passWord : ByteArray := prog_14_method_12_code
def yX12_passWord : MethodName := ⟨RX12, "passWord", "()V"⟩
abbrev cX12_takesWord : ByteArray := prog_14_method_13_code
def yX12_takesWord : MethodName := ⟨RX12, "takesWord", "(J)Z"⟩
abbrev cX12_numberHere : ByteArray := prog_14_method_14_code
def yX12_numberHere : MethodName := ⟨RX12, "numberHere", "(II)Z"⟩
abbrev cX12_wordHere : ByteArray := prog_14_method_15_code
def yX12_wordHere : MethodName := ⟨RX12, "wordHere", "()I"⟩
abbrev cX12_puts : ByteArray := prog_14_method_16_code
def yX12_puts : MethodName := ⟨RX12, "puts", "(II)V"⟩
abbrev cX12_makes : ByteArray := prog_14_method_17_code
def yX12_makes : MethodName := ⟨RX12, "makes", "(I)Z"⟩
abbrev cX12_opens : ByteArray := prog_14_method_18_code
def yX12_opens : MethodName := ⟨RX12, "opens", "(I)Z"⟩
abbrev cX12_strength : ByteArray := prog_14_method_19_code
def yX12_strength : MethodName := ⟨RX12, "strength", "(I)I"⟩
abbrev cX12_settles : ByteArray := prog_14_method_20_code
def yX12_settles : MethodName := ⟨RX12, "settles", "(I)V"⟩
abbrev cX12_value : ByteArray := prog_14_method_21_code
def yX12_value : MethodName := ⟨RX12, "value", "()Z"⟩
abbrev cX12_term : ByteArray := prog_14_method_22_code
def yX12_term : MethodName := ⟨RX12, "term", "()Z"⟩
abbrev cX12_sum : ByteArray := prog_14_method_23_code
def yX12_sum : MethodName := ⟨RX12, "sum", "()Z"⟩
abbrev cX12_compare : ByteArray := prog_14_method_24_code
def yX12_compare : MethodName := ⟨RX12, "compare", "()Z"⟩
abbrev cX12_fact : ByteArray := prog_14_method_25_code
def yX12_fact : MethodName := ⟨RX12, "fact", "()Z"⟩
abbrev cX12_isInside : ByteArray := prog_14_method_26_code
def yX12_isInside : MethodName := ⟨RX12, "isInside", "()Z"⟩
abbrev cX12_closes : ByteArray := prog_14_method_27_code
def yX12_closes : MethodName := ⟨RX12, "closes", "()V"⟩
abbrev cX12_tested : ByteArray := prog_14_method_28_code
def yX12_tested : MethodName := ⟨RX12, "tested", "()Z"⟩
abbrev cX12_isStrikeHere : ByteArray := prog_14_method_29_code
def yX12_isStrikeHere : MethodName := ⟨RX12, "isStrikeHere", "()Z"⟩
abbrev cX12_cellHere : ByteArray := prog_14_method_30_code
def yX12_cellHere : MethodName := ⟨RX12, "cellHere", "(III)Z"⟩
abbrev cX12_isSmithyHere : ByteArray := prog_14_method_31_code
def yX12_isSmithyHere : MethodName := ⟨RX12, "isSmithyHere", "(I)Z"⟩
abbrev cX12_isSmithHere : ByteArray := prog_14_method_32_code
def yX12_isSmithHere : MethodName := ⟨RX12, "isSmithHere", "(I)Z"⟩
abbrev cX12_partHere : ByteArray := prog_14_method_33_code
def yX12_partHere : MethodName := ⟨RX12, "partHere", "()I"⟩
abbrev cX12_isJobHere : ByteArray := prog_14_method_34_code
def yX12_isJobHere : MethodName := ⟨RX12, "isJobHere", "(I)Z"⟩
abbrev cX12_isPartHere : ByteArray := prog_14_method_35_code
def yX12_isPartHere : MethodName := ⟨RX12, "isPartHere", "()Z"⟩
abbrev cX12_smithyLineHere : ByteArray := prog_14_method_36_code
def yX12_smithyLineHere : MethodName := ⟨RX12, "smithyLineHere", "(I)Z"⟩
abbrev cX12_isSmithyWord : ByteArray := prog_14_method_37_code
def yX12_isSmithyWord : MethodName := ⟨RX12, "isSmithyWord", "()Z"⟩
abbrev cX12_clauseHere : ByteArray := prog_14_method_38_code
def yX12_clauseHere : MethodName := ⟨RX12, "clauseHere", "()Z"⟩
abbrev cX12_readsAll : ByteArray := prog_14_method_39_code
def yX12_readsAll : MethodName := ⟨RX12, "readsAll", "()Z"⟩
abbrev cX12_rule : ByteArray := prog_14_method_40_code
def yX12_rule : MethodName := ⟨RX12, "rule", "()I"⟩
abbrev cX12_smithy : ByteArray := prog_14_method_41_code
def yX12_smithy : MethodName := ⟨RX12, "smithy", "()I"⟩
abbrev cX12_isRule : ByteArray := prog_14_method_42_code
def yX12_isRule : MethodName := ⟨RX12, "isRule", "(I)Z"⟩
abbrev cX12_push : ByteArray := prog_14_method_43_code
def yX12_push : MethodName := ⟨RX12, "push", "(J)V"⟩
abbrev cX12_pop : ByteArray := prog_14_method_44_code
def yX12_pop : MethodName := ⟨RX12, "pop", "()J"⟩
abbrev cX12_one : ByteArray := prog_14_method_45_code
def yX12_one : MethodName := ⟨RX12, "one", "(IJJ)J"⟩
abbrev cX12_reckons : ByteArray := prog_14_method_46_code
def yX12_reckons : MethodName := ⟨RX12, "reckons", "(III)J"⟩
abbrev cX12_isSmithy : ByteArray := prog_14_method_47_code
def yX12_isSmithy : MethodName := ⟨RX12, "isSmithy", "()Z"⟩
abbrev cX12_isSmith : ByteArray := prog_14_method_48_code
def yX12_isSmith : MethodName := ⟨RX12, "isSmith", "(I)Z"⟩
abbrev cX12_isJob : ByteArray := prog_14_method_49_code
def yX12_isJob : MethodName := ⟨RX12, "isJob", "(I)Z"⟩
abbrev cX12_smithOf : ByteArray := prog_14_method_50_code
def yX12_smithOf : MethodName := ⟨RX12, "smithOf", "(II)I"⟩
abbrev cX12_jobOf : ByteArray := prog_14_method_51_code
def yX12_jobOf : MethodName := ⟨RX12, "jobOf", "(II)I"⟩
abbrev cX12_isOpen : ByteArray := prog_14_method_52_code
def yX12_isOpen : MethodName := ⟨RX12, "isOpen", "(II)Z"⟩
abbrev cX12_jobNow : ByteArray := prog_14_method_53_code
def yX12_jobNow : MethodName := ⟨RX12, "jobNow", "(I)I"⟩
abbrev cX12_isHot : ByteArray := prog_14_method_54_code
def yX12_isHot : MethodName := ⟨RX12, "isHot", "(I)Z"⟩
abbrev cX12_needs : ByteArray := prog_14_method_55_code
def yX12_needs : MethodName := ⟨RX12, "needs", "(I)I"⟩
abbrev cX12_splitParts : ByteArray := prog_14_method_56_code
def yX12_splitParts : MethodName := ⟨RX12, "splitParts", "()I"⟩
abbrev cX12_force : ByteArray := prog_14_method_57_code
def yX12_force : MethodName := ⟨RX12, "force", "(I)I"⟩
abbrev cX12_smith : ByteArray := prog_14_method_58_code
def yX12_smith : MethodName := ⟨RX12, "smith", "(II)I"⟩
abbrev cX12_job : ByteArray := prog_14_method_59_code
def yX12_job : MethodName := ⟨RX12, "job", "(II)I"⟩
abbrev cX12_worn : ByteArray := prog_14_method_60_code
def yX12_worn : MethodName := ⟨RX12, "worn", "(I)I"⟩
abbrev cX12_rivalsOf : ByteArray := prog_14_method_61_code
def yX12_rivalsOf : MethodName := ⟨RX12, "rivalsOf", "(I)I"⟩
abbrev cX12_wornFor : ByteArray := prog_14_method_62_code
def yX12_wornFor : MethodName := ⟨RX12, "wornFor", "(I)I"⟩
abbrev cX12_words : ByteArray := prog_14_method_63_code
def yX12_words : MethodName := ⟨RX12, "words", "(I)V"⟩
abbrev cX12_summedBy : ByteArray := prog_14_method_64_code
def yX12_summedBy : MethodName := ⟨RX12, "summedBy", "(I)J"⟩
abbrev cX12_willsStrike : ByteArray := prog_14_method_65_code
def yX12_willsStrike : MethodName := ⟨RX12, "willsStrike", "(I)Z"⟩
abbrev cX12_takesTurns : ByteArray := prog_14_method_66_code
def yX12_takesTurns : MethodName := ⟨RX12, "takesTurns", "()V"⟩
abbrev cX12_heats : ByteArray := prog_14_method_67_code
def yX12_heats : MethodName := ⟨RX12, "heats", "(II)V"⟩
abbrev cX12_strikes : ByteArray := prog_14_method_68_code
def yX12_strikes : MethodName := ⟨RX12, "strikes", "(IIZ)V"⟩
abbrev cX12_goesOn : ByteArray := prog_14_method_69_code
def yX12_goesOn : MethodName := ⟨RX12, "goesOn", "(I)V"⟩
abbrev cX12_wears : ByteArray := prog_14_method_70_code
def yX12_wears : MethodName := ⟨RX12, "wears", "()V"⟩
abbrev cX12_passes : ByteArray := prog_14_method_71_code
def yX12_passes : MethodName := ⟨RX12, "passes", "()I"⟩
abbrev cX12_keepsAct : ByteArray := prog_14_method_72_code
def yX12_keepsAct : MethodName := ⟨RX12, "keepsAct", "()V"⟩
abbrev cX12_undo : ByteArray := prog_14_method_73_code
def yX12_undo : MethodName := ⟨RX12, "undo", "()I"⟩
abbrev cX12_moment : ByteArray := prog_14_method_74_code
def yX12_moment : MethodName := ⟨RX12, "moment", "()I"⟩
abbrev cX12_quench : ByteArray := prog_14_method_75_code
def yX12_quench : MethodName := ⟨RX12, "quench", "(I)I"⟩
abbrev cX12_mend : ByteArray := prog_14_method_76_code
def yX12_mend : MethodName := ⟨RX12, "mend", "(I)I"⟩
abbrev cX12_openMany : ByteArray := prog_14_method_77_code
def yX12_openMany : MethodName := ⟨RX12, "openMany", "(I)I"⟩
abbrev cX12_putsBehind : ByteArray := prog_14_method_78_code
def yX12_putsBehind : MethodName := ⟨RX12, "putsBehind", "(I)V"⟩
abbrev cX12_aside : ByteArray := prog_14_method_79_code
def yX12_aside : MethodName := ⟨RX12, "aside", "(I)I"⟩
abbrev cX12_keeps : ByteArray := prog_14_method_80_code
def yX12_keeps : MethodName := ⟨RX12, "keeps", "()V"⟩
abbrev cX12_laysBack : ByteArray := prog_14_method_81_code
def yX12_laysBack : MethodName := ⟨RX12, "laysBack", "()V"⟩
abbrev cX12_ahead : ByteArray := prog_14_method_82_code
def yX12_ahead : MethodName := ⟨RX12, "ahead", "(III)I"⟩
abbrev cX12_ready : ByteArray := prog_14_method_83_code
def yX12_ready : MethodName := ⟨RX12, "ready", "(I)I"⟩
abbrev cX12_areDone : ByteArray := prog_14_method_84_code
def yX12_areDone : MethodName := ⟨RX12, "areDone", "()Z"⟩
abbrev cX12_momentsLeft : ByteArray := prog_14_method_85_code
def yX12_momentsLeft : MethodName := ⟨RX12, "momentsLeft", "()I"⟩
abbrev cX12_all : ByteArray := prog_14_method_86_code
def yX12_all : MethodName := ⟨RX12, "all", "()I"⟩
abbrev cX12_power : ByteArray := prog_14_method_87_code
def yX12_power : MethodName := ⟨RX12, "power", "(I)I"⟩
abbrev cX12_setIn : ByteArray := prog_14_method_88_code
def yX12_setIn : MethodName := ⟨RX12, "setIn", "(III)I"⟩
abbrev cX12_blowsBy : ByteArray := prog_14_method_89_code
def yX12_blowsBy : MethodName := ⟨RX12, "blowsBy", "(II)I"⟩
abbrev cX12_rota : ByteArray := prog_14_method_90_code
def yX12_rota : MethodName := ⟨RX12, "rota", "(II)I"⟩
abbrev cX12_heatsThen : ByteArray := prog_14_method_91_code
def yX12_heatsThen : MethodName := ⟨RX12, "heatsThen", "(I)I"⟩
abbrev cX12_roundNow : ByteArray := prog_14_method_92_code
def yX12_roundNow : MethodName := ⟨RX12, "roundNow", "()I"⟩
abbrev cX12_round : ByteArray := prog_14_method_93_code
def yX12_round : MethodName := ⟨RX12, "round", "(I)I"⟩
abbrev cX12_ninth : ByteArray := prog_14_method_94_code
def yX12_ninth : MethodName := ⟨RX12, "ninth", "(I)I"⟩
abbrev cX12_jobIn : ByteArray := prog_14_method_95_code
def yX12_jobIn : MethodName := ⟨RX12, "jobIn", "(II)I"⟩
abbrev cX12_countsBeside : ByteArray := prog_14_method_96_code
def yX12_countsBeside : MethodName := ⟨RX12, "countsBeside", "(I)V"⟩
abbrev cX12_beside : ByteArray := prog_14_method_97_code
def yX12_beside : MethodName := ⟨RX12, "beside", "(I)I"⟩
abbrev cX12_othersBlows : ByteArray := prog_14_method_98_code
def yX12_othersBlows : MethodName := ⟨RX12, "othersBlows", "(II)I"⟩
abbrev cX12_worth : ByteArray := prog_14_method_99_code
def yX12_worth : MethodName := ⟨RX12, "worth", "(II)I"⟩
abbrev cX12_splits : ByteArray := prog_14_method_100_code
def yX12_splits : MethodName := ⟨RX12, "splits", "(II)I"⟩
abbrev cX12_orders : ByteArray := prog_14_method_101_code
def yX12_orders : MethodName := ⟨RX12, "orders", "(I)I"⟩
abbrev cX12_laysOrder : ByteArray := prog_14_method_102_code
def yX12_laysOrder : MethodName := ⟨RX12, "laysOrder", "(II)V"⟩
abbrev cX12_momentsBy : ByteArray := prog_14_method_103_code
def yX12_momentsBy : MethodName := ⟨RX12, "momentsBy", "(II)I"⟩
abbrev cX12_order : ByteArray := prog_14_method_104_code
def yX12_order : MethodName := ⟨RX12, "order", "(II)I"⟩
abbrev cX12_note : ByteArray := prog_14_method_105_code
def yX12_note : MethodName := ⟨RX12, "note", "(III)I"⟩
abbrev cX12_begins : ByteArray := prog_14_method_106_code
def yX12_begins : MethodName := ⟨RX12, "begins", "()V"⟩
abbrev cX12_areNotesSo : ByteArray := prog_14_method_107_code
def yX12_areNotesSo : MethodName := ⟨RX12, "areNotesSo", "()Z"⟩
abbrev cX12_gathersRules : ByteArray := prog_14_method_108_code
def yX12_gathersRules : MethodName := ⟨RX12, "gathersRules", "(I)V"⟩
abbrev cX12_ruled : ByteArray := prog_14_method_109_code
def yX12_ruled : MethodName := ⟨RX12, "ruled", "(I)I"⟩
abbrev cX12_alikeOf : ByteArray := prog_14_method_110_code
def yX12_alikeOf : MethodName := ⟨RX12, "alikeOf", "(I)I"⟩
abbrev cX12_look : ByteArray := prog_14_method_111_code
def yX12_look : MethodName := ⟨RX12, "look", "(II)I"⟩
abbrev cX12_second : ByteArray := prog_14_method_112_code
def yX12_second : MethodName := ⟨RX12, "second", "()I"⟩
abbrev cX12_seed : ByteArray := prog_14_method_113_code
def yX12_seed : MethodName := ⟨RX12, "seed", "(I)I"⟩
abbrev cX12_draw : ByteArray := prog_14_method_114_code
def yX12_draw : MethodName := ⟨RX12, "draw", "(I)I"⟩
abbrev cX12_countOf : ByteArray := prog_14_method_115_code
def yX12_countOf : MethodName := ⟨RX12, "countOf", "(I)I"⟩
abbrev cX12_days : ByteArray := prog_14_method_116_code
def yX12_days : MethodName := ⟨RX12, "days", "(IIII)I"⟩
abbrev cX12_count : ByteArray := prog_14_method_117_code
def yX12_count : MethodName := ⟨RX12, "count", "(I)I"⟩
abbrev cX12_image : ByteArray := prog_14_method_118_code
def yX12_image : MethodName := ⟨RX12, "image", "(I)I"⟩
abbrev cX12_back : ByteArray := prog_14_method_119_code
def yX12_back : MethodName := ⟨RX12, "back", "(I)I"⟩
def RJ6 : String := "java/lang/Integer"
abbrev cJ6_bitCount_0f7a4 : ByteArray := prog_15_method_49_code
def yJ6_bitCount_0f7a4 : MethodName := ⟨RJ6, "bitCount", "(I)I"⟩
def RJ9 : String := "java/lang/Math"
abbrev cJ9_max_7cf53 : ByteArray := prog_16_method_65_code
def yJ9_max_7cf53 : MethodName := ⟨RJ9, "max", "(II)I"⟩
abbrev cJ9_min_7cf53 : ByteArray := prog_16_method_69_code
def yJ9_min_7cf53 : MethodName := ⟨RJ9, "min", "(II)I"⟩
def RJ0 : String := "java/lang/String"
abbrev cJ0_length_8abf5 : ByteArray := prog_17_method_54_code
def yJ0_length_8abf5 : MethodName := ⟨RJ0, "length", "()I"⟩
abbrev cJ0_charAt_5068e : ByteArray := prog_17_method_56_code
def yJ0_charAt_5068e : MethodName := ⟨RJ0, "charAt", "(I)C"⟩
abbrev cJ0_coder_7d493 : ByteArray := prog_17_method_152_code
def yJ0_coder_7d493 : MethodName := ⟨RJ0, "coder", "()B"⟩
abbrev cJ0_isLatin1_aae02 : ByteArray := prog_17_method_154_code
def yJ0_isLatin1_aae02 : MethodName := ⟨RJ0, "isLatin1", "()Z"⟩
abbrev cJ0_checkIndex_df160 : ByteArray := prog_17_method_155_code
def yJ0_checkIndex_df160 : MethodName := ⟨RJ0, "checkIndex", "(II)V"⟩
def RJ1 : String := "java/lang/StringLatin1"
abbrev cJ1_charAt_3b067 : ByteArray := prog_18_method_2_code
def yJ1_charAt_3b067 : MethodName := ⟨RJ1, "charAt", "([BI)C"⟩
def RJ2 : String := "java/lang/StringUTF16"
abbrev cJ2_getChar_3b067 : ByteArray := prog_19_method_5_code
def yJ2_getChar_3b067 : MethodName := ⟨RJ2, "getChar", "([BI)C"⟩
abbrev cJ2_length_9d52b : ByteArray := prog_19_method_6_code
def yJ2_length_9d52b : MethodName := ⟨RJ2, "length", "([B)I"⟩
abbrev cJ2_charAt_3b067 : ByteArray := prog_19_method_83_code
def yJ2_charAt_3b067 : MethodName := ⟨RJ2, "charAt", "([BI)C"⟩
abbrev cJ2_checkIndex_2214a : ByteArray := prog_19_method_91_code
def yJ2_checkIndex_2214a : MethodName := ⟨RJ2, "checkIndex", "(I[B)V"⟩
def RJ3 : String := "jdk/internal/util/Preconditions"
abbrev cJ3_checkIndex_8e157 : ByteArray := prog_20_method_11_code
def yJ3_checkIndex_8e157 : MethodName := ⟨RJ3, "checkIndex", "(IILjava/util/function/BiFunction;)I"⟩
def RL : String := "OneAnvilLaw"
abbrev cL_law : ByteArray := code
abbrev vwCl : List vw_C := [(RX0, TX0, 10), (RX1, TX1, 7), (RX2, TX2, 14), (RX3, TX3, 4), (RX4, TX4, 14), (RX5, TX5, 8), (RX6, TX6, 5), (RX7, TX7, 10), (RX8, TX8, 4), (RX9, TX9, 6), (RX10, TX10, 5), (RX11, TX11, 15), (RX12, TX12, 50)]
