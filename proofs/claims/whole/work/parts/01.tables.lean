-- ===== PART A: goes FIRST, ahead of the names: the tables' words, and 'selects' of the private methods out of them =====
/-- a private method of a class that the tables say can be made, by its rows of tables_1 -/
def lw_okq (q : MethodName × Nat) : Prop := (q.1.cls ≠ "java/lang/invoke/MethodHandle" ∧ q.1.cls ≠ "java/lang/invoke/VarHandle") ∧ Cond.instantiable q.1.cls q.2 ∈ tables_1 ∧ Cond.privateMethod q.1 ∈ tables_1 ∧ Cond.instanceMethod q.1 ∈ tables_1
theorem lw_p0 : lw_okq (⟨"StepRegisters", "changed", "()V"⟩, 7) := ⟨⟨by decide +kernel, by decide +kernel⟩, List.mem_of_getElem? (i := 15) (by decide +kernel), List.mem_of_getElem? (i := 326) (by decide +kernel), List.mem_of_getElem? (i := 327) (by decide +kernel)⟩
theorem lw_p1 : lw_okq (⟨"StepRegisters$Sight", "add", "(I)V"⟩, 2) := ⟨⟨by decide +kernel, by decide +kernel⟩, List.mem_of_getElem? (i := 74) (by decide +kernel), List.mem_of_getElem? (i := 375) (by decide +kernel), List.mem_of_getElem? (i := 376) (by decide +kernel)⟩
theorem lw_p2 : lw_okq (⟨"StepRegisters$Planner", "listUsed", "()V"⟩, 16) := ⟨⟨by decide +kernel, by decide +kernel⟩, List.mem_of_getElem? (i := 138) (by decide +kernel), List.mem_of_getElem? (i := 401) (by decide +kernel), List.mem_of_getElem? (i := 402) (by decide +kernel)⟩
theorem lw_p3 : lw_okq (⟨"StepRegisters$Planner", "divide", "(II)V"⟩, 16) := ⟨⟨by decide +kernel, by decide +kernel⟩, List.mem_of_getElem? (i := 138) (by decide +kernel), List.mem_of_getElem? (i := 409) (by decide +kernel), List.mem_of_getElem? (i := 410) (by decide +kernel)⟩
theorem lw_p4 : lw_okq (⟨"StepRegisters$Planner", "compare", "(I)V"⟩, 16) := ⟨⟨by decide +kernel, by decide +kernel⟩, List.mem_of_getElem? (i := 138) (by decide +kernel), List.mem_of_getElem? (i := 413) (by decide +kernel), List.mem_of_getElem? (i := 414) (by decide +kernel)⟩
theorem lw_p5 : lw_okq (⟨"StepRegisters$Walk", "has", "(I)Z"⟩, 10) := ⟨⟨by decide +kernel, by decide +kernel⟩, List.mem_of_getElem? (i := 89) (by decide +kernel), List.mem_of_getElem? (i := 426) (by decide +kernel), List.mem_of_getElem? (i := 427) (by decide +kernel)⟩
theorem lw_p6 : lw_okq (⟨"StepRegisters$Walk", "fork", "(II)V"⟩, 10) := ⟨⟨by decide +kernel, by decide +kernel⟩, List.mem_of_getElem? (i := 89) (by decide +kernel), List.mem_of_getElem? (i := 430) (by decide +kernel), List.mem_of_getElem? (i := 431) (by decide +kernel)⟩
theorem lw_p7 : lw_okq (⟨"StepRegisters$Walk", "addFork", "(III)V"⟩, 10) := ⟨⟨by decide +kernel, by decide +kernel⟩, List.mem_of_getElem? (i := 89) (by decide +kernel), List.mem_of_getElem? (i := 434) (by decide +kernel), List.mem_of_getElem? (i := 435) (by decide +kernel)⟩
theorem lw_p8 : lw_okq (⟨"StepRegisters$Walk", "pair", "(II)V"⟩, 10) := ⟨⟨by decide +kernel, by decide +kernel⟩, List.mem_of_getElem? (i := 89) (by decide +kernel), List.mem_of_getElem? (i := 438) (by decide +kernel), List.mem_of_getElem? (i := 439) (by decide +kernel)⟩
theorem lw_p9 : lw_okq (⟨"StepRegisters$Walk", "pass", "(I)V"⟩, 10) := ⟨⟨by decide +kernel, by decide +kernel⟩, List.mem_of_getElem? (i := 89) (by decide +kernel), List.mem_of_getElem? (i := 442) (by decide +kernel), List.mem_of_getElem? (i := 443) (by decide +kernel)⟩
theorem lw_p10 : lw_okq (⟨"StepRegisters$Laying", "findTwins", "()V"⟩, 7) := ⟨⟨by decide +kernel, by decide +kernel⟩, List.mem_of_getElem? (i := 148) (by decide +kernel), List.mem_of_getElem? (i := 446) (by decide +kernel), List.mem_of_getElem? (i := 447) (by decide +kernel)⟩
theorem lw_p11 : lw_okq (⟨"StepRegisters$Laying", "lay", "(III)V"⟩, 7) := ⟨⟨by decide +kernel, by decide +kernel⟩, List.mem_of_getElem? (i := 148) (by decide +kernel), List.mem_of_getElem? (i := 454) (by decide +kernel), List.mem_of_getElem? (i := 455) (by decide +kernel)⟩
theorem lw_p12 : lw_okq (⟨"StepRegisters$Laying", "keep", "()V"⟩, 7) := ⟨⟨by decide +kernel, by decide +kernel⟩, List.mem_of_getElem? (i := 148) (by decide +kernel), List.mem_of_getElem? (i := 469) (by decide +kernel), List.mem_of_getElem? (i := 470) (by decide +kernel)⟩
theorem lw_p13 : lw_okq (⟨"StepRegisters$Planner", "write", "(LStepRegisters$Plan;)V"⟩, 16) := ⟨⟨by decide +kernel, by decide +kernel⟩, List.mem_of_getElem? (i := 138) (by decide +kernel), List.mem_of_getElem? (i := 484) (by decide +kernel), List.mem_of_getElem? (i := 485) (by decide +kernel)⟩
theorem lw_p14 : lw_okq (⟨"StepRegisters$Planner", "turnedIn", "(I[I)I"⟩, 16) := ⟨⟨by decide +kernel, by decide +kernel⟩, List.mem_of_getElem? (i := 138) (by decide +kernel), List.mem_of_getElem? (i := 488) (by decide +kernel), List.mem_of_getElem? (i := 489) (by decide +kernel)⟩
theorem lw_p15 : lw_okq (⟨"StepRegisters", "weights", "()[I"⟩, 7) := ⟨⟨by decide +kernel, by decide +kernel⟩, List.mem_of_getElem? (i := 15) (by decide +kernel), List.mem_of_getElem? (i := 530) (by decide +kernel), List.mem_of_getElem? (i := 531) (by decide +kernel)⟩
def lw_privs_1 : List (MethodName × Nat) := [(⟨"StepRegisters", "changed", "()V"⟩, 7), (⟨"StepRegisters$Sight", "add", "(I)V"⟩, 2), (⟨"StepRegisters$Planner", "listUsed", "()V"⟩, 16), (⟨"StepRegisters$Planner", "divide", "(II)V"⟩, 16), (⟨"StepRegisters$Planner", "compare", "(I)V"⟩, 16), (⟨"StepRegisters$Walk", "has", "(I)Z"⟩, 10), (⟨"StepRegisters$Walk", "fork", "(II)V"⟩, 10), (⟨"StepRegisters$Walk", "addFork", "(III)V"⟩, 10), (⟨"StepRegisters$Walk", "pair", "(II)V"⟩, 10), (⟨"StepRegisters$Walk", "pass", "(I)V"⟩, 10), (⟨"StepRegisters$Laying", "findTwins", "()V"⟩, 7), (⟨"StepRegisters$Laying", "lay", "(III)V"⟩, 7), (⟨"StepRegisters$Laying", "keep", "()V"⟩, 7), (⟨"StepRegisters$Planner", "write", "(LStepRegisters$Plan;)V"⟩, 16), (⟨"StepRegisters$Planner", "turnedIn", "(I[I)I"⟩, 16), (⟨"StepRegisters", "weights", "()[I"⟩, 7)]
theorem lw_r1 : ∀ q ∈ lw_privs_1, lw_okq q := List.forall_mem_cons.mpr ⟨lw_p0, List.forall_mem_cons.mpr ⟨lw_p1, List.forall_mem_cons.mpr ⟨lw_p2, List.forall_mem_cons.mpr ⟨lw_p3, List.forall_mem_cons.mpr ⟨lw_p4, List.forall_mem_cons.mpr ⟨lw_p5, List.forall_mem_cons.mpr ⟨lw_p6, List.forall_mem_cons.mpr ⟨lw_p7, List.forall_mem_cons.mpr ⟨lw_p8, List.forall_mem_cons.mpr ⟨lw_p9, List.forall_mem_cons.mpr ⟨lw_p10, List.forall_mem_cons.mpr ⟨lw_p11, List.forall_mem_cons.mpr ⟨lw_p12, List.forall_mem_cons.mpr ⟨lw_p13, List.forall_mem_cons.mpr ⟨lw_p14, List.forall_mem_cons.mpr ⟨lw_p15, fun _ h => absurd h List.not_mem_nil⟩⟩⟩⟩⟩⟩⟩⟩⟩⟩⟩⟩⟩⟩⟩⟩
theorem lw_p16 : lw_okq (⟨"StepRegisters$Greedy", "load", "([I)I"⟩, 6) := ⟨⟨by decide +kernel, by decide +kernel⟩, List.mem_of_getElem? (i := 265) (by decide +kernel), List.mem_of_getElem? (i := 544) (by decide +kernel), List.mem_of_getElem? (i := 545) (by decide +kernel)⟩
theorem lw_p17 : lw_okq (⟨"StepRegisters$Greedy", "greatest", "()I"⟩, 6) := ⟨⟨by decide +kernel, by decide +kernel⟩, List.mem_of_getElem? (i := 265) (by decide +kernel), List.mem_of_getElem? (i := 548) (by decide +kernel), List.mem_of_getElem? (i := 549) (by decide +kernel)⟩
theorem lw_p18 : lw_okq (⟨"StepRegisters$Greedy", "join", "(II)V"⟩, 6) := ⟨⟨by decide +kernel, by decide +kernel⟩, List.mem_of_getElem? (i := 265) (by decide +kernel), List.mem_of_getElem? (i := 552) (by decide +kernel), List.mem_of_getElem? (i := 553) (by decide +kernel)⟩
theorem lw_p19 : lw_okq (⟨"StepRegisters", "first", "()I"⟩, 7) := ⟨⟨by decide +kernel, by decide +kernel⟩, List.mem_of_getElem? (i := 15) (by decide +kernel), List.mem_of_getElem? (i := 574) (by decide +kernel), List.mem_of_getElem? (i := 575) (by decide +kernel)⟩
theorem lw_p20 : lw_okq (⟨"StepRegistersModel", "change", "()V"⟩, 29) := ⟨⟨by decide +kernel, by decide +kernel⟩, List.mem_of_getElem? (i := 595) (by decide +kernel), List.mem_of_getElem? (i := 699) (by decide +kernel), List.mem_of_getElem? (i := 700) (by decide +kernel)⟩
theorem lw_p21 : lw_okq (⟨"StepRegistersModel", "isStatement", "(I)Z"⟩, 29) := ⟨⟨by decide +kernel, by decide +kernel⟩, List.mem_of_getElem? (i := 595) (by decide +kernel), List.mem_of_getElem? (i := 707) (by decide +kernel), List.mem_of_getElem? (i := 708) (by decide +kernel)⟩
theorem lw_p22 : lw_okq (⟨"StepRegistersModel", "layLine", "(I)I"⟩, 29) := ⟨⟨by decide +kernel, by decide +kernel⟩, List.mem_of_getElem? (i := 595) (by decide +kernel), List.mem_of_getElem? (i := 736) (by decide +kernel), List.mem_of_getElem? (i := 737) (by decide +kernel)⟩
theorem lw_p23 : lw_okq (⟨"StepRegistersModel", "seen", "(IIZ)I"⟩, 29) := ⟨⟨by decide +kernel, by decide +kernel⟩, List.mem_of_getElem? (i := 595) (by decide +kernel), List.mem_of_getElem? (i := 743) (by decide +kernel), List.mem_of_getElem? (i := 744) (by decide +kernel)⟩
theorem lw_p24 : lw_okq (⟨"StepRegistersModel", "layPlan", "(II)V"⟩, 29) := ⟨⟨by decide +kernel, by decide +kernel⟩, List.mem_of_getElem? (i := 595) (by decide +kernel), List.mem_of_getElem? (i := 754) (by decide +kernel), List.mem_of_getElem? (i := 755) (by decide +kernel)⟩
theorem lw_p25 : lw_okq (⟨"StepRegistersModel", "laySets", "(I)V"⟩, 29) := ⟨⟨by decide +kernel, by decide +kernel⟩, List.mem_of_getElem? (i := 595) (by decide +kernel), List.mem_of_getElem? (i := 758) (by decide +kernel), List.mem_of_getElem? (i := 759) (by decide +kernel)⟩
theorem lw_p26 : lw_okq (⟨"StepRegistersModel", "usedOnes", "()I"⟩, 29) := ⟨⟨by decide +kernel, by decide +kernel⟩, List.mem_of_getElem? (i := 595) (by decide +kernel), List.mem_of_getElem? (i := 762) (by decide +kernel), List.mem_of_getElem? (i := 763) (by decide +kernel)⟩
theorem lw_p27 : lw_okq (⟨"StepRegistersModel", "laySet", "(II)V"⟩, 29) := ⟨⟨by decide +kernel, by decide +kernel⟩, List.mem_of_getElem? (i := 595) (by decide +kernel), List.mem_of_getElem? (i := 766) (by decide +kernel), List.mem_of_getElem? (i := 767) (by decide +kernel)⟩
theorem lw_p28 : lw_okq (⟨"StepRegistersModel", "layPay", "(II)I"⟩, 29) := ⟨⟨by decide +kernel, by decide +kernel⟩, List.mem_of_getElem? (i := 595) (by decide +kernel), List.mem_of_getElem? (i := 770) (by decide +kernel), List.mem_of_getElem? (i := 771) (by decide +kernel)⟩
theorem lw_p29 : lw_okq (⟨"StepRegistersModel", "payBehind", "(IZII)I"⟩, 29) := ⟨⟨by decide +kernel, by decide +kernel⟩, List.mem_of_getElem? (i := 595) (by decide +kernel), List.mem_of_getElem? (i := 774) (by decide +kernel), List.mem_of_getElem? (i := 775) (by decide +kernel)⟩
theorem lw_p30 : lw_okq (⟨"StepRegistersModel", "costOf", "(IZII)I"⟩, 29) := ⟨⟨by decide +kernel, by decide +kernel⟩, List.mem_of_getElem? (i := 595) (by decide +kernel), List.mem_of_getElem? (i := 778) (by decide +kernel), List.mem_of_getElem? (i := 779) (by decide +kernel)⟩
theorem lw_p31 : lw_okq (⟨"StepRegistersModel", "isFar", "(II)Z"⟩, 29) := ⟨⟨by decide +kernel, by decide +kernel⟩, List.mem_of_getElem? (i := 595) (by decide +kernel), List.mem_of_getElem? (i := 782) (by decide +kernel), List.mem_of_getElem? (i := 783) (by decide +kernel)⟩
def lw_privs_2 : List (MethodName × Nat) := [(⟨"StepRegisters$Greedy", "load", "([I)I"⟩, 6), (⟨"StepRegisters$Greedy", "greatest", "()I"⟩, 6), (⟨"StepRegisters$Greedy", "join", "(II)V"⟩, 6), (⟨"StepRegisters", "first", "()I"⟩, 7), (⟨"StepRegistersModel", "change", "()V"⟩, 29), (⟨"StepRegistersModel", "isStatement", "(I)Z"⟩, 29), (⟨"StepRegistersModel", "layLine", "(I)I"⟩, 29), (⟨"StepRegistersModel", "seen", "(IIZ)I"⟩, 29), (⟨"StepRegistersModel", "layPlan", "(II)V"⟩, 29), (⟨"StepRegistersModel", "laySets", "(I)V"⟩, 29), (⟨"StepRegistersModel", "usedOnes", "()I"⟩, 29), (⟨"StepRegistersModel", "laySet", "(II)V"⟩, 29), (⟨"StepRegistersModel", "layPay", "(II)I"⟩, 29), (⟨"StepRegistersModel", "payBehind", "(IZII)I"⟩, 29), (⟨"StepRegistersModel", "costOf", "(IZII)I"⟩, 29), (⟨"StepRegistersModel", "isFar", "(II)Z"⟩, 29)]
theorem lw_r2 : ∀ q ∈ lw_privs_2, lw_okq q := List.forall_mem_cons.mpr ⟨lw_p16, List.forall_mem_cons.mpr ⟨lw_p17, List.forall_mem_cons.mpr ⟨lw_p18, List.forall_mem_cons.mpr ⟨lw_p19, List.forall_mem_cons.mpr ⟨lw_p20, List.forall_mem_cons.mpr ⟨lw_p21, List.forall_mem_cons.mpr ⟨lw_p22, List.forall_mem_cons.mpr ⟨lw_p23, List.forall_mem_cons.mpr ⟨lw_p24, List.forall_mem_cons.mpr ⟨lw_p25, List.forall_mem_cons.mpr ⟨lw_p26, List.forall_mem_cons.mpr ⟨lw_p27, List.forall_mem_cons.mpr ⟨lw_p28, List.forall_mem_cons.mpr ⟨lw_p29, List.forall_mem_cons.mpr ⟨lw_p30, List.forall_mem_cons.mpr ⟨lw_p31, fun _ h => absurd h List.not_mem_nil⟩⟩⟩⟩⟩⟩⟩⟩⟩⟩⟩⟩⟩⟩⟩⟩
theorem lw_p32 : lw_okq (⟨"StepRegistersModel", "canTurn", "(I)Z"⟩, 29) := ⟨⟨by decide +kernel, by decide +kernel⟩, List.mem_of_getElem? (i := 595) (by decide +kernel), List.mem_of_getElem? (i := 786) (by decide +kernel), List.mem_of_getElem? (i := 787) (by decide +kernel)⟩
theorem lw_p33 : lw_okq (⟨"StepRegistersModel", "isNext", "(I)Z"⟩, 29) := ⟨⟨by decide +kernel, by decide +kernel⟩, List.mem_of_getElem? (i := 595) (by decide +kernel), List.mem_of_getElem? (i := 790) (by decide +kernel), List.mem_of_getElem? (i := 791) (by decide +kernel)⟩
theorem lw_p34 : lw_okq (⟨"StepRegistersModel", "swap", "(II)V"⟩, 29) := ⟨⟨by decide +kernel, by decide +kernel⟩, List.mem_of_getElem? (i := 595) (by decide +kernel), List.mem_of_getElem? (i := 794) (by decide +kernel), List.mem_of_getElem? (i := 795) (by decide +kernel)⟩
theorem lw_p35 : lw_okq (⟨"StepRegistersModel", "part", "(III)V"⟩, 29) := ⟨⟨by decide +kernel, by decide +kernel⟩, List.mem_of_getElem? (i := 595) (by decide +kernel), List.mem_of_getElem? (i := 804) (by decide +kernel), List.mem_of_getElem? (i := 805) (by decide +kernel)⟩
theorem lw_p36 : lw_okq (⟨"StepRegistersModel", "costNow", "(I)I"⟩, 29) := ⟨⟨by decide +kernel, by decide +kernel⟩, List.mem_of_getElem? (i := 595) (by decide +kernel), List.mem_of_getElem? (i := 808) (by decide +kernel), List.mem_of_getElem? (i := 809) (by decide +kernel)⟩
theorem lw_p37 : lw_okq (⟨"StepRegistersModel", "turnedFor", "(II)I"⟩, 29) := ⟨⟨by decide +kernel, by decide +kernel⟩, List.mem_of_getElem? (i := 595) (by decide +kernel), List.mem_of_getElem? (i := 812) (by decide +kernel), List.mem_of_getElem? (i := 813) (by decide +kernel)⟩
theorem lw_p38 : lw_okq (⟨"StepRegistersModel", "layWeights", "()V"⟩, 29) := ⟨⟨by decide +kernel, by decide +kernel⟩, List.mem_of_getElem? (i := 595) (by decide +kernel), List.mem_of_getElem? (i := 832) (by decide +kernel), List.mem_of_getElem? (i := 833) (by decide +kernel)⟩
theorem lw_p39 : lw_okq (⟨"StepRegistersModel", "layTaken", "()V"⟩, 29) := ⟨⟨by decide +kernel, by decide +kernel⟩, List.mem_of_getElem? (i := 595) (by decide +kernel), List.mem_of_getElem? (i := 840) (by decide +kernel), List.mem_of_getElem? (i := 841) (by decide +kernel)⟩
theorem lw_p40 : lw_okq (⟨"StepRegistersModel", "heaviest", "()I"⟩, 29) := ⟨⟨by decide +kernel, by decide +kernel⟩, List.mem_of_getElem? (i := 595) (by decide +kernel), List.mem_of_getElem? (i := 844) (by decide +kernel), List.mem_of_getElem? (i := 845) (by decide +kernel)⟩
theorem lw_p41 : lw_okq (⟨"StepRegistersModel", "greedyCost", "()I"⟩, 29) := ⟨⟨by decide +kernel, by decide +kernel⟩, List.mem_of_getElem? (i := 595) (by decide +kernel), List.mem_of_getElem? (i := 860) (by decide +kernel), List.mem_of_getElem? (i := 861) (by decide +kernel)⟩
theorem lw_p42 : lw_okq (⟨"StepRegistersModel", "bound", "()I"⟩, 29) := ⟨⟨by decide +kernel, by decide +kernel⟩, List.mem_of_getElem? (i := 595) (by decide +kernel), List.mem_of_getElem? (i := 864) (by decide +kernel), List.mem_of_getElem? (i := 865) (by decide +kernel)⟩
def lw_privs_3 : List (MethodName × Nat) := [(⟨"StepRegistersModel", "canTurn", "(I)Z"⟩, 29), (⟨"StepRegistersModel", "isNext", "(I)Z"⟩, 29), (⟨"StepRegistersModel", "swap", "(II)V"⟩, 29), (⟨"StepRegistersModel", "part", "(III)V"⟩, 29), (⟨"StepRegistersModel", "costNow", "(I)I"⟩, 29), (⟨"StepRegistersModel", "turnedFor", "(II)I"⟩, 29), (⟨"StepRegistersModel", "layWeights", "()V"⟩, 29), (⟨"StepRegistersModel", "layTaken", "()V"⟩, 29), (⟨"StepRegistersModel", "heaviest", "()I"⟩, 29), (⟨"StepRegistersModel", "greedyCost", "()I"⟩, 29), (⟨"StepRegistersModel", "bound", "()I"⟩, 29)]
theorem lw_r3 : ∀ q ∈ lw_privs_3, lw_okq q := List.forall_mem_cons.mpr ⟨lw_p32, List.forall_mem_cons.mpr ⟨lw_p33, List.forall_mem_cons.mpr ⟨lw_p34, List.forall_mem_cons.mpr ⟨lw_p35, List.forall_mem_cons.mpr ⟨lw_p36, List.forall_mem_cons.mpr ⟨lw_p37, List.forall_mem_cons.mpr ⟨lw_p38, List.forall_mem_cons.mpr ⟨lw_p39, List.forall_mem_cons.mpr ⟨lw_p40, List.forall_mem_cons.mpr ⟨lw_p41, List.forall_mem_cons.mpr ⟨lw_p42, fun _ h => absurd h List.not_mem_nil⟩⟩⟩⟩⟩⟩⟩⟩⟩⟩⟩
def lw_privs : List (MethodName × Nat) := lw_privs_1 ++ (lw_privs_2 ++ (lw_privs_3))
def lw_tbl : List Cond := k2_sels lw_privs ++ tables_1
theorem lw_privs_ok : ∀ q ∈ lw_privs, lw_okq q := by
  show ∀ q ∈ lw_privs_1 ++ (lw_privs_2 ++ (lw_privs_3)), lw_okq q
  exact List.forall_mem_append.mpr ⟨lw_r1, List.forall_mem_append.mpr ⟨lw_r2, lw_r3⟩⟩
def RX0 : String := "StepRegisters$Greedy"
def TX0 : u_T := fun k => match k with
  | 0 => ("StepRegisters$Greedy", "takenPairs", "[Z", true)
  | 1 => ("StepRegisters$Greedy", "rest", "[I", true)
  | 2 => ("StepRegisters$Greedy", "degrees", "[I", true)
  | 3 => ("StepRegisters$Greedy", "groups", "[I", true)
  | 4 => ("StepRegisters$Greedy", "pairs", "I", false)
  | _ => ("StepRegisters$Greedy", "left", "I", false)
def tyX0 : Nat → FieldType := fun k => match k with
  | 0 => .array .boolean
  | 1 => .array .int
  | 2 => .array .int
  | 3 => .array .int
  | 4 => .int
  | _ => .int
abbrev wsX00 : List Cond := u_ws RX0 TX0 6
theorem nmX0 : ∀ a, a < 6 → ∀ b, b < 6 → a ≠ b → (TX0 a).2.1 ≠ (TX0 b).2.1 := by decide +kernel
theorem tyX0_ok : ∀ k, k < 6 → parseFieldDescriptor (TX0 k).2.2.1 = some (tyX0 k) := by decide +kernel
abbrev cX0_init : ByteArray := prog_2_method_1_code
def yX0_init : MethodName := ⟨RX0, "<init>", "()V"⟩
abbrev cX0_has : ByteArray := prog_2_method_2_code
def yX0_has : MethodName := ⟨RX0, "has", "(II)Z"⟩
abbrev cX0_take : ByteArray := prog_2_method_3_code
def yX0_take : MethodName := ⟨RX0, "take", "([I)V"⟩
abbrev cX0_leftByGreatest : ByteArray := prog_2_method_4_code
def yX0_leftByGreatest : MethodName := ⟨RX0, "leftByGreatest", "([II)I"⟩
abbrev cX0_load : ByteArray := prog_2_method_5_code
def yX0_load : MethodName := ⟨RX0, "load", "([I)I"⟩
abbrev cX0_greatest : ByteArray := prog_2_method_6_code
def yX0_greatest : MethodName := ⟨RX0, "greatest", "()I"⟩
abbrev cX0_join : ByteArray := prog_2_method_7_code
def yX0_join : MethodName := ⟨RX0, "join", "(II)V"⟩
def RX1 : String := "StepRegisters$Laying"
def TX1 : u_T := fun k => match k with
  | 0 => ("StepRegisters$Laying", "walk", "LStepRegisters$Walk;", true)
  | 1 => ("StepRegisters$Laying", "cells", "[I", true)
  | 2 => ("StepRegisters$Laying", "members", "[I", true)
  | 3 => ("StepRegisters$Laying", "twins", "[I", true)
  | 4 => ("StepRegisters$Laying", "size", "I", false)
  | 5 => ("StepRegisters$Laying", "least", "I", false)
  | _ => ("StepRegisters$Laying", "layout", "I", false)
def tyX1 : Nat → FieldType := fun k => match k with
  | 0 => .object "StepRegisters$Walk"
  | 1 => .array .int
  | 2 => .array .int
  | 3 => .array .int
  | 4 => .int
  | 5 => .int
  | _ => .int
abbrev wsX10 : List Cond := u_ws RX1 TX1 7
theorem nmX1 : ∀ a, a < 7 → ∀ b, b < 7 → a ≠ b → (TX1 a).2.1 ≠ (TX1 b).2.1 := by decide +kernel
theorem tyX1_ok : ∀ k, k < 7 → parseFieldDescriptor (TX1 k).2.2.1 = some (tyX1 k) := by decide +kernel
abbrev cX1_init : ByteArray := prog_3_method_1_code
def yX1_init : MethodName := ⟨RX1, "<init>", "(LStepRegisters$Walk;)V"⟩
abbrev cX1_leastBelow : ByteArray := prog_3_method_2_code
def yX1_leastBelow : MethodName := ⟨RX1, "leastBelow", "(ILStepRegisters$State;II)I"⟩
abbrev cX1_findTwins : ByteArray := prog_3_method_3_code
def yX1_findTwins : MethodName := ⟨RX1, "findTwins", "()V"⟩
abbrev cX1_lay : ByteArray := prog_3_method_4_code
def yX1_lay : MethodName := ⟨RX1, "lay", "(III)V"⟩
abbrev cX1_keep : ByteArray := prog_3_method_5_code
def yX1_keep : MethodName := ⟨RX1, "keep", "()V"⟩
def RX2 : String := "StepRegisters$Plan"
def TX2 : u_T := fun k => match k with
  | 0 => ("StepRegisters$Plan", "ready", "Z", false)
  | 1 => ("StepRegisters$Plan", "cost", "I", false)
  | 2 => ("StepRegisters$Plan", "filled", "I", false)
  | 3 => ("StepRegisters$Plan", "turned", "I", false)
  | 4 => ("StepRegisters$Plan", "registers", "[I", true)
  | _ => ("StepRegisters$Plan", "cells", "[I", true)
def tyX2 : Nat → FieldType := fun k => match k with
  | 0 => .boolean
  | 1 => .int
  | 2 => .int
  | 3 => .int
  | 4 => .array .int
  | _ => .array .int
abbrev wsX20 : List Cond := u_ws RX2 TX2 6
theorem nmX2 : ∀ a, a < 6 → ∀ b, b < 6 → a ≠ b → (TX2 a).2.1 ≠ (TX2 b).2.1 := by decide +kernel
theorem tyX2_ok : ∀ k, k < 6 → parseFieldDescriptor (TX2 k).2.2.1 = some (tyX2 k) := by decide +kernel
abbrev cX2_init : ByteArray := prog_4_method_1_code
def yX2_init : MethodName := ⟨RX2, "<init>", "()V"⟩
def RX3 : String := "StepRegisters$Planner"
def TX3 : u_T := fun k => match k with
  | 0 => ("StepRegisters$Planner", "state", "LStepRegisters$State;", true)
  | 1 => ("StepRegisters$Planner", "walk", "LStepRegisters$Walk;", true)
  | 2 => ("StepRegisters$Planner", "laying", "LStepRegisters$Laying;", true)
  | 3 => ("StepRegisters$Planner", "plans", "[LStepRegisters$Plan;", true)
  | 4 => ("StepRegisters$Planner", "floors", "[[I", true)
  | 5 => ("StepRegisters$Planner", "layouts", "[[I", true)
  | 6 => ("StepRegisters$Planner", "blocks", "[I", true)
  | 7 => ("StepRegisters$Planner", "bestBlocks", "[I", true)
  | 8 => ("StepRegisters$Planner", "used", "[I", true)
  | 9 => ("StepRegisters$Planner", "usedCount", "I", false)
  | 10 => ("StepRegisters$Planner", "widest", "I", false)
  | 11 => ("StepRegisters$Planner", "registers", "I", false)
  | 12 => ("StepRegisters$Planner", "mode", "I", false)
  | 13 => ("StepRegisters$Planner", "mayTurn", "I", false)
  | 14 => ("StepRegisters$Planner", "best", "I", false)
  | _ => ("StepRegisters$Planner", "bestFilled", "I", false)
def tyX3 : Nat → FieldType := fun k => match k with
  | 0 => .object "StepRegisters$State"
  | 1 => .object "StepRegisters$Walk"
  | 2 => .object "StepRegisters$Laying"
  | 3 => .array (.object "StepRegisters$Plan")
  | 4 => .array (.array .int)
  | 5 => .array (.array .int)
  | 6 => .array .int
  | 7 => .array .int
  | 8 => .array .int
  | 9 => .int
  | 10 => .int
  | 11 => .int
  | 12 => .int
  | 13 => .int
  | 14 => .int
  | _ => .int
abbrev wsX30 : List Cond := u_ws RX3 TX3 16
theorem nmX3 : ∀ a, a < 16 → ∀ b, b < 16 → a ≠ b → (TX3 a).2.1 ≠ (TX3 b).2.1 := by decide +kernel
theorem tyX3_ok : ∀ k, k < 16 → parseFieldDescriptor (TX3 k).2.2.1 = some (tyX3 k) := by decide +kernel
abbrev cX3_init : ByteArray := prog_5_method_1_code
def yX3_init : MethodName := ⟨RX3, "<init>", "(LStepRegisters$State;LStepRegisters$Walk;)V"⟩
abbrev cX3_forget : ByteArray := prog_5_method_2_code
def yX3_forget : MethodName := ⟨RX3, "forget", "()V"⟩
abbrev cX3_planFor : ByteArray := prog_5_method_3_code
def yX3_planFor : MethodName := ⟨RX3, "planFor", "(II)LStepRegisters$Plan;"⟩
abbrev cX3_listUsed : ByteArray := prog_5_method_4_code
def yX3_listUsed : MethodName := ⟨RX3, "listUsed", "()V"⟩
abbrev cX3_divide : ByteArray := prog_5_method_5_code
def yX3_divide : MethodName := ⟨RX3, "divide", "(II)V"⟩
abbrev cX3_compare : ByteArray := prog_5_method_6_code
def yX3_compare : MethodName := ⟨RX3, "compare", "(I)V"⟩
abbrev cX3_write : ByteArray := prog_5_method_7_code
def yX3_write : MethodName := ⟨RX3, "write", "(LStepRegisters$Plan;)V"⟩
abbrev cX3_turnedIn : ByteArray := prog_5_method_8_code
def yX3_turnedIn : MethodName := ⟨RX3, "turnedIn", "(I[I)I"⟩
def RX4 : String := "StepRegisters$Sight"
def TX4 : u_T := fun k => match k with
  | 0 => ("StepRegisters$Sight", "variables", "[I", true)
  | _ => ("StepRegisters$Sight", "length", "I", false)
def tyX4 : Nat → FieldType := fun k => match k with
  | 0 => .array .int
  | _ => .int
abbrev wsX40 : List Cond := u_ws RX4 TX4 2
theorem nmX4 : ∀ a, a < 2 → ∀ b, b < 2 → a ≠ b → (TX4 a).2.1 ≠ (TX4 b).2.1 := by decide +kernel
theorem tyX4_ok : ∀ k, k < 2 → parseFieldDescriptor (TX4 k).2.2.1 = some (tyX4 k) := by decide +kernel
abbrev cX4_init : ByteArray := prog_6_method_1_code
def yX4_init : MethodName := ⟨RX4, "<init>", "()V"⟩
abbrev cX4_look : ByteArray := prog_6_method_2_code
def yX4_look : MethodName := ⟨RX4, "look", "(LStepRegisters$State;I)V"⟩
abbrev cX4_has : ByteArray := prog_6_method_3_code
def yX4_has : MethodName := ⟨RX4, "has", "(I)Z"⟩
abbrev cX4_before : ByteArray := prog_6_method_4_code
def yX4_before : MethodName := ⟨RX4, "before", "(I[I)I"⟩
abbrev cX4_add : ByteArray := prog_6_method_5_code
def yX4_add : MethodName := ⟨RX4, "add", "(I)V"⟩
def RX5 : String := "StepRegisters$State"
def TX5 : u_T := fun k => match k with
  | 0 => ("StepRegisters$State", "size", "I", false)
  | 1 => ("StepRegisters$State", "kinds", "[I", true)
  | 2 => ("StepRegisters$State", "targets", "[I", true)
  | 3 => ("StepRegisters$State", "lefts", "[I", true)
  | 4 => ("StepRegisters$State", "rights", "[I", true)
  | 5 => ("StepRegisters$State", "freeSet", "I", false)
  | 6 => ("StepRegisters$State", "values", "[I", true)
  | _ => ("StepRegisters$State", "hand", "[I", true)
def tyX5 : Nat → FieldType := fun k => match k with
  | 0 => .int
  | 1 => .array .int
  | 2 => .array .int
  | 3 => .array .int
  | 4 => .array .int
  | 5 => .int
  | 6 => .array .int
  | _ => .array .int
abbrev wsX50 : List Cond := u_ws RX5 TX5 8
theorem nmX5 : ∀ a, a < 8 → ∀ b, b < 8 → a ≠ b → (TX5 a).2.1 ≠ (TX5 b).2.1 := by decide +kernel
theorem tyX5_ok : ∀ k, k < 8 → parseFieldDescriptor (TX5 k).2.2.1 = some (tyX5 k) := by decide +kernel
abbrev cX5_init : ByteArray := prog_7_method_1_code
def yX5_init : MethodName := ⟨RX5, "<init>", "()V"⟩
abbrev cX5_has : ByteArray := prog_7_method_2_code
def yX5_has : MethodName := ⟨RX5, "has", "(I)Z"⟩
abbrev cX5_append : ByteArray := prog_7_method_3_code
def yX5_append : MethodName := ⟨RX5, "append", "(IIII)V"⟩
abbrev cX5_remove : ByteArray := prog_7_method_4_code
def yX5_remove : MethodName := ⟨RX5, "remove", "(I)V"⟩
abbrev cX5_copyFrom : ByteArray := prog_7_method_5_code
def yX5_copyFrom : MethodName := ⟨RX5, "copyFrom", "(LStepRegisters$State;)V"⟩
abbrev cX5_usedSet : ByteArray := prog_7_method_6_code
def yX5_usedSet : MethodName := ⟨RX5, "usedSet", "()I"⟩
abbrev cX5_turnable : ByteArray := prog_7_method_7_code
def yX5_turnable : MethodName := ⟨RX5, "turnable", "()I"⟩
abbrev cX5_isFar : ByteArray := prog_7_method_8_code
def yX5_isFar : MethodName := ⟨RX5, "isFar", "(II)Z"⟩
abbrev cX5_execute : ByteArray := prog_7_method_9_code
def yX5_execute : MethodName := ⟨RX5, "execute", "()V"⟩
abbrev cX5_result : ByteArray := prog_7_method_10_code
def yX5_result : MethodName := ⟨RX5, "result", "(III)I"⟩
def RX6 : String := "StepRegisters$Walk"
def TX6 : u_T := fun k => match k with
  | 0 => ("StepRegisters$Walk", "beside", "[I", true)
  | 1 => ("StepRegisters$Walk", "far", "[I", true)
  | 2 => ("StepRegisters$Walk", "from", "[I", true)
  | 3 => ("StepRegisters$Walk", "one", "[I", true)
  | 4 => ("StepRegisters$Walk", "other", "[I", true)
  | 5 => ("StepRegisters$Walk", "laid", "[I", true)
  | 6 => ("StepRegisters$Walk", "forks", "I", false)
  | 7 => ("StepRegisters$Walk", "members", "I", false)
  | 8 => ("StepRegisters$Walk", "last", "I", false)
  | _ => ("StepRegisters$Walk", "open", "Z", false)
def tyX6 : Nat → FieldType := fun k => match k with
  | 0 => .array .int
  | 1 => .array .int
  | 2 => .array .int
  | 3 => .array .int
  | 4 => .array .int
  | 5 => .array .int
  | 6 => .int
  | 7 => .int
  | 8 => .int
  | _ => .boolean
abbrev wsX60 : List Cond := u_ws RX6 TX6 10
theorem nmX6 : ∀ a, a < 10 → ∀ b, b < 10 → a ≠ b → (TX6 a).2.1 ≠ (TX6 b).2.1 := by decide +kernel
theorem tyX6_ok : ∀ k, k < 10 → parseFieldDescriptor (TX6 k).2.2.1 = some (tyX6 k) := by decide +kernel
abbrev cX6_init : ByteArray := prog_8_method_1_code
def yX6_init : MethodName := ⟨RX6, "<init>", "()V"⟩
abbrev cX6_trace : ByteArray := prog_8_method_2_code
def yX6_trace : MethodName := ⟨RX6, "trace", "(LStepRegisters$State;III)V"⟩
abbrev cX6_cost : ByteArray := prog_8_method_3_code
def yX6_cost : MethodName := ⟨RX6, "cost", "([I)I"⟩
abbrev cX6_pairCost : ByteArray := prog_8_method_4_code
def yX6_pairCost : MethodName := ⟨RX6, "pairCost", "(I[I)I"⟩
abbrev cX6_forkCost : ByteArray := prog_8_method_5_code
def yX6_forkCost : MethodName := ⟨RX6, "forkCost", "([I)I"⟩
abbrev cX6_areTwins : ByteArray := prog_8_method_6_code
def yX6_areTwins : MethodName := ⟨RX6, "areTwins", "(III)Z"⟩
abbrev cX6_has : ByteArray := prog_8_method_7_code
def yX6_has : MethodName := ⟨RX6, "has", "(I)Z"⟩
abbrev cX6_pass : ByteArray := prog_8_method_8_code
def yX6_pass : MethodName := ⟨RX6, "pass", "(I)V"⟩
abbrev cX6_fork : ByteArray := prog_8_method_9_code
def yX6_fork : MethodName := ⟨RX6, "fork", "(II)V"⟩
abbrev cX6_pair : ByteArray := prog_8_method_10_code
def yX6_pair : MethodName := ⟨RX6, "pair", "(II)V"⟩
abbrev cX6_addFork : ByteArray := prog_8_method_11_code
def yX6_addFork : MethodName := ⟨RX6, "addFork", "(III)V"⟩
abbrev cX6_measure : ByteArray := prog_8_method_12_code
def yX6_measure : MethodName := ⟨RX6, "measure", "(LStepRegisters$State;)V"⟩
def RX7 : String := "StepRegisters"
def TX7 : u_T := fun k => match k with
  | 0 => ("StepRegisters", "now", "LStepRegisters$State;", true)
  | 1 => ("StepRegisters", "images", "[LStepRegisters$State;", true)
  | 2 => ("StepRegisters", "kept", "I", false)
  | 3 => ("StepRegisters", "seen", "LStepRegisters$Sight;", true)
  | 4 => ("StepRegisters", "walk", "LStepRegisters$Walk;", true)
  | 5 => ("StepRegisters", "planner", "LStepRegisters$Planner;", true)
  | _ => ("StepRegisters", "greedy", "LStepRegisters$Greedy;", true)
def tyX7 : Nat → FieldType := fun k => match k with
  | 0 => .object "StepRegisters$State"
  | 1 => .array (.object "StepRegisters$State")
  | 2 => .int
  | 3 => .object "StepRegisters$Sight"
  | 4 => .object "StepRegisters$Walk"
  | 5 => .object "StepRegisters$Planner"
  | _ => .object "StepRegisters$Greedy"
abbrev wsX70 : List Cond := u_ws RX7 TX7 7
theorem nmX7 : ∀ a, a < 7 → ∀ b, b < 7 → a ≠ b → (TX7 a).2.1 ≠ (TX7 b).2.1 := by decide +kernel
theorem tyX7_ok : ∀ k, k < 7 → parseFieldDescriptor (TX7 k).2.2.1 = some (tyX7 k) := by decide +kernel
abbrev cX7_init : ByteArray := prog_1_method_1_code
def yX7_init : MethodName := ⟨RX7, "<init>", "()V"⟩
abbrev cX7_put : ByteArray := prog_1_method_2_code
def yX7_put : MethodName := ⟨RX7, "put", "(IIII)I"⟩
abbrev cX7_drop : ByteArray := prog_1_method_3_code
def yX7_drop : MethodName := ⟨RX7, "drop", "(I)I"⟩
abbrev cX7_cross : ByteArray := prog_1_method_4_code
def yX7_cross : MethodName := ⟨RX7, "cross", "(I)I"⟩
abbrev cX7_told : ByteArray := prog_1_method_5_code
def yX7_told : MethodName := ⟨RX7, "told", "(II)I"⟩
abbrev cX7_free : ByteArray := prog_1_method_6_code
def yX7_free : MethodName := ⟨RX7, "free", "(II)I"⟩
abbrev cX7_set : ByteArray := prog_1_method_7_code
def yX7_set : MethodName := ⟨RX7, "set", "(II)I"⟩
abbrev cX7_value : ByteArray := prog_1_method_8_code
def yX7_value : MethodName := ⟨RX7, "value", "(I)J"⟩
abbrev cX7_sight : ByteArray := prog_1_method_9_code
def yX7_sight : MethodName := ⟨RX7, "sight", "(I)I"⟩
abbrev cX7_plan : ByteArray := prog_1_method_10_code
def yX7_plan : MethodName := ⟨RX7, "plan", "(III)I"⟩
abbrev cX7_place : ByteArray := prog_1_method_11_code
def yX7_place : MethodName := ⟨RX7, "place", "(IIII)I"⟩
abbrev cX7_step : ByteArray := prog_1_method_12_code
def yX7_step : MethodName := ⟨RX7, "step", "(IIII)I"⟩
abbrev cX7_run : ByteArray := prog_1_method_13_code
def yX7_run : MethodName := ⟨RX7, "run", "(II)I"⟩
abbrev cX7_weight : ByteArray := prog_1_method_14_code
def yX7_weight : MethodName := ⟨RX7, "weight", "(II)I"⟩
abbrev cX7_taken : ByteArray := prog_1_method_15_code
def yX7_taken : MethodName := ⟨RX7, "taken", "(II)I"⟩
abbrev cX7_exchange : ByteArray := prog_1_method_16_code
def yX7_exchange : MethodName := ⟨RX7, "exchange", "(II)I"⟩
abbrev cX7_hand : ByteArray := prog_1_method_17_code
def yX7_hand : MethodName := ⟨RX7, "hand", "(I)I"⟩
abbrev cX7_count : ByteArray := prog_1_method_18_code
def yX7_count : MethodName := ⟨RX7, "count", "(I)I"⟩
abbrev cX7_image : ByteArray := prog_1_method_19_code
def yX7_image : MethodName := ⟨RX7, "image", "(I)I"⟩
abbrev cX7_restore : ByteArray := prog_1_method_20_code
def yX7_restore : MethodName := ⟨RX7, "restore", "(I)I"⟩
abbrev cX7_changed : ByteArray := prog_1_method_21_code
def yX7_changed : MethodName := ⟨RX7, "changed", "()V"⟩
abbrev cX7_isVariable : ByteArray := prog_1_method_22_code
def yX7_isVariable : MethodName := ⟨RX7, "isVariable", "(I)Z"⟩
abbrev cX7_isMode : ByteArray := prog_1_method_23_code
def yX7_isMode : MethodName := ⟨RX7, "isMode", "(I)Z"⟩
abbrev cX7_isPlan : ByteArray := prog_1_method_24_code
def yX7_isPlan : MethodName := ⟨RX7, "isPlan", "(II)Z"⟩
abbrev cX7_weights : ByteArray := prog_1_method_25_code
def yX7_weights : MethodName := ⟨RX7, "weights", "()[I"⟩
abbrev cX7_first : ByteArray := prog_1_method_26_code
def yX7_first : MethodName := ⟨RX7, "first", "()I"⟩
def RX8 : String := "StepRegistersModel"
def TX8 : u_T := fun k => match k with
  | 0 => ("StepRegistersModel", "many", "I", false)
  | 1 => ("StepRegistersModel", "kind", "[I", true)
  | 2 => ("StepRegistersModel", "target", "[I", true)
  | 3 => ("StepRegistersModel", "left", "[I", true)
  | 4 => ("StepRegistersModel", "right", "[I", true)
  | 5 => ("StepRegistersModel", "value", "[I", true)
  | 6 => ("StepRegistersModel", "cellByHand", "[I", true)
  | 7 => ("StepRegistersModel", "isFree", "[Z", true)
  | 8 => ("StepRegistersModel", "isOld", "[Z", true)
  | 9 => ("StepRegistersModel", "line", "[I", true)
  | 10 => ("StepRegistersModel", "cell", "[I", true)
  | 11 => ("StepRegistersModel", "pay", "[I", true)
  | 12 => ("StepRegistersModel", "after", "I", false)
  | 13 => ("StepRegistersModel", "costs", "[I", true)
  | 14 => ("StepRegistersModel", "cells", "[I", true)
  | 15 => ("StepRegistersModel", "member", "[I", true)
  | 16 => ("StepRegistersModel", "row", "[I", true)
  | 17 => ("StepRegistersModel", "register", "[I", true)
  | 18 => ("StepRegistersModel", "sets", "[I", true)
  | 19 => ("StepRegistersModel", "planCost", "I", false)
  | 20 => ("StepRegistersModel", "planTurned", "I", false)
  | 21 => ("StepRegistersModel", "weights", "[I", true)
  | 22 => ("StepRegistersModel", "isTaken", "[Z", true)
  | 23 => ("StepRegistersModel", "isGone", "[Z", true)
  | 24 => ("StepRegistersModel", "ties", "[I", true)
  | 25 => ("StepRegistersModel", "chain", "[I", true)
  | 26 => ("StepRegistersModel", "takenPairs", "I", false)
  | 27 => ("StepRegistersModel", "image", "[I", true)
  | _ => ("StepRegistersModel", "isKept", "[Z", true)
def tyX8 : Nat → FieldType := fun k => match k with
  | 0 => .int
  | 1 => .array .int
  | 2 => .array .int
  | 3 => .array .int
  | 4 => .array .int
  | 5 => .array .int
  | 6 => .array .int
  | 7 => .array .boolean
  | 8 => .array .boolean
  | 9 => .array .int
  | 10 => .array .int
  | 11 => .array .int
  | 12 => .int
  | 13 => .array .int
  | 14 => .array .int
  | 15 => .array .int
  | 16 => .array .int
  | 17 => .array .int
  | 18 => .array .int
  | 19 => .int
  | 20 => .int
  | 21 => .array .int
  | 22 => .array .boolean
  | 23 => .array .boolean
  | 24 => .array .int
  | 25 => .array .int
  | 26 => .int
  | 27 => .array .int
  | _ => .array .boolean
abbrev wsX80 : List Cond := u_ws RX8 TX8 29
theorem nmX8 : ∀ a, a < 29 → ∀ b, b < 29 → a ≠ b → (TX8 a).2.1 ≠ (TX8 b).2.1 := by decide +kernel
theorem tyX8_ok : ∀ k, k < 29 → parseFieldDescriptor (TX8 k).2.2.1 = some (tyX8 k) := by decide +kernel
abbrev cX8_init : ByteArray := prog_10_method_1_code
def yX8_init : MethodName := ⟨RX8, "<init>", "()V"⟩
abbrev cX8_in : ByteArray := prog_10_method_2_code
def yX8_in : MethodName := ⟨RX8, "in", "(III)Z"⟩
abbrev cX8_isVariable : ByteArray := prog_10_method_3_code
def yX8_isVariable : MethodName := ⟨RX8, "isVariable", "(I)Z"⟩
abbrev cX8_has : ByteArray := prog_10_method_4_code
def yX8_has : MethodName := ⟨RX8, "has", "(II)Z"⟩
abbrev cX8_isStatement : ByteArray := prog_10_method_5_code
def yX8_isStatement : MethodName := ⟨RX8, "isStatement", "(I)Z"⟩
abbrev cX8_change : ByteArray := prog_10_method_6_code
def yX8_change : MethodName := ⟨RX8, "change", "()V"⟩
abbrev cX8_put : ByteArray := prog_10_method_7_code
def yX8_put : MethodName := ⟨RX8, "put", "(IIII)I"⟩
abbrev cX8_drop : ByteArray := prog_10_method_8_code
def yX8_drop : MethodName := ⟨RX8, "drop", "(I)I"⟩
abbrev cX8_cross : ByteArray := prog_10_method_9_code
def yX8_cross : MethodName := ⟨RX8, "cross", "(I)I"⟩
abbrev cX8_told : ByteArray := prog_10_method_10_code
def yX8_told : MethodName := ⟨RX8, "told", "(II)I"⟩
abbrev cX8_free : ByteArray := prog_10_method_11_code
def yX8_free : MethodName := ⟨RX8, "free", "(II)I"⟩
abbrev cX8_set : ByteArray := prog_10_method_12_code
def yX8_set : MethodName := ⟨RX8, "set", "(II)I"⟩
abbrev cX8_value : ByteArray := prog_10_method_13_code
def yX8_value : MethodName := ⟨RX8, "value", "(I)J"⟩
abbrev cX8_seen : ByteArray := prog_10_method_14_code
def yX8_seen : MethodName := ⟨RX8, "seen", "(IIZ)I"⟩
abbrev cX8_canTurn : ByteArray := prog_10_method_15_code
def yX8_canTurn : MethodName := ⟨RX8, "canTurn", "(I)Z"⟩
abbrev cX8_layLine : ByteArray := prog_10_method_16_code
def yX8_layLine : MethodName := ⟨RX8, "layLine", "(I)I"⟩
abbrev cX8_sight : ByteArray := prog_10_method_17_code
def yX8_sight : MethodName := ⟨RX8, "sight", "(I)I"⟩
abbrev cX8_usedOnes : ByteArray := prog_10_method_18_code
def yX8_usedOnes : MethodName := ⟨RX8, "usedOnes", "()I"⟩
abbrev cX8_isFar : ByteArray := prog_10_method_19_code
def yX8_isFar : MethodName := ⟨RX8, "isFar", "(II)Z"⟩
abbrev cX8_costOf : ByteArray := prog_10_method_20_code
def yX8_costOf : MethodName := ⟨RX8, "costOf", "(IZII)I"⟩
abbrev cX8_payBehind : ByteArray := prog_10_method_21_code
def yX8_payBehind : MethodName := ⟨RX8, "payBehind", "(IZII)I"⟩
abbrev cX8_layPay : ByteArray := prog_10_method_22_code
def yX8_layPay : MethodName := ⟨RX8, "layPay", "(II)I"⟩
abbrev cX8_turnedFor : ByteArray := prog_10_method_23_code
def yX8_turnedFor : MethodName := ⟨RX8, "turnedFor", "(II)I"⟩
abbrev cX8_isNext : ByteArray := prog_10_method_24_code
def yX8_isNext : MethodName := ⟨RX8, "isNext", "(I)Z"⟩
abbrev cX8_swap : ByteArray := prog_10_method_25_code
def yX8_swap : MethodName := ⟨RX8, "swap", "(II)V"⟩
abbrev cX8_laySet : ByteArray := prog_10_method_26_code
def yX8_laySet : MethodName := ⟨RX8, "laySet", "(II)V"⟩
abbrev cX8_laySets : ByteArray := prog_10_method_27_code
def yX8_laySets : MethodName := ⟨RX8, "laySets", "(I)V"⟩
abbrev cX8_power : ByteArray := prog_10_method_28_code
def yX8_power : MethodName := ⟨RX8, "power", "(II)I"⟩
abbrev cX8_bits : ByteArray := prog_10_method_29_code
def yX8_bits : MethodName := ⟨RX8, "bits", "(I)I"⟩
abbrev cX8_part : ByteArray := prog_10_method_30_code
def yX8_part : MethodName := ⟨RX8, "part", "(III)V"⟩
abbrev cX8_costNow : ByteArray := prog_10_method_31_code
def yX8_costNow : MethodName := ⟨RX8, "costNow", "(I)I"⟩
abbrev cX8_layPlan : ByteArray := prog_10_method_32_code
def yX8_layPlan : MethodName := ⟨RX8, "layPlan", "(II)V"⟩
abbrev cX8_isAsked : ByteArray := prog_10_method_33_code
def yX8_isAsked : MethodName := ⟨RX8, "isAsked", "(II)Z"⟩
abbrev cX8_plan : ByteArray := prog_10_method_34_code
def yX8_plan : MethodName := ⟨RX8, "plan", "(III)I"⟩
abbrev cX8_place : ByteArray := prog_10_method_35_code
def yX8_place : MethodName := ⟨RX8, "place", "(IIII)I"⟩
abbrev cX8_step : ByteArray := prog_10_method_36_code
def yX8_step : MethodName := ⟨RX8, "step", "(IIII)I"⟩
abbrev cX8_run : ByteArray := prog_10_method_37_code
def yX8_run : MethodName := ⟨RX8, "run", "(II)I"⟩
abbrev cX8_layWeights : ByteArray := prog_10_method_38_code
def yX8_layWeights : MethodName := ⟨RX8, "layWeights", "()V"⟩
abbrev cX8_weight : ByteArray := prog_10_method_39_code
def yX8_weight : MethodName := ⟨RX8, "weight", "(II)I"⟩
abbrev cX8_heaviest : ByteArray := prog_10_method_40_code
def yX8_heaviest : MethodName := ⟨RX8, "heaviest", "()I"⟩
abbrev cX8_layTaken : ByteArray := prog_10_method_41_code
def yX8_layTaken : MethodName := ⟨RX8, "layTaken", "()V"⟩
abbrev cX8_taken : ByteArray := prog_10_method_42_code
def yX8_taken : MethodName := ⟨RX8, "taken", "(II)I"⟩
abbrev cX8_greedyCost : ByteArray := prog_10_method_43_code
def yX8_greedyCost : MethodName := ⟨RX8, "greedyCost", "()I"⟩
abbrev cX8_bound : ByteArray := prog_10_method_44_code
def yX8_bound : MethodName := ⟨RX8, "bound", "()I"⟩
abbrev cX8_exchange : ByteArray := prog_10_method_45_code
def yX8_exchange : MethodName := ⟨RX8, "exchange", "(II)I"⟩
abbrev cX8_hand : ByteArray := prog_10_method_46_code
def yX8_hand : MethodName := ⟨RX8, "hand", "(I)I"⟩
abbrev cX8_count : ByteArray := prog_10_method_47_code
def yX8_count : MethodName := ⟨RX8, "count", "(I)I"⟩
abbrev cX8_image : ByteArray := prog_10_method_48_code
def yX8_image : MethodName := ⟨RX8, "image", "(I)I"⟩
abbrev cX8_restore : ByteArray := prog_10_method_49_code
def yX8_restore : MethodName := ⟨RX8, "restore", "(I)I"⟩
def RJ6 : String := "java/lang/Integer"
def TJ6 : u_T := fun k => match k with
  | _ => ("", "", "", false)
def tyJ6 : Nat → FieldType := fun k => match k with
  | _ => .int
abbrev cJ6_bitCount_0f7a4 : ByteArray := prog_11_method_49_code
def yJ6_bitCount_0f7a4 : MethodName := ⟨RJ6, "bitCount", "(I)I"⟩
def RJ9 : String := "java/lang/Math"
def TJ9 : u_T := fun k => match k with
  | _ => ("", "", "", false)
def tyJ9 : Nat → FieldType := fun k => match k with
  | _ => .int
abbrev cJ9_abs_0f7a4 : ByteArray := prog_12_method_59_code
def yJ9_abs_0f7a4 : MethodName := ⟨RJ9, "abs", "(I)I"⟩
abbrev cJ9_max_7cf53 : ByteArray := prog_12_method_65_code
def yJ9_max_7cf53 : MethodName := ⟨RJ9, "max", "(II)I"⟩
abbrev cJ9_min_7cf53 : ByteArray := prog_12_method_69_code
def yJ9_min_7cf53 : MethodName := ⟨RJ9, "min", "(II)I"⟩
def RJ10 : String := "java/lang/System"
def TJ10 : u_T := fun k => match k with
  | _ => ("", "", "", false)
def tyJ10 : Nat → FieldType := fun k => match k with
  | _ => .int
def RJ7 : String := "java/util/Arrays"
def TJ7 : u_T := fun k => match k with
  | _ => ("", "", "", false)
def tyJ7 : Nat → FieldType := fun k => match k with
  | _ => .int
abbrev cJ7_fill_53178 : ByteArray := prog_14_method_103_code
def yJ7_fill_53178 : MethodName := ⟨RJ7, "fill", "([II)V"⟩
def RL : String := "StepRegistersLaw"
abbrev cL_law : ByteArray := code
def yL_law : MethodName := ⟨RL, "law", "([I)Z"⟩
