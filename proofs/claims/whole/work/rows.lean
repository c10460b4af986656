section
-- ===== PART A: goes FIRST, ahead of the names: the tables' words, and 'selects' of the private methods out of them =====
/-- a private method of a class that the tables say can be made, by its rows of tables_1 -/
def lw_okq (q : MethodName × Nat) : Prop := (q.1.cls ≠ "java/lang/invoke/MethodHandle" ∧ q.1.cls ≠ "java/lang/invoke/VarHandle") ∧ Cond.instantiable q.1.cls q.2 ∈ tables_1 ∧ Cond.privateMethod q.1 ∈ tables_1 ∧ Cond.instanceMethod q.1 ∈ tables_1
theorem lw_p0 : lw_okq (⟨"StepRegisters", "changed", "()V"⟩, 7) := ⟨⟨by decide +kernel, by decide +kernel⟩, List.mem_of_getElem? (i := 15) (by decide +kernel), List.mem_of_getElem? (i := 326) (by decide +kernel), List.mem_of_getElem? (i := 327) (by decide +kernel)⟩
theorem lw_p1 : lw_okq (⟨"StepRegisters$Sight", "add", "(I)V"⟩, 2) := ⟨⟨by decide +kernel, by decide +kernel⟩, List.mem_of_getElem? (i := 74) (by decide +kernel), List.mem_of_getElem? (i := 375) (by decide +kernel), List.mem_of_getElem? (i := 376) (by decide +kernel)⟩
theorem lw_p2 : lw_okq (⟨"StepRegisters$Planner", "listUsed", "()V"⟩, 16) := ⟨⟨by decide +kernel, by decide +kernel⟩, List.mem_of_getElem? (i := 138) (by decide +kernel), List.mem_of_getElem? (i := 401) (by decide +kernel), List.mem_of_getElem? (i := 402) (by decide +kernel)⟩
theorem lw_p3 : lw_okq (⟨"StepRegisters$Planner", "divide", "(II)V"⟩, 16) := ⟨⟨by decide +kernel, by decide +kernel⟩, List.mem_of_getElem? (i := 138) (by decide +kernel), List.mem_of_getElem? (i := 409) (by decide +kernel), List.mem_of_getElem? (i := 410) (by decide +kernel)⟩
theorem lw_p4 : lw_okq (⟨"StepRegisters$Planner", "compare", "(I)V"⟩, 16) := ⟨⟨by decide +kernel, by decide +kernel⟩, List.mem_of_getElem? (i := 138) (by decide +kernel), List.mem_of_getElem? (i := 413) (by decide +kernel), List.mem_of_getElem? (i := 414) (by decide +kernel)⟩
theorem lw_p5 : lw_okq (⟨"StepRegisters$Walk", "has", "(I)Z"⟩, 10) := ⟨⟨by decide +kernel, by decide +kernel⟩, List.mem_of_getElem? (i := 89) (by decide +kernel), List.mem_of_getElem? (i := 426) (by decide +kernel), List.mem_of_getElem? (i := 427) (by decide +kernel)⟩
theorem lw_p6 : lw_okq (⟨"StepRegisters$Walk", "fork", "(II)V"⟩, 10) := ⟨⟨by decide +kernel, by decide +kernel⟩, List.mem_of_getElem? (i := 89) (by decide +kernel), List.mem_of_getElem? (i := 430) (by decide +kernel), List.mem_of_getElem? (i := 431) (by decide +kernel)⟩
theorem lw_p7 : lw_okq (⟨"StepRegisters$Walk", "addFork", "(III)V"⟩, 10) := ⟨⟨by decide +kernel, by decide +kernel⟩, List.mem_of_getElem? (i := 89) (by decide +kernel), List.mem_of_getElem? (i := 434) (by decide +kernel), List.mem_of_getElem? (i := 435) (by decide +kernel)⟩
theorem lw_p8 : lw_okq (⟨"StepRegisters$Walk", "pair", "(II)V"⟩, 10) := ⟨⟨by decide +kernel, by decide +kernel⟩, List.mem_of_getElem? (i := 89) (by decide +kernel), List.mem_of_getElem? (i := 438) (by decide +kernel), List.mem_of_getElem? (i := 439) (by decide +kernel)⟩
theorem lw_p9 : lw_okq (⟨"StepRegisters$Walk", "pass", "(I)V"⟩, 10) := ⟨⟨by decide +kernel, by decide +kernel⟩, List.mem_of_getElem? (i := 89) (by decide +kernel), List.mem_of_getElem? (i := 442) (by decide +kernel), List.mem_of_getElem? (i := 443) (by decide +kernel)⟩
theorem lw_p10 : lw_okq (⟨"StepRegisters$Laying", "findTwins", "()V"⟩, 7) := ⟨⟨by decide +kernel, by decide +kernel⟩, List.mem_of_getElem? (i := 148) (by decide +kernel), List.mem_of_getElem? (i := 446) (by decide +kernel), List.mem_of_getElem? (i := 447) (by decide +kernel)⟩
theorem lw_p11 : lw_okq (⟨"StepRegisters$Laying", "lay", "(III)V"⟩, 7) := ⟨⟨by decide +kernel, by decide +kernel⟩, List.mem_of_getElem? (i := 148) (by decide +kernel), List.mem_of_getElem? (i := 454) (by decide +kernel), List.mem_of_getElem? (i := 455) (by decide +kernel)⟩
theorem lw_p12 : lw_okq (⟨"StepRegisters$Laying", "keep", "()V"⟩, 7) := ⟨⟨by decide +kernel, by decide +kernel⟩, List.mem_of_getElem? (i := 148) (by decide +kernel), List.mem_of_getElem? (i := 469) (by decide +kernel), List.mem_of_getElem? (i := 470) (by decide +kernel)⟩
theorem lw_p13 : lw_okq (⟨"StepRegisters$Planner", "write", "(LStepRegisters$Plan;)V"⟩, 16) := ⟨⟨by decide +kernel, by decide +kernel⟩, List.mem_of_getElem? (i := 138) (by decide +kernel), List.mem_of_getElem? (i := 484) (by decide +kernel), List.mem_of_getElem? (i := 485) (by decide +kernel)⟩
theorem lw_p14 : lw_okq (⟨"StepRegisters$Planner", "turnedIn", "(I[I)I"⟩, 16) := ⟨⟨by decide +kernel, by decide +kernel⟩, List.mem_of_getElem? (i := 138) (by decide +kernel), List.mem_of_getElem? (i := 488) (by decide +kernel), List.mem_of_getElem? (i := 489) (by decide +kernel)⟩
theorem lw_p15 : lw_okq (⟨"StepRegisters", "weights", "()[I"⟩, 7) := ⟨⟨by decide +kernel, by decide +kernel⟩, List.mem_of_getElem? (i := 15) (by decide +kernel), List.mem_of_getElem? (i := 530) (by decide +kernel), List.mem_of_getElem? (i := 531) (by decide +kernel)⟩
def lw_privs_1 : List (MethodName × Nat) := [(⟨"StepRegisters", "changed", "()V"⟩, 7), (⟨"StepRegisters$Sight", "add", "(I)V"⟩, 2), (⟨"StepRegisters$Planner", "listUsed", "()V"⟩, 16), (⟨"StepRegisters$Planner", "divide", "(II)V"⟩, 16), (⟨"StepRegisters$Planner", "compare", "(I)V"⟩, 16), (⟨"StepRegisters$Walk", "has", "(I)Z"⟩, 10), (⟨"StepRegisters$Walk", "fork", "(II)V"⟩, 10), (⟨"StepRegisters$Walk", "addFork", "(III)V"⟩, 10), (⟨"StepRegisters$Walk", "pair", "(II)V"⟩, 10), (⟨"StepRegisters$Walk", "pass", "(I)V"⟩, 10), (⟨"StepRegisters$Laying", "findTwins", "()V"⟩, 7), (⟨"StepRegisters$Laying", "lay", "(III)V"⟩, 7), (⟨"StepRegisters$Laying", "keep", "()V"⟩, 7), (⟨"StepRegisters$Planner", "write", "(LStepRegisters$Plan;)V"⟩, 16), (⟨"StepRegisters$Planner", "turnedIn", "(I[I)I"⟩, 16), (⟨"StepRegisters", "weights", "()[I"⟩, 7)]
theorem lw_r1 : ∀ q ∈ lw_privs_1, lw_okq q := List.forall_mem_cons.mpr ⟨lw_p0, List.forall_mem_cons.mpr ⟨lw_p1, List.forall_mem_cons.mpr ⟨lw_p2, List.forall_mem_cons.mpr ⟨lw_p3, List.forall_mem_cons.mpr ⟨lw_p4, List.forall_mem_cons.mpr ⟨lw_p5, List.forall_mem_cons.mpr ⟨lw_p6, List.forall_mem_cons.mpr ⟨lw_p7, List.forall_mem_cons.mpr ⟨lw_p8, List.forall_mem_cons.mpr ⟨lw_p9, List.forall_mem_cons.mpr ⟨lw_p10, List.forall_mem_cons.mpr ⟨lw_p11, List.forall_mem_cons.mpr ⟨lw_p12, List.forall_mem_cons.mpr ⟨lw_p13, List.forall_mem_cons.mpr ⟨lw_p14, List.forall_mem_cons.mpr ⟨lw_p15, fun _ h => absurd h List.not_mem_nil⟩⟩⟩⟩⟩⟩⟩⟩⟩⟩⟩⟩⟩⟩⟩⟩
theorem lw_p16 : lw_okq (⟨"StepRegisters$Greedy", "load", "([I)I"⟩, 6) := ⟨⟨by decide +kernel, by decide +kernel⟩, List.mem_of_getElem? (i := 265) (by decide +kernel), List.mem_of_getElem? (i := 544) (by decide +kernel), List.mem_of_getElem? (i := 545) (by decide +kernel)⟩
theorem lw_p17 : lw_okq (⟨"StepRegisters$Greedy", "greatest", "()I"⟩, 6) := ⟨⟨by decide +kernel, by decide +kernel⟩, List.mem_of_getElem? (i := 265) (by decide +kernel), List.mem_of_getElem? (i := 548) (by decide +kernel), List.mem_of_getElem? (i := 549) (by decide +kernel)⟩
theorem lw_p18 : lw_okq (⟨"StepRegisters$Greedy", "join", "(II)V"⟩, 6) := ⟨⟨by decide +kernel, by decide +kernel⟩, List.mem_of_getElem? (i := 265) (by decide +kernel), List.mem_of_getElem? (i := 552) (by decide +kernel), List.mem_of_getElem? (i := 553) (by decide +kernel)⟩
theorem lw_p19 : lw_okq (⟨"StepRegisters", "first", "()I"⟩, 7) := ⟨⟨by decide +kernel, by decide +kernel⟩, List.mem_of_getElem? (i := 15) (by decide +kernel), List.mem_of_getElem? (i := 574) (by decide +kernel), List.mem_of_getElem? (i := 575) (by decide +kernel)⟩
theorem lw_p20 : lw_okq (⟨"StepRegistersModel", "change", "()V"⟩, 29) := ⟨⟨by decide +kernel, by decide +kernel⟩, List.mem_of_getElem? (i := 595) (by decide +kernel), List.mem_of_getElem? (i := 699) (by decide +kernel), List.mem_of_getElem? (i := 700) (by decide +kernel)⟩
theorem lw_p21 : lw_okq (⟨"StepRegistersModel", "isStatement", "(I)Z"⟩, 29) := ⟨⟨by decide +kernel, by decide +kernel⟩, List.mem_of_getElem? (i := 595) (by decide +kernel), List.mem_of_getElem? (i := 707) (by decide +kernel), List.mem_of_getElem? (i := 708) (by decide +kernel)⟩
theorem lw_p22 : lw_okq (⟨"StepRegistersModel", "layLine", "(I)I"⟩, 29) := ⟨⟨by decide +kernel, by decide +kernel⟩, List.mem_of_getElem? (i := 595) (by decide +kernel), List.mem_of_getElem? (i := 736) (by decide +kernel), List.mem_of_getElem? (i := 737) (by decide +kernel)⟩
theorem lw_p23 : lw_okq (⟨"StepRegistersModel", "seen", "(IIZ)I"⟩, 29) := ⟨⟨by decide +kernel, by decide +kernel⟩, List.mem_of_getElem? (i := 595) (by decide +kernel), List.mem_of_getElem? (i := 743) (by decide +kernel), List.mem_of_getElem? (i := 744) (by decide +kernel)⟩
theorem lw_p24 : lw_okq (⟨"StepRegistersModel", "layPlan", "(II)V"⟩, 29) := ⟨⟨by decide +kernel, by decide +kernel⟩, List.mem_of_getElem? (i := 595) (by decide +kernel), List.mem_of_getElem? (i := 754) (by decide +kernel), List.mem_of_getElem? (i := 755) (by decide +kernel)⟩
theorem lw_p25 : lw_okq (⟨"StepRegistersModel", "laySets", "(I)V"⟩, 29) := ⟨⟨by decide +kernel, by decide +kernel⟩, List.mem_of_getElem? (i := 595) (by decide +kernel), List.mem_of_getElem? (i := 758) (by decide +kernel), List.mem_of_getElem? (i := 759) (by decide +kernel)⟩
theorem lw_p26 : lw_okq (⟨"StepRegistersModel", "usedOnes", "()I"⟩, 29) := ⟨⟨by decide +kernel, by decide +kernel⟩, List.mem_of_getElem? (i := 595) (by decide +kernel), List.mem_of_getElem? (i := 762) (by decide +kernel), List.mem_of_getElem? (i := 763) (by decide +kernel)⟩
theorem lw_p27 : lw_okq (⟨"StepRegistersModel", "laySet", "(II)V"⟩, 29) := ⟨⟨by decide +kernel, by decide +kernel⟩, List.mem_of_getElem? (i := 595) (by decide +kernel), List.mem_of_getElem? (i := 766) (by decide +kernel), List.mem_of_getElem? (i := 767) (by decide +kernel)⟩
theorem lw_p28 : lw_okq (⟨"StepRegistersModel", "layPay", "(II)I"⟩, 29) := ⟨⟨by decide +kernel, by decide +kernel⟩, List.mem_of_getElem? (i := 595) (by decide +kernel), List.mem_of_getElem? (i := 770) (by decide +kernel), List.mem_of_getElem? (i := 771) (by decide +kernel)⟩
theorem lw_p29 : lw_okq (⟨"StepRegistersModel", "payBehind", "(IZII)I"⟩, 29) := ⟨⟨by decide +kernel, by decide +kernel⟩, List.mem_of_getElem? (i := 595) (by decide +kernel), List.mem_of_getElem? (i := 774) (by decide +kernel), List.mem_of_getElem? (i := 775) (by decide +kernel)⟩
theorem lw_p30 : lw_okq (⟨"StepRegistersModel", "costOf", "(IZII)I"⟩, 29) := ⟨⟨by decide +kernel, by decide +kernel⟩, List.mem_of_getElem? (i := 595) (by decide +kernel), List.mem_of_getElem? (i := 778) (by decide +kernel), List.mem_of_getElem? (i := 779) (by decide +kernel)⟩
theorem lw_p31 : lw_okq (⟨"StepRegistersModel", "isFar", "(II)Z"⟩, 29) := ⟨⟨by decide +kernel, by decide +kernel⟩, List.mem_of_getElem? (i := 595) (by decide +kernel), List.mem_of_getElem? (i := 782) (by decide +kernel), List.mem_of_getElem? (i := 783) (by decide +kernel)⟩
def lw_privs_2 : List (MethodName × Nat) := [(⟨"StepRegisters$Greedy", "load", "([I)I"⟩, 6), (⟨"StepRegisters$Greedy", "greatest", "()I"⟩, 6), (⟨"StepRegisters$Greedy", "join", "(II)V"⟩, 6), (⟨"StepRegisters", "first", "()I"⟩, 7), (⟨"StepRegistersModel", "change", "()V"⟩, 29), (⟨"StepRegistersModel", "isStatement", "(I)Z"⟩, 29), (⟨"StepRegistersModel", "layLine", "(I)I"⟩, 29), (⟨"StepRegistersModel", "seen", "(IIZ)I"⟩, 29), (⟨"StepRegistersModel", "layPlan", "(II)V"⟩, 29), (⟨"StepRegistersModel", "laySets", "(I)V"⟩, 29), (⟨"StepRegistersModel", "usedOnes", "()I"⟩, 29), (⟨"StepRegistersModel", "laySet", "(II)V"⟩, 29), (⟨"StepRegistersModel", "layPay", "(II)I"⟩, 29), (⟨"StepRegistersModel", "payBehind", "(IZII)I"⟩, 29), (⟨"StepRegistersModel", "costOf", "(IZII)I"⟩, 29), (⟨"StepRegistersModel", "isFar", "(II)Z"⟩, 29)]
theorem lw_r2 : ∀ q ∈ lw_privs_2, lw_okq q := List.forall_mem_cons.mpr ⟨lw_p16, List.forall_mem_cons.mpr ⟨lw_p17, List.forall_mem_cons.mpr ⟨lw_p18, List.forall_mem_cons.mpr ⟨lw_p19, List.forall_mem_cons.mpr ⟨lw_p20, List.forall_mem_cons.mpr ⟨lw_p21, List.forall_mem_cons.mpr ⟨lw_p22, List.forall_mem_cons.mpr ⟨lw_p23, List.forall_mem_cons.mpr ⟨lw_p24, List.forall_mem_cons.mpr ⟨lw_p25, List.forall_mem_cons.mpr ⟨lw_p26, List.forall_mem_cons.mpr ⟨lw_p27, List.forall_mem_cons.mpr ⟨lw_p28, List.forall_mem_cons.mpr ⟨lw_p29, List.forall_mem_cons.mpr ⟨lw_p30, List.forall_mem_cons.mpr ⟨lw_p31, fun _ h => absurd h List.not_mem_nil⟩⟩⟩⟩⟩⟩⟩⟩⟩⟩⟩⟩⟩⟩⟩⟩
theorem lw_p32 : lw_okq (⟨"StepRegistersModel", "canTurn", "(I)Z"⟩, 29) := ⟨⟨by decide +kernel, by decide +kernel⟩, List.mem_of_getElem? (i := 595) (by decide +kernel), List.mem_of_getElem? (i := 786) (by decide +kernel), List.mem_of_getElem? (i := 787) (by decide +kernel)⟩
theorem lw_p33 : lw_okq (⟨"StepRegistersModel", "isNext", "(I)Z"⟩, 29) := ⟨⟨by decide +kernel, by decide +kernel⟩, List.mem_of_getElem? (i := 595) (by decide +kernel), List.mem_of_getElem? (i := 790) (by decide +kernel), List.mem_of_getElem? (i := 791) (by decide +kernel)⟩
theorem lw_p34 : lw_okq (⟨"StepRegistersModel", "swap", "(II)V"⟩, 29) := ⟨⟨by decide +kernel, by decide +kernel⟩, List.mem_of_getElem? (i := 595) (by decide +kernel), List.mem_of_getElem? (i := 794) (by decide +kernel), List.mem_of_getElem? (i := 795) (by decide +kernel)⟩
theorem lw_p35 : lw_okq (⟨"StepRegistersModel", "part", "(III)V"⟩, 29) := ⟨⟨by decide +kernel, by decide +kernel⟩, List.mem_of_getElem? (i := 595) (by decide +kernel), List.mem_of_getElem? (i := 804) (by decide +kernel), List.mem_of_getElem? (i := 805) (by decide +kernel)⟩
theorem lw_p36 : lw_okq (⟨"StepRegistersModel", "costNow", "(I)I"⟩, 29) := ⟨⟨by decide +kernel, by decide +kernel⟩, List.mem_of_getElem? (i := 595) (by decide +kernel), List.mem_of_getElem? (i := 808) (by decide +kernel), List.mem_of_getElem? (i := 809) (by decide +kernel)⟩
theorem lw_p37 : lw_okq (⟨"StepRegistersModel", "turnedFor", "(II)I"⟩, 29) := ⟨⟨by decide +kernel, by decide +kernel⟩, List.mem_of_getElem? (i := 595) (by decide +kernel), List.mem_of_getElem? (i := 812) (by decide +kernel), List.mem_of_getElem? (i := 813) (by decide +kernel)⟩
theorem lw_p38 : lw_okq (⟨"StepRegistersModel", "layWeights", "()V"⟩, 29) := ⟨⟨by decide +kernel, by decide +kernel⟩, List.mem_of_getElem? (i := 595) (by decide +kernel), List.mem_of_getElem? (i := 832) (by decide +kernel), List.mem_of_getElem? (i := 833) (by decide +kernel)⟩
theorem lw_p39 : lw_okq (⟨"StepRegistersModel", "layTaken", "()V"⟩, 29) := ⟨⟨by decide +kernel, by decide +kernel⟩, List.mem_of_getElem? (i := 595) (by decide +kernel), List.mem_of_getElem? (i := 840) (by decide +kernel), List.mem_of_getElem? (i := 841) (by decide +kernel)⟩
theorem lw_p40 : lw_okq (⟨"StepRegistersModel", "heaviest", "()I"⟩, 29) := ⟨⟨by decide +kernel, by decide +kernel⟩, List.mem_of_getElem? (i := 595) (by decide +kernel), List.mem_of_getElem? (i := 844) (by decide +kernel), List.mem_of_getElem? (i := 845) (by decide +kernel)⟩
theorem lw_p41 : lw_okq (⟨"StepRegistersModel", "greedyCost", "()I"⟩, 29) := ⟨⟨by decide +kernel, by decide +kernel⟩, List.mem_of_getElem? (i := 595) (by decide +kernel), List.mem_of_getElem? (i := 860) (by decide +kernel), List.mem_of_getElem? (i := 861) (by decide +kernel)⟩
theorem lw_p42 : lw_okq (⟨"StepRegistersModel", "bound", "()I"⟩, 29) := ⟨⟨by decide +kernel, by decide +kernel⟩, List.mem_of_getElem? (i := 595) (by decide +kernel), List.mem_of_getElem? (i := 864) (by decide +kernel), List.mem_of_getElem? (i := 865) (by decide +kernel)⟩
def lw_privs_3 : List (MethodName × Nat) := [(⟨"StepRegistersModel", "canTurn", "(I)Z"⟩, 29), (⟨"StepRegistersModel", "isNext", "(I)Z"⟩, 29), (⟨"StepRegistersModel", "swap", "(II)V"⟩, 29), (⟨"StepRegistersModel", "part", "(III)V"⟩, 29), (⟨"StepRegistersModel", "costNow", "(I)I"⟩, 29), (⟨"StepRegistersModel", "turnedFor", "(II)I"⟩, 29), (⟨"StepRegistersModel", "layWeights", "()V"⟩, 29), (⟨"StepRegistersModel", "layTaken", "()V"⟩, 29), (⟨"StepRegistersModel", "heaviest", "()I"⟩, 29), (⟨"StepRegistersModel", "greedyCost", "()I"⟩, 29), (⟨"StepRegistersModel", "bound", "()I"⟩, 29)]
theorem lw_r3 : ∀ q ∈ lw_privs_3, lw_okq q := List.forall_mem_cons.mpr ⟨lw_p32, List.forall_mem_cons.mpr ⟨lw_p33, List.forall_mem_cons.mpr ⟨lw_p34, List.forall_mem_cons.mpr ⟨lw_p35, List.forall_mem_cons.mpr ⟨lw_p36, List.forall_mem_cons.mpr ⟨lw_p37, List.forall_mem_cons.mpr ⟨lw_p38, List.forall_mem_cons.mpr ⟨lw_p39, List.forall_mem_cons.mpr ⟨lw_p40, List.forall_mem_cons.mpr ⟨lw_p41, List.forall_mem_cons.mpr ⟨lw_p42, fun _ h => absurd h List.not_mem_nil⟩⟩⟩⟩⟩⟩⟩⟩⟩⟩⟩
def lw_privs : List (MethodName × Nat) := lw_privs_1 ++ (lw_privs_2 ++ (lw_privs_3))
def lw_tbl : List Cond := k2_sels lw_privs ++ tables_1
theorem lw_privs_ok : ∀ q ∈ lw_privs, lw_okq q := by
  show ∀ q ∈ lw_privs_1 ++ (lw_privs_2 ++ (lw_privs_3)), lw_okq q
  exact List.forall_mem_append.mpr ⟨lw_r1, List.forall_mem_append.mpr ⟨lw_r2, lw_r3⟩⟩
def RX0 : String := "StepRegisters$Greedy"
def TX0 : u_T := fun k => match k with
  | 0 => ("StepRegisters$Greedy", "takenPairs", "[Z", true)
  | 1 => ("StepRegisters$Greedy", "rest", "[I", true)
  | 2 => ("StepRegisters$Greedy", "degrees", "[I", true)
  | 3 => ("StepRegisters$Greedy", "groups", "[I", true)
  | 4 => ("StepRegisters$Greedy", "pairs", "I", false)
  | _ => ("StepRegisters$Greedy", "left", "I", false)
def tyX0 : Nat → FieldType := fun k => match k with
  | 0 => .array .boolean
  | 1 => .array .int
  | 2 => .array .int
  | 3 => .array .int
  | 4 => .int
  | _ => .int
abbrev wsX00 : List Cond := u_ws RX0 TX0 6
theorem nmX0 : ∀ a, a < 6 → ∀ b, b < 6 → a ≠ b → (TX0 a).2.1 ≠ (TX0 b).2.1 := by decide +kernel
theorem tyX0_ok : ∀ k, k < 6 → parseFieldDescriptor (TX0 k).2.2.1 = some (tyX0 k) := by decide +kernel
abbrev cX0_init : ByteArray := prog_2_method_1_code
def yX0_init : MethodName := ⟨RX0, "<init>", "()V"⟩
abbrev cX0_has : ByteArray := prog_2_method_2_code
def yX0_has : MethodName := ⟨RX0, "has", "(II)Z"⟩
abbrev cX0_take : ByteArray := prog_2_method_3_code
def yX0_take : MethodName := ⟨RX0, "take", "([I)V"⟩
abbrev cX0_leftByGreatest : ByteArray := prog_2_method_4_code
def yX0_leftByGreatest : MethodName := ⟨RX0, "leftByGreatest", "([II)I"⟩
abbrev cX0_load : ByteArray := prog_2_method_5_code
def yX0_load : MethodName := ⟨RX0, "load", "([I)I"⟩
abbrev cX0_greatest : ByteArray := prog_2_method_6_code
def yX0_greatest : MethodName := ⟨RX0, "greatest", "()I"⟩
abbrev cX0_join : ByteArray := prog_2_method_7_code
def yX0_join : MethodName := ⟨RX0, "join", "(II)V"⟩
def RX1 : String := "StepRegisters$Laying"
def TX1 : u_T := fun k => match k with
  | 0 => ("StepRegisters$Laying", "walk", "LStepRegisters$Walk;", true)
  | 1 => ("StepRegisters$Laying", "cells", "[I", true)
  | 2 => ("StepRegisters$Laying", "members", "[I", true)
  | 3 => ("StepRegisters$Laying", "twins", "[I", true)
  | 4 => ("StepRegisters$Laying", "size", "I", false)
  | 5 => ("StepRegisters$Laying", "least", "I", false)
  | _ => ("StepRegisters$Laying", "layout", "I", false)
def tyX1 : Nat → FieldType := fun k => match k with
  | 0 => .object "StepRegisters$Walk"
  | 1 => .array .int
  | 2 => .array .int
  | 3 => .array .int
  | 4 => .int
  | 5 => .int
  | _ => .int
abbrev wsX10 : List Cond := u_ws RX1 TX1 7
theorem nmX1 : ∀ a, a < 7 → ∀ b, b < 7 → a ≠ b → (TX1 a).2.1 ≠ (TX1 b).2.1 := by decide +kernel
theorem tyX1_ok : ∀ k, k < 7 → parseFieldDescriptor (TX1 k).2.2.1 = some (tyX1 k) := by decide +kernel
abbrev cX1_init : ByteArray := prog_3_method_1_code
def yX1_init : MethodName := ⟨RX1, "<init>", "(LStepRegisters$Walk;)V"⟩
abbrev cX1_leastBelow : ByteArray := prog_3_method_2_code
def yX1_leastBelow : MethodName := ⟨RX1, "leastBelow", "(ILStepRegisters$State;II)I"⟩
abbrev cX1_findTwins : ByteArray := prog_3_method_3_code
def yX1_findTwins : MethodName := ⟨RX1, "findTwins", "()V"⟩
abbrev cX1_lay : ByteArray := prog_3_method_4_code
def yX1_lay : MethodName := ⟨RX1, "lay", "(III)V"⟩
abbrev cX1_keep : ByteArray := prog_3_method_5_code
def yX1_keep : MethodName := ⟨RX1, "keep", "()V"⟩
def RX2 : String := "StepRegisters$Plan"
def TX2 : u_T := fun k => match k with
  | 0 => ("StepRegisters$Plan", "ready", "Z", false)
  | 1 => ("StepRegisters$Plan", "cost", "I", false)
  | 2 => ("StepRegisters$Plan", "filled", "I", false)
  | 3 => ("StepRegisters$Plan", "turned", "I", false)
  | 4 => ("StepRegisters$Plan", "registers", "[I", true)
  | _ => ("StepRegisters$Plan", "cells", "[I", true)
def tyX2 : Nat → FieldType := fun k => match k with
  | 0 => .boolean
  | 1 => .int
  | 2 => .int
  | 3 => .int
  | 4 => .array .int
  | _ => .array .int
abbrev wsX20 : List Cond := u_ws RX2 TX2 6
theorem nmX2 : ∀ a, a < 6 → ∀ b, b < 6 → a ≠ b → (TX2 a).2.1 ≠ (TX2 b).2.1 := by decide +kernel
theorem tyX2_ok : ∀ k, k < 6 → parseFieldDescriptor (TX2 k).2.2.1 = some (tyX2 k) := by decide +kernel
abbrev cX2_init : ByteArray := prog_4_method_1_code
def yX2_init : MethodName := ⟨RX2, "<init>", "()V"⟩
def RX3 : String := "StepRegisters$Planner"
def TX3 : u_T := fun k => match k with
  | 0 => ("StepRegisters$Planner", "state", "LStepRegisters$State;", true)
  | 1 => ("StepRegisters$Planner", "walk", "LStepRegisters$Walk;", true)
  | 2 => ("StepRegisters$Planner", "laying", "LStepRegisters$Laying;", true)
  | 3 => ("StepRegisters$Planner", "plans", "[LStepRegisters$Plan;", true)
  | 4 => ("StepRegisters$Planner", "floors", "[[I", true)
  | 5 => ("StepRegisters$Planner", "layouts", "[[I", true)
  | 6 => ("StepRegisters$Planner", "blocks", "[I", true)
  | 7 => ("StepRegisters$Planner", "bestBlocks", "[I", true)
  | 8 => ("StepRegisters$Planner", "used", "[I", true)
  | 9 => ("StepRegisters$Planner", "usedCount", "I", false)
  | 10 => ("StepRegisters$Planner", "widest", "I", false)
  | 11 => ("StepRegisters$Planner", "registers", "I", false)
  | 12 => ("StepRegisters$Planner", "mode", "I", false)
  | 13 => ("StepRegisters$Planner", "mayTurn", "I", false)
  | 14 => ("StepRegisters$Planner", "best", "I", false)
  | _ => ("StepRegisters$Planner", "bestFilled", "I", false)
def tyX3 : Nat → FieldType := fun k => match k with
  | 0 => .object "StepRegisters$State"
  | 1 => .object "StepRegisters$Walk"
  | 2 => .object "StepRegisters$Laying"
  | 3 => .array (.object "StepRegisters$Plan")
  | 4 => .array (.array .int)
  | 5 => .array (.array .int)
  | 6 => .array .int
  | 7 => .array .int
  | 8 => .array .int
  | 9 => .int
  | 10 => .int
  | 11 => .int
  | 12 => .int
  | 13 => .int
  | 14 => .int
  | _ => .int
abbrev wsX30 : List Cond := u_ws RX3 TX3 16
theorem nmX3 : ∀ a, a < 16 → ∀ b, b < 16 → a ≠ b → (TX3 a).2.1 ≠ (TX3 b).2.1 := by decide +kernel
theorem tyX3_ok : ∀ k, k < 16 → parseFieldDescriptor (TX3 k).2.2.1 = some (tyX3 k) := by decide +kernel
abbrev cX3_init : ByteArray := prog_5_method_1_code
def yX3_init : MethodName := ⟨RX3, "<init>", "(LStepRegisters$State;LStepRegisters$Walk;)V"⟩
abbrev cX3_forget : ByteArray := prog_5_method_2_code
def yX3_forget : MethodName := ⟨RX3, "forget", "()V"⟩
abbrev cX3_planFor : ByteArray := prog_5_method_3_code
def yX3_planFor : MethodName := ⟨RX3, "planFor", "(II)LStepRegisters$Plan;"⟩
abbrev cX3_listUsed : ByteArray := prog_5_method_4_code
def yX3_listUsed : MethodName := ⟨RX3, "listUsed", "()V"⟩
abbrev cX3_divide : ByteArray := prog_5_method_5_code
def yX3_divide : MethodName := ⟨RX3, "divide", "(II)V"⟩
abbrev cX3_compare : ByteArray := prog_5_method_6_code
def yX3_compare : MethodName := ⟨RX3, "compare", "(I)V"⟩
abbrev cX3_write : ByteArray := prog_5_method_7_code
def yX3_write : MethodName := ⟨RX3, "write", "(LStepRegisters$Plan;)V"⟩
abbrev cX3_turnedIn : ByteArray := prog_5_method_8_code
def yX3_turnedIn : MethodName := ⟨RX3, "turnedIn", "(I[I)I"⟩
def RX4 : String := "StepRegisters$Sight"
def TX4 : u_T := fun k => match k with
  | 0 => ("StepRegisters$Sight", "variables", "[I", true)
  | _ => ("StepRegisters$Sight", "length", "I", false)
def tyX4 : Nat → FieldType := fun k => match k with
  | 0 => .array .int
  | _ => .int
abbrev wsX40 : List Cond := u_ws RX4 TX4 2
theorem nmX4 : ∀ a, a < 2 → ∀ b, b < 2 → a ≠ b → (TX4 a).2.1 ≠ (TX4 b).2.1 := by decide +kernel
theorem tyX4_ok : ∀ k, k < 2 → parseFieldDescriptor (TX4 k).2.2.1 = some (tyX4 k) := by decide +kernel
abbrev cX4_init : ByteArray := prog_6_method_1_code
def yX4_init : MethodName := ⟨RX4, "<init>", "()V"⟩
abbrev cX4_look : ByteArray := prog_6_method_2_code
def yX4_look : MethodName := ⟨RX4, "look", "(LStepRegisters$State;I)V"⟩
abbrev cX4_has : ByteArray := prog_6_method_3_code
def yX4_has : MethodName := ⟨RX4, "has", "(I)Z"⟩
abbrev cX4_before : ByteArray := prog_6_method_4_code
def yX4_before : MethodName := ⟨RX4, "before", "(I[I)I"⟩
abbrev cX4_add : ByteArray := prog_6_method_5_code
def yX4_add : MethodName := ⟨RX4, "add", "(I)V"⟩
def RX5 : String := "StepRegisters$State"
def TX5 : u_T := fun k => match k with
  | 0 => ("StepRegisters$State", "size", "I", false)
  | 1 => ("StepRegisters$State", "kinds", "[I", true)
  | 2 => ("StepRegisters$State", "targets", "[I", true)
  | 3 => ("StepRegisters$State", "lefts", "[I", true)
  | 4 => ("StepRegisters$State", "rights", "[I", true)
  | 5 => ("StepRegisters$State", "freeSet", "I", false)
  | 6 => ("StepRegisters$State", "values", "[I", true)
  | _ => ("StepRegisters$State", "hand", "[I", true)
def tyX5 : Nat → FieldType := fun k => match k with
  | 0 => .int
  | 1 => .array .int
  | 2 => .array .int
  | 3 => .array .int
  | 4 => .array .int
  | 5 => .int
  | 6 => .array .int
  | _ => .array .int
abbrev wsX50 : List Cond := u_ws RX5 TX5 8
theorem nmX5 : ∀ a, a < 8 → ∀ b, b < 8 → a ≠ b → (TX5 a).2.1 ≠ (TX5 b).2.1 := by decide +kernel
theorem tyX5_ok : ∀ k, k < 8 → parseFieldDescriptor (TX5 k).2.2.1 = some (tyX5 k) := by decide +kernel
abbrev cX5_init : ByteArray := prog_7_method_1_code
def yX5_init : MethodName := ⟨RX5, "<init>", "()V"⟩
abbrev cX5_has : ByteArray := prog_7_method_2_code
def yX5_has : MethodName := ⟨RX5, "has", "(I)Z"⟩
abbrev cX5_append : ByteArray := prog_7_method_3_code
def yX5_append : MethodName := ⟨RX5, "append", "(IIII)V"⟩
abbrev cX5_remove : ByteArray := prog_7_method_4_code
def yX5_remove : MethodName := ⟨RX5, "remove", "(I)V"⟩
abbrev cX5_copyFrom : ByteArray := prog_7_method_5_code
def yX5_copyFrom : MethodName := ⟨RX5, "copyFrom", "(LStepRegisters$State;)V"⟩
abbrev cX5_usedSet : ByteArray := prog_7_method_6_code
def yX5_usedSet : MethodName := ⟨RX5, "usedSet", "()I"⟩
abbrev cX5_turnable : ByteArray := prog_7_method_7_code
def yX5_turnable : MethodName := ⟨RX5, "turnable", "()I"⟩
abbrev cX5_isFar : ByteArray := prog_7_method_8_code
def yX5_isFar : MethodName := ⟨RX5, "isFar", "(II)Z"⟩
abbrev cX5_execute : ByteArray := prog_7_method_9_code
def yX5_execute : MethodName := ⟨RX5, "execute", "()V"⟩
abbrev cX5_result : ByteArray := prog_7_method_10_code
def yX5_result : MethodName := ⟨RX5, "result", "(III)I"⟩
def RX6 : String := "StepRegisters$Walk"
def TX6 : u_T := fun k => match k with
  | 0 => ("StepRegisters$Walk", "beside", "[I", true)
  | 1 => ("StepRegisters$Walk", "far", "[I", true)
  | 2 => ("StepRegisters$Walk", "from", "[I", true)
  | 3 => ("StepRegisters$Walk", "one", "[I", true)
  | 4 => ("StepRegisters$Walk", "other", "[I", true)
  | 5 => ("StepRegisters$Walk", "laid", "[I", true)
  | 6 => ("StepRegisters$Walk", "forks", "I", false)
  | 7 => ("StepRegisters$Walk", "members", "I", false)
  | 8 => ("StepRegisters$Walk", "last", "I", false)
  | _ => ("StepRegisters$Walk", "open", "Z", false)
def tyX6 : Nat → FieldType := fun k => match k with
  | 0 => .array .int
  | 1 => .array .int
  | 2 => .array .int
  | 3 => .array .int
  | 4 => .array .int
  | 5 => .array .int
  | 6 => .int
  | 7 => .int
  | 8 => .int
  | _ => .boolean
abbrev wsX60 : List Cond := u_ws RX6 TX6 10
theorem nmX6 : ∀ a, a < 10 → ∀ b, b < 10 → a ≠ b → (TX6 a).2.1 ≠ (TX6 b).2.1 := by decide +kernel
theorem tyX6_ok : ∀ k, k < 10 → parseFieldDescriptor (TX6 k).2.2.1 = some (tyX6 k) := by decide +kernel
abbrev cX6_init : ByteArray := prog_8_method_1_code
def yX6_init : MethodName := ⟨RX6, "<init>", "()V"⟩
abbrev cX6_trace : ByteArray := prog_8_method_2_code
def yX6_trace : MethodName := ⟨RX6, "trace", "(LStepRegisters$State;III)V"⟩
abbrev cX6_cost : ByteArray := prog_8_method_3_code
def yX6_cost : MethodName := ⟨RX6, "cost", "([I)I"⟩
abbrev cX6_pairCost : ByteArray := prog_8_method_4_code
def yX6_pairCost : MethodName := ⟨RX6, "pairCost", "(I[I)I"⟩
abbrev cX6_forkCost : ByteArray := prog_8_method_5_code
def yX6_forkCost : MethodName := ⟨RX6, "forkCost", "([I)I"⟩
abbrev cX6_areTwins : ByteArray := prog_8_method_6_code
def yX6_areTwins : MethodName := ⟨RX6, "areTwins", "(III)Z"⟩
abbrev cX6_has : ByteArray := prog_8_method_7_code
def yX6_has : MethodName := ⟨RX6, "has", "(I)Z"⟩
abbrev cX6_pass : ByteArray := prog_8_method_8_code
def yX6_pass : MethodName := ⟨RX6, "pass", "(I)V"⟩
abbrev cX6_fork : ByteArray := prog_8_method_9_code
def yX6_fork : MethodName := ⟨RX6, "fork", "(II)V"⟩
abbrev cX6_pair : ByteArray := prog_8_method_10_code
def yX6_pair : MethodName := ⟨RX6, "pair", "(II)V"⟩
abbrev cX6_addFork : ByteArray := prog_8_method_11_code
def yX6_addFork : MethodName := ⟨RX6, "addFork", "(III)V"⟩
abbrev cX6_measure : ByteArray := prog_8_method_12_code
def yX6_measure : MethodName := ⟨RX6, "measure", "(LStepRegisters$State;)V"⟩
def RX7 : String := "StepRegisters"
def TX7 : u_T := fun k => match k with
  | 0 => ("StepRegisters", "now", "LStepRegisters$State;", true)
  | 1 => ("StepRegisters", "images", "[LStepRegisters$State;", true)
  | 2 => ("StepRegisters", "kept", "I", false)
  | 3 => ("StepRegisters", "seen", "LStepRegisters$Sight;", true)
  | 4 => ("StepRegisters", "walk", "LStepRegisters$Walk;", true)
  | 5 => ("StepRegisters", "planner", "LStepRegisters$Planner;", true)
  | _ => ("StepRegisters", "greedy", "LStepRegisters$Greedy;", true)
def tyX7 : Nat → FieldType := fun k => match k with
  | 0 => .object "StepRegisters$State"
  | 1 => .array (.object "StepRegisters$State")
  | 2 => .int
  | 3 => .object "StepRegisters$Sight"
  | 4 => .object "StepRegisters$Walk"
  | 5 => .object "StepRegisters$Planner"
  | _ => .object "StepRegisters$Greedy"
abbrev wsX70 : List Cond := u_ws RX7 TX7 7
theorem nmX7 : ∀ a, a < 7 → ∀ b, b < 7 → a ≠ b → (TX7 a).2.1 ≠ (TX7 b).2.1 := by decide +kernel
theorem tyX7_ok : ∀ k, k < 7 → parseFieldDescriptor (TX7 k).2.2.1 = some (tyX7 k) := by decide +kernel
abbrev cX7_init : ByteArray := prog_1_method_1_code
def yX7_init : MethodName := ⟨RX7, "<init>", "()V"⟩
abbrev cX7_put : ByteArray := prog_1_method_2_code
def yX7_put : MethodName := ⟨RX7, "put", "(IIII)I"⟩
abbrev cX7_drop : ByteArray := prog_1_method_3_code
def yX7_drop : MethodName := ⟨RX7, "drop", "(I)I"⟩
abbrev cX7_cross : ByteArray := prog_1_method_4_code
def yX7_cross : MethodName := ⟨RX7, "cross", "(I)I"⟩
abbrev cX7_told : ByteArray := prog_1_method_5_code
def yX7_told : MethodName := ⟨RX7, "told", "(II)I"⟩
abbrev cX7_free : ByteArray := prog_1_method_6_code
def yX7_free : MethodName := ⟨RX7, "free", "(II)I"⟩
abbrev cX7_set : ByteArray := prog_1_method_7_code
def yX7_set : MethodName := ⟨RX7, "set", "(II)I"⟩
abbrev cX7_value : ByteArray := prog_1_method_8_code
def yX7_value : MethodName := ⟨RX7, "value", "(I)J"⟩
abbrev cX7_sight : ByteArray := prog_1_method_9_code
def yX7_sight : MethodName := ⟨RX7, "sight", "(I)I"⟩
abbrev cX7_plan : ByteArray := prog_1_method_10_code
def yX7_plan : MethodName := ⟨RX7, "plan", "(III)I"⟩
abbrev cX7_place : ByteArray := prog_1_method_11_code
def yX7_place : MethodName := ⟨RX7, "place", "(IIII)I"⟩
abbrev cX7_step : ByteArray := prog_1_method_12_code
def yX7_step : MethodName := ⟨RX7, "step", "(IIII)I"⟩
abbrev cX7_run : ByteArray := prog_1_method_13_code
def yX7_run : MethodName := ⟨RX7, "run", "(II)I"⟩
abbrev cX7_weight : ByteArray := prog_1_method_14_code
def yX7_weight : MethodName := ⟨RX7, "weight", "(II)I"⟩
abbrev cX7_taken : ByteArray := prog_1_method_15_code
def yX7_taken : MethodName := ⟨RX7, "taken", "(II)I"⟩
abbrev cX7_exchange : ByteArray := prog_1_method_16_code
def yX7_exchange : MethodName := ⟨RX7, "exchange", "(II)I"⟩
abbrev cX7_hand : ByteArray := prog_1_method_17_code
def yX7_hand : MethodName := ⟨RX7, "hand", "(I)I"⟩
abbrev cX7_count : ByteArray := prog_1_method_18_code
def yX7_count : MethodName := ⟨RX7, "count", "(I)I"⟩
abbrev cX7_image : ByteArray := prog_1_method_19_code
def yX7_image : MethodName := ⟨RX7, "image", "(I)I"⟩
abbrev cX7_restore : ByteArray := prog_1_method_20_code
def yX7_restore : MethodName := ⟨RX7, "restore", "(I)I"⟩
abbrev cX7_changed : ByteArray := prog_1_method_21_code
def yX7_changed : MethodName := ⟨RX7, "changed", "()V"⟩
abbrev cX7_isVariable : ByteArray := prog_1_method_22_code
def yX7_isVariable : MethodName := ⟨RX7, "isVariable", "(I)Z"⟩
abbrev cX7_isMode : ByteArray := prog_1_method_23_code
def yX7_isMode : MethodName := ⟨RX7, "isMode", "(I)Z"⟩
abbrev cX7_isPlan : ByteArray := prog_1_method_24_code
def yX7_isPlan : MethodName := ⟨RX7, "isPlan", "(II)Z"⟩
abbrev cX7_weights : ByteArray := prog_1_method_25_code
def yX7_weights : MethodName := ⟨RX7, "weights", "()[I"⟩
abbrev cX7_first : ByteArray := prog_1_method_26_code
def yX7_first : MethodName := ⟨RX7, "first", "()I"⟩
def RX8 : String := "StepRegistersModel"
def TX8 : u_T := fun k => match k with
  | 0 => ("StepRegistersModel", "many", "I", false)
  | 1 => ("StepRegistersModel", "kind", "[I", true)
  | 2 => ("StepRegistersModel", "target", "[I", true)
  | 3 => ("StepRegistersModel", "left", "[I", true)
  | 4 => ("StepRegistersModel", "right", "[I", true)
  | 5 => ("StepRegistersModel", "value", "[I", true)
  | 6 => ("StepRegistersModel", "cellByHand", "[I", true)
  | 7 => ("StepRegistersModel", "isFree", "[Z", true)
  | 8 => ("StepRegistersModel", "isOld", "[Z", true)
  | 9 => ("StepRegistersModel", "line", "[I", true)
  | 10 => ("StepRegistersModel", "cell", "[I", true)
  | 11 => ("StepRegistersModel", "pay", "[I", true)
  | 12 => ("StepRegistersModel", "after", "I", false)
  | 13 => ("StepRegistersModel", "costs", "[I", true)
  | 14 => ("StepRegistersModel", "cells", "[I", true)
  | 15 => ("StepRegistersModel", "member", "[I", true)
  | 16 => ("StepRegistersModel", "row", "[I", true)
  | 17 => ("StepRegistersModel", "register", "[I", true)
  | 18 => ("StepRegistersModel", "sets", "[I", true)
  | 19 => ("StepRegistersModel", "planCost", "I", false)
  | 20 => ("StepRegistersModel", "planTurned", "I", false)
  | 21 => ("StepRegistersModel", "weights", "[I", true)
  | 22 => ("StepRegistersModel", "isTaken", "[Z", true)
  | 23 => ("StepRegistersModel", "isGone", "[Z", true)
  | 24 => ("StepRegistersModel", "ties", "[I", true)
  | 25 => ("StepRegistersModel", "chain", "[I", true)
  | 26 => ("StepRegistersModel", "takenPairs", "I", false)
  | 27 => ("StepRegistersModel", "image", "[I", true)
  | _ => ("StepRegistersModel", "isKept", "[Z", true)
def tyX8 : Nat → FieldType := fun k => match k with
  | 0 => .int
  | 1 => .array .int
  | 2 => .array .int
  | 3 => .array .int
  | 4 => .array .int
  | 5 => .array .int
  | 6 => .array .int
  | 7 => .array .boolean
  | 8 => .array .boolean
  | 9 => .array .int
  | 10 => .array .int
  | 11 => .array .int
  | 12 => .int
  | 13 => .array .int
  | 14 => .array .int
  | 15 => .array .int
  | 16 => .array .int
  | 17 => .array .int
  | 18 => .array .int
  | 19 => .int
  | 20 => .int
  | 21 => .array .int
  | 22 => .array .boolean
  | 23 => .array .boolean
  | 24 => .array .int
  | 25 => .array .int
  | 26 => .int
  | 27 => .array .int
  | _ => .array .boolean
abbrev wsX80 : List Cond := u_ws RX8 TX8 29
theorem nmX8 : ∀ a, a < 29 → ∀ b, b < 29 → a ≠ b → (TX8 a).2.1 ≠ (TX8 b).2.1 := by decide +kernel
theorem tyX8_ok : ∀ k, k < 29 → parseFieldDescriptor (TX8 k).2.2.1 = some (tyX8 k) := by decide +kernel
abbrev cX8_init : ByteArray := prog_10_method_1_code
def yX8_init : MethodName := ⟨RX8, "<init>", "()V"⟩
abbrev cX8_in : ByteArray := prog_10_method_2_code
def yX8_in : MethodName := ⟨RX8, "in", "(III)Z"⟩
abbrev cX8_isVariable : ByteArray := prog_10_method_3_code
def yX8_isVariable : MethodName := ⟨RX8, "isVariable", "(I)Z"⟩
abbrev cX8_has : ByteArray := prog_10_method_4_code
def yX8_has : MethodName := ⟨RX8, "has", "(II)Z"⟩
abbrev cX8_isStatement : ByteArray := prog_10_method_5_code
def yX8_isStatement : MethodName := ⟨RX8, "isStatement", "(I)Z"⟩
abbrev cX8_change : ByteArray := prog_10_method_6_code
def yX8_change : MethodName := ⟨RX8, "change", "()V"⟩
abbrev cX8_put : ByteArray := prog_10_method_7_code
def yX8_put : MethodName := ⟨RX8, "put", "(IIII)I"⟩
abbrev cX8_drop : ByteArray := prog_10_method_8_code
def yX8_drop : MethodName := ⟨RX8, "drop", "(I)I"⟩
abbrev cX8_cross : ByteArray := prog_10_method_9_code
def yX8_cross : MethodName := ⟨RX8, "cross", "(I)I"⟩
abbrev cX8_told : ByteArray := prog_10_method_10_code
def yX8_told : MethodName := ⟨RX8, "told", "(II)I"⟩
abbrev cX8_free : ByteArray := prog_10_method_11_code
def yX8_free : MethodName := ⟨RX8, "free", "(II)I"⟩
abbrev cX8_set : ByteArray := prog_10_method_12_code
def yX8_set : MethodName := ⟨RX8, "set", "(II)I"⟩
abbrev cX8_value : ByteArray := prog_10_method_13_code
def yX8_value : MethodName := ⟨RX8, "value", "(I)J"⟩
abbrev cX8_seen : ByteArray := prog_10_method_14_code
def yX8_seen : MethodName := ⟨RX8, "seen", "(IIZ)I"⟩
abbrev cX8_canTurn : ByteArray := prog_10_method_15_code
def yX8_canTurn : MethodName := ⟨RX8, "canTurn", "(I)Z"⟩
abbrev cX8_layLine : ByteArray := prog_10_method_16_code
def yX8_layLine : MethodName := ⟨RX8, "layLine", "(I)I"⟩
abbrev cX8_sight : ByteArray := prog_10_method_17_code
def yX8_sight : MethodName := ⟨RX8, "sight", "(I)I"⟩
abbrev cX8_usedOnes : ByteArray := prog_10_method_18_code
def yX8_usedOnes : MethodName := ⟨RX8, "usedOnes", "()I"⟩
abbrev cX8_isFar : ByteArray := prog_10_method_19_code
def yX8_isFar : MethodName := ⟨RX8, "isFar", "(II)Z"⟩
abbrev cX8_costOf : ByteArray := prog_10_method_20_code
def yX8_costOf : MethodName := ⟨RX8, "costOf", "(IZII)I"⟩
abbrev cX8_payBehind : ByteArray := prog_10_method_21_code
def yX8_payBehind : MethodName := ⟨RX8, "payBehind", "(IZII)I"⟩
abbrev cX8_layPay : ByteArray := prog_10_method_22_code
def yX8_layPay : MethodName := ⟨RX8, "layPay", "(II)I"⟩
abbrev cX8_turnedFor : ByteArray := prog_10_method_23_code
def yX8_turnedFor : MethodName := ⟨RX8, "turnedFor", "(II)I"⟩
abbrev cX8_isNext : ByteArray := prog_10_method_24_code
def yX8_isNext : MethodName := ⟨RX8, "isNext", "(I)Z"⟩
abbrev cX8_swap : ByteArray := prog_10_method_25_code
def yX8_swap : MethodName := ⟨RX8, "swap", "(II)V"⟩
abbrev cX8_laySet : ByteArray := prog_10_method_26_code
def yX8_laySet : MethodName := ⟨RX8, "laySet", "(II)V"⟩
abbrev cX8_laySets : ByteArray := prog_10_method_27_code
def yX8_laySets : MethodName := ⟨RX8, "laySets", "(I)V"⟩
abbrev cX8_power : ByteArray := prog_10_method_28_code
def yX8_power : MethodName := ⟨RX8, "power", "(II)I"⟩
abbrev cX8_bits : ByteArray := prog_10_method_29_code
def yX8_bits : MethodName := ⟨RX8, "bits", "(I)I"⟩
abbrev cX8_part : ByteArray := prog_10_method_30_code
def yX8_part : MethodName := ⟨RX8, "part", "(III)V"⟩
abbrev cX8_costNow : ByteArray := prog_10_method_31_code
def yX8_costNow : MethodName := ⟨RX8, "costNow", "(I)I"⟩
abbrev cX8_layPlan : ByteArray := prog_10_method_32_code
def yX8_layPlan : MethodName := ⟨RX8, "layPlan", "(II)V"⟩
abbrev cX8_isAsked : ByteArray := prog_10_method_33_code
def yX8_isAsked : MethodName := ⟨RX8, "isAsked", "(II)Z"⟩
abbrev cX8_plan : ByteArray := prog_10_method_34_code
def yX8_plan : MethodName := ⟨RX8, "plan", "(III)I"⟩
abbrev cX8_place : ByteArray := prog_10_method_35_code
def yX8_place : MethodName := ⟨RX8, "place", "(IIII)I"⟩
abbrev cX8_step : ByteArray := prog_10_method_36_code
def yX8_step : MethodName := ⟨RX8, "step", "(IIII)I"⟩
abbrev cX8_run : ByteArray := prog_10_method_37_code
def yX8_run : MethodName := ⟨RX8, "run", "(II)I"⟩
abbrev cX8_layWeights : ByteArray := prog_10_method_38_code
def yX8_layWeights : MethodName := ⟨RX8, "layWeights", "()V"⟩
abbrev cX8_weight : ByteArray := prog_10_method_39_code
def yX8_weight : MethodName := ⟨RX8, "weight", "(II)I"⟩
abbrev cX8_heaviest : ByteArray := prog_10_method_40_code
def yX8_heaviest : MethodName := ⟨RX8, "heaviest", "()I"⟩
abbrev cX8_layTaken : ByteArray := prog_10_method_41_code
def yX8_layTaken : MethodName := ⟨RX8, "layTaken", "()V"⟩
abbrev cX8_taken : ByteArray := prog_10_method_42_code
def yX8_taken : MethodName := ⟨RX8, "taken", "(II)I"⟩
abbrev cX8_greedyCost : ByteArray := prog_10_method_43_code
def yX8_greedyCost : MethodName := ⟨RX8, "greedyCost", "()I"⟩
abbrev cX8_bound : ByteArray := prog_10_method_44_code
def yX8_bound : MethodName := ⟨RX8, "bound", "()I"⟩
abbrev cX8_exchange : ByteArray := prog_10_method_45_code
def yX8_exchange : MethodName := ⟨RX8, "exchange", "(II)I"⟩
abbrev cX8_hand : ByteArray := prog_10_method_46_code
def yX8_hand : MethodName := ⟨RX8, "hand", "(I)I"⟩
abbrev cX8_count : ByteArray := prog_10_method_47_code
def yX8_count : MethodName := ⟨RX8, "count", "(I)I"⟩
abbrev cX8_image : ByteArray := prog_10_method_48_code
def yX8_image : MethodName := ⟨RX8, "image", "(I)I"⟩
abbrev cX8_restore : ByteArray := prog_10_method_49_code
def yX8_restore : MethodName := ⟨RX8, "restore", "(I)I"⟩
def RJ6 : String := "java/lang/Integer"
def TJ6 : u_T := fun k => match k with
  | _ => ("", "", "", false)
def tyJ6 : Nat → FieldType := fun k => match k with
  | _ => .int
abbrev cJ6_bitCount_0f7a4 : ByteArray := prog_11_method_49_code
def yJ6_bitCount_0f7a4 : MethodName := ⟨RJ6, "bitCount", "(I)I"⟩
def RJ9 : String := "java/lang/Math"
def TJ9 : u_T := fun k => match k with
  | _ => ("", "", "", false)
def tyJ9 : Nat → FieldType := fun k => match k with
  | _ => .int
abbrev cJ9_abs_0f7a4 : ByteArray := prog_12_method_59_code
def yJ9_abs_0f7a4 : MethodName := ⟨RJ9, "abs", "(I)I"⟩
abbrev cJ9_max_7cf53 : ByteArray := prog_12_method_65_code
def yJ9_max_7cf53 : MethodName := ⟨RJ9, "max", "(II)I"⟩
abbrev cJ9_min_7cf53 : ByteArray := prog_12_method_69_code
def yJ9_min_7cf53 : MethodName := ⟨RJ9, "min", "(II)I"⟩
def RJ10 : String := "java/lang/System"
def TJ10 : u_T := fun k => match k with
  | _ => ("", "", "", false)
def tyJ10 : Nat → FieldType := fun k => match k with
  | _ => .int
def RJ7 : String := "java/util/Arrays"
def TJ7 : u_T := fun k => match k with
  | _ => ("", "", "", false)
def tyJ7 : Nat → FieldType := fun k => match k with
  | _ => .int
abbrev cJ7_fill_53178 : ByteArray := prog_14_method_103_code
def yJ7_fill_53178 : MethodName := ⟨RJ7, "fill", "([II)V"⟩
def RL : String := "StepRegistersLaw"
abbrev cL_law : ByteArray := code
def yL_law : MethodName := ⟨RL, "law", "([I)Z"⟩
end
section
theorem dX0_init_0 : decode cX0_init 0 = .ok (.aload_n 0, 1) := by decide +kernel
theorem dX0_init_1 : decode cX0_init 1 = .ok (.invokespecial 3, 3) := by decide +kernel
theorem dX0_init_4 : decode cX0_init 4 = .ok (.aload_n 0, 1) := by decide +kernel
theorem dX0_init_5 : decode cX0_init 5 = .ok (.bipush 49, 2) := by decide +kernel
theorem dX0_init_7 : decode cX0_init 7 = .ok (.newarray .boolean, 2) := by decide +kernel
theorem dX0_init_9 : decode cX0_init 9 = .ok (.putfield 9, 3) := by decide +kernel
theorem dX0_init_12 : decode cX0_init 12 = .ok (.aload_n 0, 1) := by decide +kernel
theorem dX0_init_13 : decode cX0_init 13 = .ok (.bipush 49, 2) := by decide +kernel
theorem dX0_init_15 : decode cX0_init 15 = .ok (.newarray .int, 2) := by decide +kernel
theorem dX0_init_17 : decode cX0_init 17 = .ok (.putfield 15, 3) := by decide +kernel
theorem dX0_init_20 : decode cX0_init 20 = .ok (.aload_n 0, 1) := by decide +kernel
theorem dX0_init_21 : decode cX0_init 21 = .ok (.bipush 7, 2) := by decide +kernel
theorem dX0_init_23 : decode cX0_init 23 = .ok (.newarray .int, 2) := by decide +kernel
theorem dX0_init_25 : decode cX0_init 25 = .ok (.putfield 19, 3) := by decide +kernel
theorem dX0_init_28 : decode cX0_init 28 = .ok (.aload_n 0, 1) := by decide +kernel
theorem dX0_init_29 : decode cX0_init 29 = .ok (.bipush 7, 2) := by decide +kernel
theorem dX0_init_31 : decode cX0_init 31 = .ok (.newarray .int, 2) := by decide +kernel
theorem dX0_init_33 : decode cX0_init 33 = .ok (.putfield 22, 3) := by decide +kernel
theorem dX0_init_36 : decode cX0_init 36 = .ok (.return_, 1) := by decide +kernel
theorem dX0_has_0 : decode cX0_has 0 = .ok (.aload_n 0, 1) := by decide +kernel
theorem dX0_has_1 : decode cX0_has 1 = .ok (.getfield 9, 3) := by decide +kernel
theorem dX0_has_4 : decode cX0_has 4 = .ok (.iload_n 1, 1) := by decide +kernel
theorem dX0_has_5 : decode cX0_has 5 = .ok (.bipush 7, 2) := by decide +kernel
theorem dX0_has_7 : decode cX0_has 7 = .ok (.imul, 1) := by decide +kernel
theorem dX0_has_8 : decode cX0_has 8 = .ok (.iload_n 2, 1) := by decide +kernel
theorem dX0_has_9 : decode cX0_has 9 = .ok (.iadd, 1) := by decide +kernel
theorem dX0_has_10 : decode cX0_has 10 = .ok (.baload, 1) := by decide +kernel
theorem dX0_has_11 : decode cX0_has 11 = .ok (.ireturn, 1) := by decide +kernel
theorem dX0_take_0 : decode cX0_take 0 = .ok (.aload_n 0, 1) := by decide +kernel
theorem dX0_take_1 : decode cX0_take 1 = .ok (.getfield 19, 3) := by decide +kernel
theorem dX0_take_4 : decode cX0_take 4 = .ok (.iconst 0, 1) := by decide +kernel
theorem dX0_take_5 : decode cX0_take 5 = .ok (.invokestatic 25, 3) := by decide +kernel
theorem dX0_take_8 : decode cX0_take 8 = .ok (.aload_n 0, 1) := by decide +kernel
theorem dX0_take_9 : decode cX0_take 9 = .ok (.iconst 0, 1) := by decide +kernel
theorem dX0_take_10 : decode cX0_take 10 = .ok (.putfield 31, 3) := by decide +kernel
theorem dX0_take_13 : decode cX0_take 13 = .ok (.aload_n 0, 1) := by decide +kernel
theorem dX0_take_14 : decode cX0_take 14 = .ok (.aload_n 0, 1) := by decide +kernel
theorem dX0_take_15 : decode cX0_take 15 = .ok (.aload_n 1, 1) := by decide +kernel
theorem dX0_take_16 : decode cX0_take 16 = .ok (.invokevirtual 35, 3) := by decide +kernel
theorem dX0_take_19 : decode cX0_take 19 = .ok (.putfield 39, 3) := by decide +kernel
theorem dX0_take_22 : decode cX0_take 22 = .ok (.iconst 0, 1) := by decide +kernel
theorem dX0_take_23 : decode cX0_take 23 = .ok (.istore_n 2, 1) := by decide +kernel
theorem dX0_take_24 : decode cX0_take 24 = .ok (.iload_n 2, 1) := by decide +kernel
theorem dX0_take_25 : decode cX0_take 25 = .ok (.aload_n 0, 1) := by decide +kernel
theorem dX0_take_26 : decode cX0_take 26 = .ok (.getfield 15, 3) := by decide +kernel
theorem dX0_take_29 : decode cX0_take 29 = .ok (.arraylength, 1) := by decide +kernel
theorem dX0_take_30 : decode cX0_take 30 = .ok (.if_icmp .ge 16, 3) := by decide +kernel
theorem dX0_take_33 : decode cX0_take 33 = .ok (.aload_n 0, 1) := by decide +kernel
theorem dX0_take_34 : decode cX0_take 34 = .ok (.getfield 9, 3) := by decide +kernel
theorem dX0_take_37 : decode cX0_take 37 = .ok (.iload_n 2, 1) := by decide +kernel
theorem dX0_take_38 : decode cX0_take 38 = .ok (.iconst 0, 1) := by decide +kernel
theorem dX0_take_39 : decode cX0_take 39 = .ok (.bastore, 1) := by decide +kernel
theorem dX0_take_40 : decode cX0_take 40 = .ok (.iinc 2 1, 3) := by decide +kernel
theorem dX0_take_43 : decode cX0_take 43 = .ok (.goto (-19), 3) := by decide +kernel
theorem dX0_take_46 : decode cX0_take 46 = .ok (.iconst 0, 1) := by decide +kernel
theorem dX0_take_47 : decode cX0_take 47 = .ok (.istore_n 2, 1) := by decide +kernel
theorem dX0_take_48 : decode cX0_take 48 = .ok (.iload_n 2, 1) := by decide +kernel
theorem dX0_take_49 : decode cX0_take 49 = .ok (.bipush 7, 2) := by decide +kernel
theorem dX0_take_51 : decode cX0_take 51 = .ok (.if_icmp .ge 16, 3) := by decide +kernel
theorem dX0_take_54 : decode cX0_take 54 = .ok (.aload_n 0, 1) := by decide +kernel
theorem dX0_take_55 : decode cX0_take 55 = .ok (.getfield 22, 3) := by decide +kernel
theorem dX0_take_58 : decode cX0_take 58 = .ok (.iload_n 2, 1) := by decide +kernel
theorem dX0_take_59 : decode cX0_take 59 = .ok (.iload_n 2, 1) := by decide +kernel
theorem dX0_take_60 : decode cX0_take 60 = .ok (.iastore, 1) := by decide +kernel
theorem dX0_take_61 : decode cX0_take 61 = .ok (.iinc 2 1, 3) := by decide +kernel
theorem dX0_take_64 : decode cX0_take 64 = .ok (.goto (-16), 3) := by decide +kernel
theorem dX0_take_67 : decode cX0_take 67 = .ok (.aload_n 0, 1) := by decide +kernel
theorem dX0_take_68 : decode cX0_take 68 = .ok (.invokevirtual 42, 3) := by decide +kernel
theorem dX0_take_71 : decode cX0_take 71 = .ok (.istore_n 2, 1) := by decide +kernel
theorem dX0_take_72 : decode cX0_take 72 = .ok (.iconst 0, 1) := by decide +kernel
theorem dX0_take_73 : decode cX0_take 73 = .ok (.istore_n 3, 1) := by decide +kernel
theorem dX0_take_74 : decode cX0_take 74 = .ok (.iload_n 3, 1) := by decide +kernel
theorem dX0_take_75 : decode cX0_take 75 = .ok (.aload_n 0, 1) := by decide +kernel
theorem dX0_take_76 : decode cX0_take 76 = .ok (.getfield 15, 3) := by decide +kernel
theorem dX0_take_79 : decode cX0_take 79 = .ok (.arraylength, 1) := by decide +kernel
theorem dX0_take_80 : decode cX0_take 80 = .ok (.if_icmp .ge 99, 3) := by decide +kernel
theorem dX0_take_83 : decode cX0_take 83 = .ok (.iload_n 2, 1) := by decide +kernel
theorem dX0_take_84 : decode cX0_take 84 = .ok (.ifCond .lt 95, 3) := by decide +kernel
theorem dX0_take_87 : decode cX0_take 87 = .ok (.iload_n 2, 1) := by decide +kernel
theorem dX0_take_88 : decode cX0_take 88 = .ok (.bipush 7, 2) := by decide +kernel
theorem dX0_take_90 : decode cX0_take 90 = .ok (.idiv, 1) := by decide +kernel
theorem dX0_take_91 : decode cX0_take 91 = .ok (.istore 4, 2) := by decide +kernel
theorem dX0_take_93 : decode cX0_take 93 = .ok (.iload_n 2, 1) := by decide +kernel
theorem dX0_take_94 : decode cX0_take 94 = .ok (.bipush 7, 2) := by decide +kernel
theorem dX0_take_96 : decode cX0_take 96 = .ok (.irem, 1) := by decide +kernel
theorem dX0_take_97 : decode cX0_take 97 = .ok (.istore 5, 2) := by decide +kernel
theorem dX0_take_99 : decode cX0_take 99 = .ok (.aload_n 0, 1) := by decide +kernel
theorem dX0_take_100 : decode cX0_take 100 = .ok (.getfield 19, 3) := by decide +kernel
theorem dX0_take_103 : decode cX0_take 103 = .ok (.iload 4, 2) := by decide +kernel
theorem dX0_take_105 : decode cX0_take 105 = .ok (.iaload, 1) := by decide +kernel
theorem dX0_take_106 : decode cX0_take 106 = .ok (.iconst 2, 1) := by decide +kernel
theorem dX0_take_107 : decode cX0_take 107 = .ok (.if_icmp .ge 54, 3) := by decide +kernel
theorem dX0_take_110 : decode cX0_take 110 = .ok (.aload_n 0, 1) := by decide +kernel
theorem dX0_take_111 : decode cX0_take 111 = .ok (.getfield 19, 3) := by decide +kernel
theorem dX0_take_114 : decode cX0_take 114 = .ok (.iload 5, 2) := by decide +kernel
theorem dX0_take_116 : decode cX0_take 116 = .ok (.iaload, 1) := by decide +kernel
theorem dX0_take_117 : decode cX0_take 117 = .ok (.iconst 2, 1) := by decide +kernel
theorem dX0_take_118 : decode cX0_take 118 = .ok (.if_icmp .ge 43, 3) := by decide +kernel
theorem dX0_take_121 : decode cX0_take 121 = .ok (.aload_n 0, 1) := by decide +kernel
theorem dX0_take_122 : decode cX0_take 122 = .ok (.getfield 22, 3) := by decide +kernel
theorem dX0_take_125 : decode cX0_take 125 = .ok (.iload 4, 2) := by decide +kernel
theorem dX0_take_127 : decode cX0_take 127 = .ok (.iaload, 1) := by decide +kernel
theorem dX0_take_128 : decode cX0_take 128 = .ok (.aload_n 0, 1) := by decide +kernel
theorem dX0_take_129 : decode cX0_take 129 = .ok (.getfield 22, 3) := by decide +kernel
theorem dX0_take_132 : decode cX0_take 132 = .ok (.iload 5, 2) := by decide +kernel
theorem dX0_take_134 : decode cX0_take 134 = .ok (.iaload, 1) := by decide +kernel
theorem dX0_take_135 : decode cX0_take 135 = .ok (.if_icmp .eq 26, 3) := by decide +kernel
theorem dX0_take_138 : decode cX0_take 138 = .ok (.aload_n 0, 1) := by decide +kernel
theorem dX0_take_139 : decode cX0_take 139 = .ok (.iload 4, 2) := by decide +kernel
theorem dX0_take_141 : decode cX0_take 141 = .ok (.iload 5, 2) := by decide +kernel
theorem dX0_take_143 : decode cX0_take 143 = .ok (.invokevirtual 46, 3) := by decide +kernel
theorem dX0_take_146 : decode cX0_take 146 = .ok (.aload_n 0, 1) := by decide +kernel
theorem dX0_take_147 : decode cX0_take 147 = .ok (.dup, 1) := by decide +kernel
theorem dX0_take_148 : decode cX0_take 148 = .ok (.getfield 39, 3) := by decide +kernel
theorem dX0_take_151 : decode cX0_take 151 = .ok (.aload_n 0, 1) := by decide +kernel
theorem dX0_take_152 : decode cX0_take 152 = .ok (.getfield 15, 3) := by decide +kernel
theorem dX0_take_155 : decode cX0_take 155 = .ok (.iload_n 2, 1) := by decide +kernel
theorem dX0_take_156 : decode cX0_take 156 = .ok (.iaload, 1) := by decide +kernel
theorem dX0_take_157 : decode cX0_take 157 = .ok (.isub, 1) := by decide +kernel
theorem dX0_take_158 : decode cX0_take 158 = .ok (.putfield 39, 3) := by decide +kernel
theorem dX0_take_161 : decode cX0_take 161 = .ok (.aload_n 0, 1) := by decide +kernel
theorem dX0_take_162 : decode cX0_take 162 = .ok (.getfield 15, 3) := by decide +kernel
theorem dX0_take_165 : decode cX0_take 165 = .ok (.iload_n 2, 1) := by decide +kernel
theorem dX0_take_166 : decode cX0_take 166 = .ok (.iconst 0, 1) := by decide +kernel
theorem dX0_take_167 : decode cX0_take 167 = .ok (.iastore, 1) := by decide +kernel
theorem dX0_take_168 : decode cX0_take 168 = .ok (.aload_n 0, 1) := by decide +kernel
theorem dX0_take_169 : decode cX0_take 169 = .ok (.invokevirtual 42, 3) := by decide +kernel
theorem dX0_take_172 : decode cX0_take 172 = .ok (.istore_n 2, 1) := by decide +kernel
theorem dX0_take_173 : decode cX0_take 173 = .ok (.iinc 3 1, 3) := by decide +kernel
theorem dX0_take_176 : decode cX0_take 176 = .ok (.goto (-102), 3) := by decide +kernel
theorem dX0_take_179 : decode cX0_take 179 = .ok (.return_, 1) := by decide +kernel
theorem dX0_leftByGreatest_0 : decode cX0_leftByGreatest 0 = .ok (.aload_n 0, 1) := by decide +kernel
theorem dX0_leftByGreatest_1 : decode cX0_leftByGreatest 1 = .ok (.aload_n 1, 1) := by decide +kernel
theorem dX0_leftByGreatest_2 : decode cX0_leftByGreatest 2 = .ok (.invokevirtual 35, 3) := by decide +kernel
theorem dX0_leftByGreatest_5 : decode cX0_leftByGreatest 5 = .ok (.istore_n 3, 1) := by decide +kernel
theorem dX0_leftByGreatest_6 : decode cX0_leftByGreatest 6 = .ok (.iconst 0, 1) := by decide +kernel
theorem dX0_leftByGreatest_7 : decode cX0_leftByGreatest 7 = .ok (.istore 4, 2) := by decide +kernel
theorem dX0_leftByGreatest_9 : decode cX0_leftByGreatest 9 = .ok (.iload 4, 2) := by decide +kernel
theorem dX0_leftByGreatest_11 : decode cX0_leftByGreatest 11 = .ok (.iload_n 2, 1) := by decide +kernel
theorem dX0_leftByGreatest_12 : decode cX0_leftByGreatest 12 = .ok (.if_icmp .ge 38, 3) := by decide +kernel
theorem dX0_leftByGreatest_15 : decode cX0_leftByGreatest 15 = .ok (.aload_n 0, 1) := by decide +kernel
theorem dX0_leftByGreatest_16 : decode cX0_leftByGreatest 16 = .ok (.invokevirtual 42, 3) := by decide +kernel
theorem dX0_leftByGreatest_19 : decode cX0_leftByGreatest 19 = .ok (.istore 5, 2) := by decide +kernel
theorem dX0_leftByGreatest_21 : decode cX0_leftByGreatest 21 = .ok (.iload 5, 2) := by decide +kernel
theorem dX0_leftByGreatest_23 : decode cX0_leftByGreatest 23 = .ok (.ifCond .lt 21, 3) := by decide +kernel
theorem dX0_leftByGreatest_26 : decode cX0_leftByGreatest 26 = .ok (.iload_n 3, 1) := by decide +kernel
theorem dX0_leftByGreatest_27 : decode cX0_leftByGreatest 27 = .ok (.aload_n 0, 1) := by decide +kernel
theorem dX0_leftByGreatest_28 : decode cX0_leftByGreatest 28 = .ok (.getfield 15, 3) := by decide +kernel
theorem dX0_leftByGreatest_31 : decode cX0_leftByGreatest 31 = .ok (.iload 5, 2) := by decide +kernel
theorem dX0_leftByGreatest_33 : decode cX0_leftByGreatest 33 = .ok (.iaload, 1) := by decide +kernel
theorem dX0_leftByGreatest_34 : decode cX0_leftByGreatest 34 = .ok (.isub, 1) := by decide +kernel
theorem dX0_leftByGreatest_35 : decode cX0_leftByGreatest 35 = .ok (.istore_n 3, 1) := by decide +kernel
theorem dX0_leftByGreatest_36 : decode cX0_leftByGreatest 36 = .ok (.aload_n 0, 1) := by decide +kernel
theorem dX0_leftByGreatest_37 : decode cX0_leftByGreatest 37 = .ok (.getfield 15, 3) := by decide +kernel
theorem dX0_leftByGreatest_40 : decode cX0_leftByGreatest 40 = .ok (.iload 5, 2) := by decide +kernel
theorem dX0_leftByGreatest_42 : decode cX0_leftByGreatest 42 = .ok (.iconst 0, 1) := by decide +kernel
theorem dX0_leftByGreatest_43 : decode cX0_leftByGreatest 43 = .ok (.iastore, 1) := by decide +kernel
theorem dX0_leftByGreatest_44 : decode cX0_leftByGreatest 44 = .ok (.iinc 4 1, 3) := by decide +kernel
theorem dX0_leftByGreatest_47 : decode cX0_leftByGreatest 47 = .ok (.goto (-38), 3) := by decide +kernel
theorem dX0_leftByGreatest_50 : decode cX0_leftByGreatest 50 = .ok (.iload_n 3, 1) := by decide +kernel
theorem dX0_leftByGreatest_51 : decode cX0_leftByGreatest 51 = .ok (.ireturn, 1) := by decide +kernel
theorem dX0_load_0 : decode cX0_load 0 = .ok (.iconst 0, 1) := by decide +kernel
theorem dX0_load_1 : decode cX0_load 1 = .ok (.istore_n 2, 1) := by decide +kernel
theorem dX0_load_2 : decode cX0_load 2 = .ok (.aload_n 0, 1) := by decide +kernel
theorem dX0_load_3 : decode cX0_load 3 = .ok (.getfield 15, 3) := by decide +kernel
theorem dX0_load_6 : decode cX0_load 6 = .ok (.iconst 0, 1) := by decide +kernel
theorem dX0_load_7 : decode cX0_load 7 = .ok (.invokestatic 25, 3) := by decide +kernel
theorem dX0_load_10 : decode cX0_load 10 = .ok (.iconst 0, 1) := by decide +kernel
theorem dX0_load_11 : decode cX0_load 11 = .ok (.istore_n 3, 1) := by decide +kernel
theorem dX0_load_12 : decode cX0_load 12 = .ok (.iload_n 3, 1) := by decide +kernel
theorem dX0_load_13 : decode cX0_load 13 = .ok (.bipush 7, 2) := by decide +kernel
theorem dX0_load_15 : decode cX0_load 15 = .ok (.if_icmp .ge 54, 3) := by decide +kernel
theorem dX0_load_18 : decode cX0_load 18 = .ok (.iload_n 3, 1) := by decide +kernel
theorem dX0_load_19 : decode cX0_load 19 = .ok (.iconst 1, 1) := by decide +kernel
theorem dX0_load_20 : decode cX0_load 20 = .ok (.iadd, 1) := by decide +kernel
theorem dX0_load_21 : decode cX0_load 21 = .ok (.istore 4, 2) := by decide +kernel
theorem dX0_load_23 : decode cX0_load 23 = .ok (.iload 4, 2) := by decide +kernel
theorem dX0_load_25 : decode cX0_load 25 = .ok (.bipush 7, 2) := by decide +kernel
theorem dX0_load_27 : decode cX0_load 27 = .ok (.if_icmp .ge 36, 3) := by decide +kernel
theorem dX0_load_30 : decode cX0_load 30 = .ok (.iload_n 3, 1) := by decide +kernel
theorem dX0_load_31 : decode cX0_load 31 = .ok (.bipush 7, 2) := by decide +kernel
theorem dX0_load_33 : decode cX0_load 33 = .ok (.imul, 1) := by decide +kernel
theorem dX0_load_34 : decode cX0_load 34 = .ok (.iload 4, 2) := by decide +kernel
theorem dX0_load_36 : decode cX0_load 36 = .ok (.iadd, 1) := by decide +kernel
theorem dX0_load_37 : decode cX0_load 37 = .ok (.istore 5, 2) := by decide +kernel
theorem dX0_load_39 : decode cX0_load 39 = .ok (.aload_n 0, 1) := by decide +kernel
theorem dX0_load_40 : decode cX0_load 40 = .ok (.getfield 15, 3) := by decide +kernel
theorem dX0_load_43 : decode cX0_load 43 = .ok (.iload 5, 2) := by decide +kernel
theorem dX0_load_45 : decode cX0_load 45 = .ok (.aload_n 1, 1) := by decide +kernel
theorem dX0_load_46 : decode cX0_load 46 = .ok (.iload 5, 2) := by decide +kernel
theorem dX0_load_48 : decode cX0_load 48 = .ok (.iaload, 1) := by decide +kernel
theorem dX0_load_49 : decode cX0_load 49 = .ok (.iastore, 1) := by decide +kernel
theorem dX0_load_50 : decode cX0_load 50 = .ok (.iload_n 2, 1) := by decide +kernel
theorem dX0_load_51 : decode cX0_load 51 = .ok (.aload_n 1, 1) := by decide +kernel
theorem dX0_load_52 : decode cX0_load 52 = .ok (.iload 5, 2) := by decide +kernel
theorem dX0_load_54 : decode cX0_load 54 = .ok (.iaload, 1) := by decide +kernel
theorem dX0_load_55 : decode cX0_load 55 = .ok (.iadd, 1) := by decide +kernel
theorem dX0_load_56 : decode cX0_load 56 = .ok (.istore_n 2, 1) := by decide +kernel
theorem dX0_load_57 : decode cX0_load 57 = .ok (.iinc 4 1, 3) := by decide +kernel
theorem dX0_load_60 : decode cX0_load 60 = .ok (.goto (-37), 3) := by decide +kernel
theorem dX0_load_63 : decode cX0_load 63 = .ok (.iinc 3 1, 3) := by decide +kernel
theorem dX0_load_66 : decode cX0_load 66 = .ok (.goto (-54), 3) := by decide +kernel
theorem dX0_load_69 : decode cX0_load 69 = .ok (.iload_n 2, 1) := by decide +kernel
theorem dX0_load_70 : decode cX0_load 70 = .ok (.ireturn, 1) := by decide +kernel
theorem dX0_greatest_0 : decode cX0_greatest 0 = .ok (.iconst (-1), 1) := by decide +kernel
theorem dX0_greatest_1 : decode cX0_greatest 1 = .ok (.istore_n 1, 1) := by decide +kernel
theorem dX0_greatest_2 : decode cX0_greatest 2 = .ok (.iconst 0, 1) := by decide +kernel
theorem dX0_greatest_3 : decode cX0_greatest 3 = .ok (.istore_n 2, 1) := by decide +kernel
theorem dX0_greatest_4 : decode cX0_greatest 4 = .ok (.iconst 0, 1) := by decide +kernel
theorem dX0_greatest_5 : decode cX0_greatest 5 = .ok (.istore_n 3, 1) := by decide +kernel
theorem dX0_greatest_6 : decode cX0_greatest 6 = .ok (.iload_n 3, 1) := by decide +kernel
theorem dX0_greatest_7 : decode cX0_greatest 7 = .ok (.aload_n 0, 1) := by decide +kernel
theorem dX0_greatest_8 : decode cX0_greatest 8 = .ok (.getfield 15, 3) := by decide +kernel
theorem dX0_greatest_11 : decode cX0_greatest 11 = .ok (.arraylength, 1) := by decide +kernel
theorem dX0_greatest_12 : decode cX0_greatest 12 = .ok (.if_icmp .ge 28, 3) := by decide +kernel
theorem dX0_greatest_15 : decode cX0_greatest 15 = .ok (.aload_n 0, 1) := by decide +kernel
theorem dX0_greatest_16 : decode cX0_greatest 16 = .ok (.getfield 15, 3) := by decide +kernel
theorem dX0_greatest_19 : decode cX0_greatest 19 = .ok (.iload_n 3, 1) := by decide +kernel
theorem dX0_greatest_20 : decode cX0_greatest 20 = .ok (.iaload, 1) := by decide +kernel
theorem dX0_greatest_21 : decode cX0_greatest 21 = .ok (.iload_n 2, 1) := by decide +kernel
theorem dX0_greatest_22 : decode cX0_greatest 22 = .ok (.if_icmp .le 12, 3) := by decide +kernel
theorem dX0_greatest_25 : decode cX0_greatest 25 = .ok (.aload_n 0, 1) := by decide +kernel
theorem dX0_greatest_26 : decode cX0_greatest 26 = .ok (.getfield 15, 3) := by decide +kernel
theorem dX0_greatest_29 : decode cX0_greatest 29 = .ok (.iload_n 3, 1) := by decide +kernel
theorem dX0_greatest_30 : decode cX0_greatest 30 = .ok (.iaload, 1) := by decide +kernel
theorem dX0_greatest_31 : decode cX0_greatest 31 = .ok (.istore_n 2, 1) := by decide +kernel
theorem dX0_greatest_32 : decode cX0_greatest 32 = .ok (.iload_n 3, 1) := by decide +kernel
theorem dX0_greatest_33 : decode cX0_greatest 33 = .ok (.istore_n 1, 1) := by decide +kernel
theorem dX0_greatest_34 : decode cX0_greatest 34 = .ok (.iinc 3 1, 3) := by decide +kernel
theorem dX0_greatest_37 : decode cX0_greatest 37 = .ok (.goto (-31), 3) := by decide +kernel
theorem dX0_greatest_40 : decode cX0_greatest 40 = .ok (.iload_n 1, 1) := by decide +kernel
theorem dX0_greatest_41 : decode cX0_greatest 41 = .ok (.ireturn, 1) := by decide +kernel
theorem dX0_join_0 : decode cX0_join 0 = .ok (.aload_n 0, 1) := by decide +kernel
theorem dX0_join_1 : decode cX0_join 1 = .ok (.getfield 9, 3) := by decide +kernel
theorem dX0_join_4 : decode cX0_join 4 = .ok (.iload_n 1, 1) := by decide +kernel
theorem dX0_join_5 : decode cX0_join 5 = .ok (.bipush 7, 2) := by decide +kernel
theorem dX0_join_7 : decode cX0_join 7 = .ok (.imul, 1) := by decide +kernel
theorem dX0_join_8 : decode cX0_join 8 = .ok (.iload_n 2, 1) := by decide +kernel
theorem dX0_join_9 : decode cX0_join 9 = .ok (.iadd, 1) := by decide +kernel
theorem dX0_join_10 : decode cX0_join 10 = .ok (.iconst 1, 1) := by decide +kernel
theorem dX0_join_11 : decode cX0_join 11 = .ok (.bastore, 1) := by decide +kernel
theorem dX0_join_12 : decode cX0_join 12 = .ok (.aload_n 0, 1) := by decide +kernel
theorem dX0_join_13 : decode cX0_join 13 = .ok (.getfield 9, 3) := by decide +kernel
theorem dX0_join_16 : decode cX0_join 16 = .ok (.iload_n 2, 1) := by decide +kernel
theorem dX0_join_17 : decode cX0_join 17 = .ok (.bipush 7, 2) := by decide +kernel
theorem dX0_join_19 : decode cX0_join 19 = .ok (.imul, 1) := by decide +kernel
theorem dX0_join_20 : decode cX0_join 20 = .ok (.iload_n 1, 1) := by decide +kernel
theorem dX0_join_21 : decode cX0_join 21 = .ok (.iadd, 1) := by decide +kernel
theorem dX0_join_22 : decode cX0_join 22 = .ok (.iconst 1, 1) := by decide +kernel
theorem dX0_join_23 : decode cX0_join 23 = .ok (.bastore, 1) := by decide +kernel
theorem dX0_join_24 : decode cX0_join 24 = .ok (.aload_n 0, 1) := by decide +kernel
theorem dX0_join_25 : decode cX0_join 25 = .ok (.getfield 19, 3) := by decide +kernel
theorem dX0_join_28 : decode cX0_join 28 = .ok (.iload_n 1, 1) := by decide +kernel
theorem dX0_join_29 : decode cX0_join 29 = .ok (.dup2, 1) := by decide +kernel
theorem dX0_join_30 : decode cX0_join 30 = .ok (.iaload, 1) := by decide +kernel
theorem dX0_join_31 : decode cX0_join 31 = .ok (.iconst 1, 1) := by decide +kernel
theorem dX0_join_32 : decode cX0_join 32 = .ok (.iadd, 1) := by decide +kernel
theorem dX0_join_33 : decode cX0_join 33 = .ok (.iastore, 1) := by decide +kernel
theorem dX0_join_34 : decode cX0_join 34 = .ok (.aload_n 0, 1) := by decide +kernel
theorem dX0_join_35 : decode cX0_join 35 = .ok (.getfield 19, 3) := by decide +kernel
theorem dX0_join_38 : decode cX0_join 38 = .ok (.iload_n 2, 1) := by decide +kernel
theorem dX0_join_39 : decode cX0_join 39 = .ok (.dup2, 1) := by decide +kernel
theorem dX0_join_40 : decode cX0_join 40 = .ok (.iaload, 1) := by decide +kernel
theorem dX0_join_41 : decode cX0_join 41 = .ok (.iconst 1, 1) := by decide +kernel
theorem dX0_join_42 : decode cX0_join 42 = .ok (.iadd, 1) := by decide +kernel
theorem dX0_join_43 : decode cX0_join 43 = .ok (.iastore, 1) := by decide +kernel
theorem dX0_join_44 : decode cX0_join 44 = .ok (.aload_n 0, 1) := by decide +kernel
theorem dX0_join_45 : decode cX0_join 45 = .ok (.dup, 1) := by decide +kernel
theorem dX0_join_46 : decode cX0_join 46 = .ok (.getfield 31, 3) := by decide +kernel
theorem dX0_join_49 : decode cX0_join 49 = .ok (.iconst 1, 1) := by decide +kernel
theorem dX0_join_50 : decode cX0_join 50 = .ok (.iadd, 1) := by decide +kernel
theorem dX0_join_51 : decode cX0_join 51 = .ok (.putfield 31, 3) := by decide +kernel
theorem dX0_join_54 : decode cX0_join 54 = .ok (.aload_n 0, 1) := by decide +kernel
theorem dX0_join_55 : decode cX0_join 55 = .ok (.getfield 22, 3) := by decide +kernel
theorem dX0_join_58 : decode cX0_join 58 = .ok (.iload_n 2, 1) := by decide +kernel
theorem dX0_join_59 : decode cX0_join 59 = .ok (.iaload, 1) := by decide +kernel
theorem dX0_join_60 : decode cX0_join 60 = .ok (.istore_n 3, 1) := by decide +kernel
theorem dX0_join_61 : decode cX0_join 61 = .ok (.iconst 0, 1) := by decide +kernel
theorem dX0_join_62 : decode cX0_join 62 = .ok (.istore 4, 2) := by decide +kernel
theorem dX0_join_64 : decode cX0_join 64 = .ok (.iload 4, 2) := by decide +kernel
theorem dX0_join_66 : decode cX0_join 66 = .ok (.bipush 7, 2) := by decide +kernel
theorem dX0_join_68 : decode cX0_join 68 = .ok (.if_icmp .ge 33, 3) := by decide +kernel
theorem dX0_join_71 : decode cX0_join 71 = .ok (.aload_n 0, 1) := by decide +kernel
theorem dX0_join_72 : decode cX0_join 72 = .ok (.getfield 22, 3) := by decide +kernel
theorem dX0_join_75 : decode cX0_join 75 = .ok (.iload 4, 2) := by decide +kernel
theorem dX0_join_77 : decode cX0_join 77 = .ok (.iaload, 1) := by decide +kernel
theorem dX0_join_78 : decode cX0_join 78 = .ok (.iload_n 3, 1) := by decide +kernel
theorem dX0_join_79 : decode cX0_join 79 = .ok (.if_icmp .ne 16, 3) := by decide +kernel
theorem dX0_join_82 : decode cX0_join 82 = .ok (.aload_n 0, 1) := by decide +kernel
theorem dX0_join_83 : decode cX0_join 83 = .ok (.getfield 22, 3) := by decide +kernel
theorem dX0_join_86 : decode cX0_join 86 = .ok (.iload 4, 2) := by decide +kernel
theorem dX0_join_88 : decode cX0_join 88 = .ok (.aload_n 0, 1) := by decide +kernel
theorem dX0_join_89 : decode cX0_join 89 = .ok (.getfield 22, 3) := by decide +kernel
theorem dX0_join_92 : decode cX0_join 92 = .ok (.iload_n 1, 1) := by decide +kernel
theorem dX0_join_93 : decode cX0_join 93 = .ok (.iaload, 1) := by decide +kernel
theorem dX0_join_94 : decode cX0_join 94 = .ok (.iastore, 1) := by decide +kernel
theorem dX0_join_95 : decode cX0_join 95 = .ok (.iinc 4 1, 3) := by decide +kernel
theorem dX0_join_98 : decode cX0_join 98 = .ok (.goto (-34), 3) := by decide +kernel
theorem dX0_join_101 : decode cX0_join 101 = .ok (.return_, 1) := by decide +kernel
theorem dX1_init_0 : decode cX1_init 0 = .ok (.aload_n 0, 1) := by decide +kernel
theorem dX1_init_1 : decode cX1_init 1 = .ok (.invokespecial 5, 3) := by decide +kernel
theorem dX1_init_4 : decode cX1_init 4 = .ok (.aload_n 0, 1) := by decide +kernel
theorem dX1_init_5 : decode cX1_init 5 = .ok (.bipush 8, 2) := by decide +kernel
theorem dX1_init_7 : decode cX1_init 7 = .ok (.newarray .int, 2) := by decide +kernel
theorem dX1_init_9 : decode cX1_init 9 = .ok (.putfield 11, 3) := by decide +kernel
theorem dX1_init_12 : decode cX1_init 12 = .ok (.aload_n 0, 1) := by decide +kernel
theorem dX1_init_13 : decode cX1_init 13 = .ok (.bipush 7, 2) := by decide +kernel
theorem dX1_init_15 : decode cX1_init 15 = .ok (.newarray .int, 2) := by decide +kernel
theorem dX1_init_17 : decode cX1_init 17 = .ok (.putfield 15, 3) := by decide +kernel
theorem dX1_init_20 : decode cX1_init 20 = .ok (.aload_n 0, 1) := by decide +kernel
theorem dX1_init_21 : decode cX1_init 21 = .ok (.bipush 7, 2) := by decide +kernel
theorem dX1_init_23 : decode cX1_init 23 = .ok (.newarray .int, 2) := by decide +kernel
theorem dX1_init_25 : decode cX1_init 25 = .ok (.putfield 18, 3) := by decide +kernel
theorem dX1_init_28 : decode cX1_init 28 = .ok (.aload_n 0, 1) := by decide +kernel
theorem dX1_init_29 : decode cX1_init 29 = .ok (.aload_n 1, 1) := by decide +kernel
theorem dX1_init_30 : decode cX1_init 30 = .ok (.putfield 21, 3) := by decide +kernel
theorem dX1_init_33 : decode cX1_init 33 = .ok (.aload_n 0, 1) := by decide +kernel
theorem dX1_init_34 : decode cX1_init 34 = .ok (.getfield 11, 3) := by decide +kernel
theorem dX1_init_37 : decode cX1_init 37 = .ok (.bipush 7, 2) := by decide +kernel
theorem dX1_init_39 : decode cX1_init 39 = .ok (.invokestatic 27, 3) := by decide +kernel
theorem dX1_init_42 : decode cX1_init 42 = .ok (.return_, 1) := by decide +kernel
theorem dX1_leastBelow_0 : decode cX1_leastBelow 0 = .ok (.aload_n 0, 1) := by decide +kernel
theorem dX1_leastBelow_1 : decode cX1_leastBelow 1 = .ok (.getfield 21, 3) := by decide +kernel
theorem dX1_leastBelow_4 : decode cX1_leastBelow 4 = .ok (.aload_n 2, 1) := by decide +kernel
theorem dX1_leastBelow_5 : decode cX1_leastBelow 5 = .ok (.iload_n 3, 1) := by decide +kernel
theorem dX1_leastBelow_6 : decode cX1_leastBelow 6 = .ok (.iload 4, 2) := by decide +kernel
theorem dX1_leastBelow_8 : decode cX1_leastBelow 8 = .ok (.iconst 0, 1) := by decide +kernel
theorem dX1_leastBelow_9 : decode cX1_leastBelow 9 = .ok (.invokevirtual 33, 3) := by decide +kernel
theorem dX1_leastBelow_12 : decode cX1_leastBelow 12 = .ok (.aload_n 0, 1) := by decide +kernel
theorem dX1_leastBelow_13 : decode cX1_leastBelow 13 = .ok (.iconst 0, 1) := by decide +kernel
theorem dX1_leastBelow_14 : decode cX1_leastBelow 14 = .ok (.putfield 37, 3) := by decide +kernel
theorem dX1_leastBelow_17 : decode cX1_leastBelow 17 = .ok (.iconst 0, 1) := by decide +kernel
theorem dX1_leastBelow_18 : decode cX1_leastBelow 18 = .ok (.istore 5, 2) := by decide +kernel
theorem dX1_leastBelow_20 : decode cX1_leastBelow 20 = .ok (.iload 5, 2) := by decide +kernel
theorem dX1_leastBelow_22 : decode cX1_leastBelow 22 = .ok (.bipush 7, 2) := by decide +kernel
theorem dX1_leastBelow_24 : decode cX1_leastBelow 24 = .ok (.if_icmp .ge 39, 3) := by decide +kernel
theorem dX1_leastBelow_27 : decode cX1_leastBelow 27 = .ok (.iload_n 3, 1) := by decide +kernel
theorem dX1_leastBelow_28 : decode cX1_leastBelow 28 = .ok (.iload 5, 2) := by decide +kernel
theorem dX1_leastBelow_30 : decode cX1_leastBelow 30 = .ok (.ishr, 1) := by decide +kernel
theorem dX1_leastBelow_31 : decode cX1_leastBelow 31 = .ok (.iconst 1, 1) := by decide +kernel
theorem dX1_leastBelow_32 : decode cX1_leastBelow 32 = .ok (.iand, 1) := by decide +kernel
theorem dX1_leastBelow_33 : decode cX1_leastBelow 33 = .ok (.ifCond .eq 24, 3) := by decide +kernel
theorem dX1_leastBelow_36 : decode cX1_leastBelow 36 = .ok (.aload_n 0, 1) := by decide +kernel
theorem dX1_leastBelow_37 : decode cX1_leastBelow 37 = .ok (.getfield 15, 3) := by decide +kernel
theorem dX1_leastBelow_40 : decode cX1_leastBelow 40 = .ok (.aload_n 0, 1) := by decide +kernel
theorem dX1_leastBelow_41 : decode cX1_leastBelow 41 = .ok (.getfield 37, 3) := by decide +kernel
theorem dX1_leastBelow_44 : decode cX1_leastBelow 44 = .ok (.iload 5, 2) := by decide +kernel
theorem dX1_leastBelow_46 : decode cX1_leastBelow 46 = .ok (.iastore, 1) := by decide +kernel
theorem dX1_leastBelow_47 : decode cX1_leastBelow 47 = .ok (.aload_n 0, 1) := by decide +kernel
theorem dX1_leastBelow_48 : decode cX1_leastBelow 48 = .ok (.dup, 1) := by decide +kernel
theorem dX1_leastBelow_49 : decode cX1_leastBelow 49 = .ok (.getfield 37, 3) := by decide +kernel
theorem dX1_leastBelow_52 : decode cX1_leastBelow 52 = .ok (.iconst 1, 1) := by decide +kernel
theorem dX1_leastBelow_53 : decode cX1_leastBelow 53 = .ok (.iadd, 1) := by decide +kernel
theorem dX1_leastBelow_54 : decode cX1_leastBelow 54 = .ok (.putfield 37, 3) := by decide +kernel
theorem dX1_leastBelow_57 : decode cX1_leastBelow 57 = .ok (.iinc 5 1, 3) := by decide +kernel
theorem dX1_leastBelow_60 : decode cX1_leastBelow 60 = .ok (.goto (-40), 3) := by decide +kernel
theorem dX1_leastBelow_63 : decode cX1_leastBelow 63 = .ok (.aload_n 0, 1) := by decide +kernel
theorem dX1_leastBelow_64 : decode cX1_leastBelow 64 = .ok (.iload_n 1, 1) := by decide +kernel
theorem dX1_leastBelow_65 : decode cX1_leastBelow 65 = .ok (.iconst 1, 1) := by decide +kernel
theorem dX1_leastBelow_66 : decode cX1_leastBelow 66 = .ok (.isub, 1) := by decide +kernel
theorem dX1_leastBelow_67 : decode cX1_leastBelow 67 = .ok (.putfield 41, 3) := by decide +kernel
theorem dX1_leastBelow_70 : decode cX1_leastBelow 70 = .ok (.aload_n 0, 1) := by decide +kernel
theorem dX1_leastBelow_71 : decode cX1_leastBelow 71 = .ok (.getfield 37, 3) := by decide +kernel
theorem dX1_leastBelow_74 : decode cX1_leastBelow 74 = .ok (.ifCond .le 14, 3) := by decide +kernel
theorem dX1_leastBelow_77 : decode cX1_leastBelow 77 = .ok (.aload_n 0, 1) := by decide +kernel
theorem dX1_leastBelow_78 : decode cX1_leastBelow 78 = .ok (.invokevirtual 44, 3) := by decide +kernel
theorem dX1_leastBelow_81 : decode cX1_leastBelow 81 = .ok (.aload_n 0, 1) := by decide +kernel
theorem dX1_leastBelow_82 : decode cX1_leastBelow 82 = .ok (.iconst 0, 1) := by decide +kernel
theorem dX1_leastBelow_83 : decode cX1_leastBelow 83 = .ok (.iconst 0, 1) := by decide +kernel
theorem dX1_leastBelow_84 : decode cX1_leastBelow 84 = .ok (.iconst 0, 1) := by decide +kernel
theorem dX1_leastBelow_85 : decode cX1_leastBelow 85 = .ok (.invokevirtual 47, 3) := by decide +kernel
theorem dX1_leastBelow_88 : decode cX1_leastBelow 88 = .ok (.aload_n 0, 1) := by decide +kernel
theorem dX1_leastBelow_89 : decode cX1_leastBelow 89 = .ok (.getfield 41, 3) := by decide +kernel
theorem dX1_leastBelow_92 : decode cX1_leastBelow 92 = .ok (.iconst 1, 1) := by decide +kernel
theorem dX1_leastBelow_93 : decode cX1_leastBelow 93 = .ok (.iadd, 1) := by decide +kernel
theorem dX1_leastBelow_94 : decode cX1_leastBelow 94 = .ok (.ireturn, 1) := by decide +kernel
theorem dX1_findTwins_0 : decode cX1_findTwins 0 = .ok (.iconst 0, 1) := by decide +kernel
theorem dX1_findTwins_1 : decode cX1_findTwins 1 = .ok (.istore_n 1, 1) := by decide +kernel
theorem dX1_findTwins_2 : decode cX1_findTwins 2 = .ok (.iload_n 1, 1) := by decide +kernel
theorem dX1_findTwins_3 : decode cX1_findTwins 3 = .ok (.aload_n 0, 1) := by decide +kernel
theorem dX1_findTwins_4 : decode cX1_findTwins 4 = .ok (.getfield 37, 3) := by decide +kernel
theorem dX1_findTwins_7 : decode cX1_findTwins 7 = .ok (.if_icmp .ge 57, 3) := by decide +kernel
theorem dX1_findTwins_10 : decode cX1_findTwins 10 = .ok (.aload_n 0, 1) := by decide +kernel
theorem dX1_findTwins_11 : decode cX1_findTwins 11 = .ok (.getfield 18, 3) := by decide +kernel
theorem dX1_findTwins_14 : decode cX1_findTwins 14 = .ok (.iload_n 1, 1) := by decide +kernel
theorem dX1_findTwins_15 : decode cX1_findTwins 15 = .ok (.iconst 0, 1) := by decide +kernel
theorem dX1_findTwins_16 : decode cX1_findTwins 16 = .ok (.iastore, 1) := by decide +kernel
theorem dX1_findTwins_17 : decode cX1_findTwins 17 = .ok (.iconst 0, 1) := by decide +kernel
theorem dX1_findTwins_18 : decode cX1_findTwins 18 = .ok (.istore_n 2, 1) := by decide +kernel
theorem dX1_findTwins_19 : decode cX1_findTwins 19 = .ok (.iload_n 2, 1) := by decide +kernel
theorem dX1_findTwins_20 : decode cX1_findTwins 20 = .ok (.iload_n 1, 1) := by decide +kernel
theorem dX1_findTwins_21 : decode cX1_findTwins 21 = .ok (.if_icmp .ge 37, 3) := by decide +kernel
theorem dX1_findTwins_24 : decode cX1_findTwins 24 = .ok (.aload_n 0, 1) := by decide +kernel
theorem dX1_findTwins_25 : decode cX1_findTwins 25 = .ok (.getfield 21, 3) := by decide +kernel
theorem dX1_findTwins_28 : decode cX1_findTwins 28 = .ok (.iload_n 2, 1) := by decide +kernel
theorem dX1_findTwins_29 : decode cX1_findTwins 29 = .ok (.iload_n 1, 1) := by decide +kernel
theorem dX1_findTwins_30 : decode cX1_findTwins 30 = .ok (.aload_n 0, 1) := by decide +kernel
theorem dX1_findTwins_31 : decode cX1_findTwins 31 = .ok (.getfield 37, 3) := by decide +kernel
theorem dX1_findTwins_34 : decode cX1_findTwins 34 = .ok (.invokevirtual 51, 3) := by decide +kernel
theorem dX1_findTwins_37 : decode cX1_findTwins 37 = .ok (.ifCond .eq 15, 3) := by decide +kernel
theorem dX1_findTwins_40 : decode cX1_findTwins 40 = .ok (.aload_n 0, 1) := by decide +kernel
theorem dX1_findTwins_41 : decode cX1_findTwins 41 = .ok (.getfield 18, 3) := by decide +kernel
theorem dX1_findTwins_44 : decode cX1_findTwins 44 = .ok (.iload_n 1, 1) := by decide +kernel
theorem dX1_findTwins_45 : decode cX1_findTwins 45 = .ok (.dup2, 1) := by decide +kernel
theorem dX1_findTwins_46 : decode cX1_findTwins 46 = .ok (.iaload, 1) := by decide +kernel
theorem dX1_findTwins_47 : decode cX1_findTwins 47 = .ok (.iconst 1, 1) := by decide +kernel
theorem dX1_findTwins_48 : decode cX1_findTwins 48 = .ok (.iload_n 2, 1) := by decide +kernel
theorem dX1_findTwins_49 : decode cX1_findTwins 49 = .ok (.ishl, 1) := by decide +kernel
theorem dX1_findTwins_50 : decode cX1_findTwins 50 = .ok (.ior, 1) := by decide +kernel
theorem dX1_findTwins_51 : decode cX1_findTwins 51 = .ok (.iastore, 1) := by decide +kernel
theorem dX1_findTwins_52 : decode cX1_findTwins 52 = .ok (.iinc 2 1, 3) := by decide +kernel
theorem dX1_findTwins_55 : decode cX1_findTwins 55 = .ok (.goto (-36), 3) := by decide +kernel
theorem dX1_findTwins_58 : decode cX1_findTwins 58 = .ok (.iinc 1 1, 3) := by decide +kernel
theorem dX1_findTwins_61 : decode cX1_findTwins 61 = .ok (.goto (-59), 3) := by decide +kernel
theorem dX1_findTwins_64 : decode cX1_findTwins 64 = .ok (.return_, 1) := by decide +kernel
theorem dX1_lay_0 : decode cX1_lay 0 = .ok (.aload_n 0, 1) := by decide +kernel
theorem dX1_lay_1 : decode cX1_lay 1 = .ok (.getfield 15, 3) := by decide +kernel
theorem dX1_lay_4 : decode cX1_lay 4 = .ok (.iload_n 1, 1) := by decide +kernel
theorem dX1_lay_5 : decode cX1_lay 5 = .ok (.iaload, 1) := by decide +kernel
theorem dX1_lay_6 : decode cX1_lay 6 = .ok (.istore 4, 2) := by decide +kernel
theorem dX1_lay_8 : decode cX1_lay 8 = .ok (.iload_n 1, 1) := by decide +kernel
theorem dX1_lay_9 : decode cX1_lay 9 = .ok (.ifCond .ne 14, 3) := by decide +kernel
theorem dX1_lay_12 : decode cX1_lay 12 = .ok (.aload_n 0, 1) := by decide +kernel
theorem dX1_lay_13 : decode cX1_lay 13 = .ok (.getfield 37, 3) := by decide +kernel
theorem dX1_lay_16 : decode cX1_lay 16 = .ok (.iconst 1, 1) := by decide +kernel
theorem dX1_lay_17 : decode cX1_lay 17 = .ok (.iadd, 1) := by decide +kernel
theorem dX1_lay_18 : decode cX1_lay 18 = .ok (.iconst 2, 1) := by decide +kernel
theorem dX1_lay_19 : decode cX1_lay 19 = .ok (.idiv, 1) := by decide +kernel
theorem dX1_lay_20 : decode cX1_lay 20 = .ok (.goto 7, 3) := by decide +kernel
theorem dX1_lay_23 : decode cX1_lay 23 = .ok (.aload_n 0, 1) := by decide +kernel
theorem dX1_lay_24 : decode cX1_lay 24 = .ok (.getfield 37, 3) := by decide +kernel
theorem dX1_lay_27 : decode cX1_lay 27 = .ok (.istore 5, 2) := by decide +kernel
theorem dX1_lay_29 : decode cX1_lay 29 = .ok (.iload_n 1, 1) := by decide +kernel
theorem dX1_lay_30 : decode cX1_lay 30 = .ok (.iconst 2, 1) := by decide +kernel
theorem dX1_lay_31 : decode cX1_lay 31 = .ok (.iadd, 1) := by decide +kernel
theorem dX1_lay_32 : decode cX1_lay 32 = .ok (.aload_n 0, 1) := by decide +kernel
theorem dX1_lay_33 : decode cX1_lay 33 = .ok (.getfield 37, 3) := by decide +kernel
theorem dX1_lay_36 : decode cX1_lay 36 = .ok (.if_icmp .eq 7, 3) := by decide +kernel
theorem dX1_lay_39 : decode cX1_lay 39 = .ok (.iconst 1, 1) := by decide +kernel
theorem dX1_lay_40 : decode cX1_lay 40 = .ok (.goto 4, 3) := by decide +kernel
theorem dX1_lay_43 : decode cX1_lay 43 = .ok (.iconst 0, 1) := by decide +kernel
theorem dX1_lay_44 : decode cX1_lay 44 = .ok (.istore 6, 2) := by decide +kernel
theorem dX1_lay_46 : decode cX1_lay 46 = .ok (.iconst 0, 1) := by decide +kernel
theorem dX1_lay_47 : decode cX1_lay 47 = .ok (.istore 7, 2) := by decide +kernel
theorem dX1_lay_49 : decode cX1_lay 49 = .ok (.iload 7, 2) := by decide +kernel
theorem dX1_lay_51 : decode cX1_lay 51 = .ok (.iload 5, 2) := by decide +kernel
theorem dX1_lay_53 : decode cX1_lay 53 = .ok (.if_icmp .ge 151, 3) := by decide +kernel
theorem dX1_lay_56 : decode cX1_lay 56 = .ok (.iload_n 2, 1) := by decide +kernel
theorem dX1_lay_57 : decode cX1_lay 57 = .ok (.iload 7, 2) := by decide +kernel
theorem dX1_lay_59 : decode cX1_lay 59 = .ok (.ishr, 1) := by decide +kernel
theorem dX1_lay_60 : decode cX1_lay 60 = .ok (.iconst 1, 1) := by decide +kernel
theorem dX1_lay_61 : decode cX1_lay 61 = .ok (.iand, 1) := by decide +kernel
theorem dX1_lay_62 : decode cX1_lay 62 = .ok (.ifCond .ne 136, 3) := by decide +kernel
theorem dX1_lay_65 : decode cX1_lay 65 = .ok (.aload_n 0, 1) := by decide +kernel
theorem dX1_lay_66 : decode cX1_lay 66 = .ok (.getfield 18, 3) := by decide +kernel
theorem dX1_lay_69 : decode cX1_lay 69 = .ok (.iload 7, 2) := by decide +kernel
theorem dX1_lay_71 : decode cX1_lay 71 = .ok (.iaload, 1) := by decide +kernel
theorem dX1_lay_72 : decode cX1_lay 72 = .ok (.iload_n 2, 1) := by decide +kernel
theorem dX1_lay_73 : decode cX1_lay 73 = .ok (.iconst (-1), 1) := by decide +kernel
theorem dX1_lay_74 : decode cX1_lay 74 = .ok (.ixor, 1) := by decide +kernel
theorem dX1_lay_75 : decode cX1_lay 75 = .ok (.iand, 1) := by decide +kernel
theorem dX1_lay_76 : decode cX1_lay 76 = .ok (.ifCond .eq 6, 3) := by decide +kernel
theorem dX1_lay_79 : decode cX1_lay 79 = .ok (.goto 119, 3) := by decide +kernel
theorem dX1_lay_82 : decode cX1_lay 82 = .ok (.aload_n 0, 1) := by decide +kernel
theorem dX1_lay_83 : decode cX1_lay 83 = .ok (.getfield 11, 3) := by decide +kernel
theorem dX1_lay_86 : decode cX1_lay 86 = .ok (.iload 4, 2) := by decide +kernel
theorem dX1_lay_88 : decode cX1_lay 88 = .ok (.iload 7, 2) := by decide +kernel
theorem dX1_lay_90 : decode cX1_lay 90 = .ok (.iastore, 1) := by decide +kernel
theorem dX1_lay_91 : decode cX1_lay 91 = .ok (.iload_n 3, 1) := by decide +kernel
theorem dX1_lay_92 : decode cX1_lay 92 = .ok (.aload_n 0, 1) := by decide +kernel
theorem dX1_lay_93 : decode cX1_lay 93 = .ok (.getfield 21, 3) := by decide +kernel
theorem dX1_lay_96 : decode cX1_lay 96 = .ok (.iload 4, 2) := by decide +kernel
theorem dX1_lay_98 : decode cX1_lay 98 = .ok (.aload_n 0, 1) := by decide +kernel
theorem dX1_lay_99 : decode cX1_lay 99 = .ok (.getfield 11, 3) := by decide +kernel
theorem dX1_lay_102 : decode cX1_lay 102 = .ok (.invokevirtual 55, 3) := by decide +kernel
theorem dX1_lay_105 : decode cX1_lay 105 = .ok (.iadd, 1) := by decide +kernel
theorem dX1_lay_106 : decode cX1_lay 106 = .ok (.istore 8, 2) := by decide +kernel
theorem dX1_lay_108 : decode cX1_lay 108 = .ok (.iload 8, 2) := by decide +kernel
theorem dX1_lay_110 : decode cX1_lay 110 = .ok (.istore 9, 2) := by decide +kernel
theorem dX1_lay_112 : decode cX1_lay 112 = .ok (.iload 9, 2) := by decide +kernel
theorem dX1_lay_114 : decode cX1_lay 114 = .ok (.aload_n 0, 1) := by decide +kernel
theorem dX1_lay_115 : decode cX1_lay 115 = .ok (.getfield 41, 3) := by decide +kernel
theorem dX1_lay_118 : decode cX1_lay 118 = .ok (.if_icmp .ge 24, 3) := by decide +kernel
theorem dX1_lay_121 : decode cX1_lay 121 = .ok (.iload 6, 2) := by decide +kernel
theorem dX1_lay_123 : decode cX1_lay 123 = .ok (.ifCond .eq 19, 3) := by decide +kernel
theorem dX1_lay_126 : decode cX1_lay 126 = .ok (.iload 9, 2) := by decide +kernel
theorem dX1_lay_128 : decode cX1_lay 128 = .ok (.aload_n 0, 1) := by decide +kernel
theorem dX1_lay_129 : decode cX1_lay 129 = .ok (.getfield 21, 3) := by decide +kernel
theorem dX1_lay_132 : decode cX1_lay 132 = .ok (.aload_n 0, 1) := by decide +kernel
theorem dX1_lay_133 : decode cX1_lay 133 = .ok (.getfield 11, 3) := by decide +kernel
theorem dX1_lay_136 : decode cX1_lay 136 = .ok (.invokevirtual 59, 3) := by decide +kernel
theorem dX1_lay_139 : decode cX1_lay 139 = .ok (.iadd, 1) := by decide +kernel
theorem dX1_lay_140 : decode cX1_lay 140 = .ok (.istore 9, 2) := by decide +kernel
theorem dX1_lay_142 : decode cX1_lay 142 = .ok (.iload 9, 2) := by decide +kernel
theorem dX1_lay_144 : decode cX1_lay 144 = .ok (.aload_n 0, 1) := by decide +kernel
theorem dX1_lay_145 : decode cX1_lay 145 = .ok (.getfield 41, 3) := by decide +kernel
theorem dX1_lay_148 : decode cX1_lay 148 = .ok (.if_icmp .ge 31, 3) := by decide +kernel
theorem dX1_lay_151 : decode cX1_lay 151 = .ok (.iload_n 1, 1) := by decide +kernel
theorem dX1_lay_152 : decode cX1_lay 152 = .ok (.iconst 1, 1) := by decide +kernel
theorem dX1_lay_153 : decode cX1_lay 153 = .ok (.iadd, 1) := by decide +kernel
theorem dX1_lay_154 : decode cX1_lay 154 = .ok (.aload_n 0, 1) := by decide +kernel
theorem dX1_lay_155 : decode cX1_lay 155 = .ok (.getfield 37, 3) := by decide +kernel
theorem dX1_lay_158 : decode cX1_lay 158 = .ok (.if_icmp .ge 21, 3) := by decide +kernel
theorem dX1_lay_161 : decode cX1_lay 161 = .ok (.aload_n 0, 1) := by decide +kernel
theorem dX1_lay_162 : decode cX1_lay 162 = .ok (.iload_n 1, 1) := by decide +kernel
theorem dX1_lay_163 : decode cX1_lay 163 = .ok (.iconst 1, 1) := by decide +kernel
theorem dX1_lay_164 : decode cX1_lay 164 = .ok (.iadd, 1) := by decide +kernel
theorem dX1_lay_165 : decode cX1_lay 165 = .ok (.iload_n 2, 1) := by decide +kernel
theorem dX1_lay_166 : decode cX1_lay 166 = .ok (.iconst 1, 1) := by decide +kernel
theorem dX1_lay_167 : decode cX1_lay 167 = .ok (.iload 7, 2) := by decide +kernel
theorem dX1_lay_169 : decode cX1_lay 169 = .ok (.ishl, 1) := by decide +kernel
theorem dX1_lay_170 : decode cX1_lay 170 = .ok (.ior, 1) := by decide +kernel
theorem dX1_lay_171 : decode cX1_lay 171 = .ok (.iload 8, 2) := by decide +kernel
theorem dX1_lay_173 : decode cX1_lay 173 = .ok (.invokevirtual 47, 3) := by decide +kernel
theorem dX1_lay_176 : decode cX1_lay 176 = .ok (.goto 22, 3) := by decide +kernel
theorem dX1_lay_179 : decode cX1_lay 179 = .ok (.iload 9, 2) := by decide +kernel
theorem dX1_lay_181 : decode cX1_lay 181 = .ok (.aload_n 0, 1) := by decide +kernel
theorem dX1_lay_182 : decode cX1_lay 182 = .ok (.getfield 41, 3) := by decide +kernel
theorem dX1_lay_185 : decode cX1_lay 185 = .ok (.if_icmp .ge 13, 3) := by decide +kernel
theorem dX1_lay_188 : decode cX1_lay 188 = .ok (.aload_n 0, 1) := by decide +kernel
theorem dX1_lay_189 : decode cX1_lay 189 = .ok (.iload 9, 2) := by decide +kernel
theorem dX1_lay_191 : decode cX1_lay 191 = .ok (.putfield 41, 3) := by decide +kernel
theorem dX1_lay_194 : decode cX1_lay 194 = .ok (.aload_n 0, 1) := by decide +kernel
theorem dX1_lay_195 : decode cX1_lay 195 = .ok (.invokevirtual 63, 3) := by decide +kernel
theorem dX1_lay_198 : decode cX1_lay 198 = .ok (.iinc 7 1, 3) := by decide +kernel
theorem dX1_lay_201 : decode cX1_lay 201 = .ok (.goto (-152), 3) := by decide +kernel
theorem dX1_lay_204 : decode cX1_lay 204 = .ok (.aload_n 0, 1) := by decide +kernel
theorem dX1_lay_205 : decode cX1_lay 205 = .ok (.getfield 11, 3) := by decide +kernel
theorem dX1_lay_208 : decode cX1_lay 208 = .ok (.iload 4, 2) := by decide +kernel
theorem dX1_lay_210 : decode cX1_lay 210 = .ok (.bipush 7, 2) := by decide +kernel
theorem dX1_lay_212 : decode cX1_lay 212 = .ok (.iastore, 1) := by decide +kernel
theorem dX1_lay_213 : decode cX1_lay 213 = .ok (.return_, 1) := by decide +kernel
theorem dX1_keep_0 : decode cX1_keep 0 = .ok (.aload_n 0, 1) := by decide +kernel
theorem dX1_keep_1 : decode cX1_keep 1 = .ok (.iconst 0, 1) := by decide +kernel
theorem dX1_keep_2 : decode cX1_keep 2 = .ok (.putfield 66, 3) := by decide +kernel
theorem dX1_keep_5 : decode cX1_keep 5 = .ok (.iconst 0, 1) := by decide +kernel
theorem dX1_keep_6 : decode cX1_keep 6 = .ok (.istore_n 1, 1) := by decide +kernel
theorem dX1_keep_7 : decode cX1_keep 7 = .ok (.iload_n 1, 1) := by decide +kernel
theorem dX1_keep_8 : decode cX1_keep 8 = .ok (.aload_n 0, 1) := by decide +kernel
theorem dX1_keep_9 : decode cX1_keep 9 = .ok (.getfield 37, 3) := by decide +kernel
theorem dX1_keep_12 : decode cX1_keep 12 = .ok (.if_icmp .ge 38, 3) := by decide +kernel
theorem dX1_keep_15 : decode cX1_keep 15 = .ok (.aload_n 0, 1) := by decide +kernel
theorem dX1_keep_16 : decode cX1_keep 16 = .ok (.dup, 1) := by decide +kernel
theorem dX1_keep_17 : decode cX1_keep 17 = .ok (.getfield 66, 3) := by decide +kernel
theorem dX1_keep_20 : decode cX1_keep 20 = .ok (.aload_n 0, 1) := by decide +kernel
theorem dX1_keep_21 : decode cX1_keep 21 = .ok (.getfield 11, 3) := by decide +kernel
theorem dX1_keep_24 : decode cX1_keep 24 = .ok (.aload_n 0, 1) := by decide +kernel
theorem dX1_keep_25 : decode cX1_keep 25 = .ok (.getfield 15, 3) := by decide +kernel
theorem dX1_keep_28 : decode cX1_keep 28 = .ok (.iload_n 1, 1) := by decide +kernel
theorem dX1_keep_29 : decode cX1_keep 29 = .ok (.iaload, 1) := by decide +kernel
theorem dX1_keep_30 : decode cX1_keep 30 = .ok (.iaload, 1) := by decide +kernel
theorem dX1_keep_31 : decode cX1_keep 31 = .ok (.aload_n 0, 1) := by decide +kernel
theorem dX1_keep_32 : decode cX1_keep 32 = .ok (.getfield 15, 3) := by decide +kernel
theorem dX1_keep_35 : decode cX1_keep 35 = .ok (.iload_n 1, 1) := by decide +kernel
theorem dX1_keep_36 : decode cX1_keep 36 = .ok (.iaload, 1) := by decide +kernel
theorem dX1_keep_37 : decode cX1_keep 37 = .ok (.iconst 3, 1) := by decide +kernel
theorem dX1_keep_38 : decode cX1_keep 38 = .ok (.imul, 1) := by decide +kernel
theorem dX1_keep_39 : decode cX1_keep 39 = .ok (.ishl, 1) := by decide +kernel
theorem dX1_keep_40 : decode cX1_keep 40 = .ok (.ior, 1) := by decide +kernel
theorem dX1_keep_41 : decode cX1_keep 41 = .ok (.putfield 66, 3) := by decide +kernel
theorem dX1_keep_44 : decode cX1_keep 44 = .ok (.iinc 1 1, 3) := by decide +kernel
theorem dX1_keep_47 : decode cX1_keep 47 = .ok (.goto (-40), 3) := by decide +kernel
theorem dX1_keep_50 : decode cX1_keep 50 = .ok (.return_, 1) := by decide +kernel
theorem dX2_init_0 : decode cX2_init 0 = .ok (.aload_n 0, 1) := by decide +kernel
theorem dX2_init_1 : decode cX2_init 1 = .ok (.invokespecial 3, 3) := by decide +kernel
theorem dX2_init_4 : decode cX2_init 4 = .ok (.aload_n 0, 1) := by decide +kernel
theorem dX2_init_5 : decode cX2_init 5 = .ok (.bipush 7, 2) := by decide +kernel
theorem dX2_init_7 : decode cX2_init 7 = .ok (.newarray .int, 2) := by decide +kernel
theorem dX2_init_9 : decode cX2_init 9 = .ok (.putfield 9, 3) := by decide +kernel
theorem dX2_init_12 : decode cX2_init 12 = .ok (.aload_n 0, 1) := by decide +kernel
theorem dX2_init_13 : decode cX2_init 13 = .ok (.bipush 7, 2) := by decide +kernel
theorem dX2_init_15 : decode cX2_init 15 = .ok (.newarray .int, 2) := by decide +kernel
theorem dX2_init_17 : decode cX2_init 17 = .ok (.putfield 15, 3) := by decide +kernel
theorem dX2_init_20 : decode cX2_init 20 = .ok (.return_, 1) := by decide +kernel
theorem dX3_init_0 : decode cX3_init 0 = .ok (.aload_n 0, 1) := by decide +kernel
theorem dX3_init_1 : decode cX3_init 1 = .ok (.invokespecial 3, 3) := by decide +kernel
theorem dX3_init_4 : decode cX3_init 4 = .ok (.aload_n 0, 1) := by decide +kernel
theorem dX3_init_5 : decode cX3_init 5 = .ok (.bipush 6, 2) := by decide +kernel
theorem dX3_init_7 : decode cX3_init 7 = .ok (.anewarray 9, 3) := by decide +kernel
theorem dX3_init_10 : decode cX3_init 10 = .ok (.putfield 11, 3) := by decide +kernel
theorem dX3_init_13 : decode cX3_init 13 = .ok (.aload_n 0, 1) := by decide +kernel
theorem dX3_init_14 : decode cX3_init 14 = .ok (.iconst 2, 1) := by decide +kernel
theorem dX3_init_15 : decode cX3_init 15 = .ok (.sipush 128, 3) := by decide +kernel
theorem dX3_init_18 : decode cX3_init 18 = .ok (.multianewarray 17 2, 4) := by decide +kernel
theorem dX3_init_22 : decode cX3_init 22 = .ok (.putfield 19, 3) := by decide +kernel
theorem dX3_init_25 : decode cX3_init 25 = .ok (.aload_n 0, 1) := by decide +kernel
theorem dX3_init_26 : decode cX3_init 26 = .ok (.iconst 2, 1) := by decide +kernel
theorem dX3_init_27 : decode cX3_init 27 = .ok (.sipush 128, 3) := by decide +kernel
theorem dX3_init_30 : decode cX3_init 30 = .ok (.multianewarray 17 2, 4) := by decide +kernel
theorem dX3_init_34 : decode cX3_init 34 = .ok (.putfield 22, 3) := by decide +kernel
theorem dX3_init_37 : decode cX3_init 37 = .ok (.aload_n 0, 1) := by decide +kernel
theorem dX3_init_38 : decode cX3_init 38 = .ok (.iconst 3, 1) := by decide +kernel
theorem dX3_init_39 : decode cX3_init 39 = .ok (.newarray .int, 2) := by decide +kernel
theorem dX3_init_41 : decode cX3_init 41 = .ok (.putfield 25, 3) := by decide +kernel
theorem dX3_init_44 : decode cX3_init 44 = .ok (.aload_n 0, 1) := by decide +kernel
theorem dX3_init_45 : decode cX3_init 45 = .ok (.iconst 3, 1) := by decide +kernel
theorem dX3_init_46 : decode cX3_init 46 = .ok (.newarray .int, 2) := by decide +kernel
theorem dX3_init_48 : decode cX3_init 48 = .ok (.putfield 29, 3) := by decide +kernel
theorem dX3_init_51 : decode cX3_init 51 = .ok (.aload_n 0, 1) := by decide +kernel
theorem dX3_init_52 : decode cX3_init 52 = .ok (.bipush 7, 2) := by decide +kernel
theorem dX3_init_54 : decode cX3_init 54 = .ok (.newarray .int, 2) := by decide +kernel
theorem dX3_init_56 : decode cX3_init 56 = .ok (.putfield 32, 3) := by decide +kernel
theorem dX3_init_59 : decode cX3_init 59 = .ok (.aload_n 0, 1) := by decide +kernel
theorem dX3_init_60 : decode cX3_init 60 = .ok (.aload_n 1, 1) := by decide +kernel
theorem dX3_init_61 : decode cX3_init 61 = .ok (.putfield 35, 3) := by decide +kernel
theorem dX3_init_64 : decode cX3_init 64 = .ok (.aload_n 0, 1) := by decide +kernel
theorem dX3_init_65 : decode cX3_init 65 = .ok (.aload_n 2, 1) := by decide +kernel
theorem dX3_init_66 : decode cX3_init 66 = .ok (.putfield 39, 3) := by decide +kernel
theorem dX3_init_69 : decode cX3_init 69 = .ok (.aload_n 0, 1) := by decide +kernel
theorem dX3_init_70 : decode cX3_init 70 = .ok (.new 43, 3) := by decide +kernel
theorem dX3_init_73 : decode cX3_init 73 = .ok (.dup, 1) := by decide +kernel
theorem dX3_init_74 : decode cX3_init 74 = .ok (.aload_n 2, 1) := by decide +kernel
theorem dX3_init_75 : decode cX3_init 75 = .ok (.invokespecial 45, 3) := by decide +kernel
theorem dX3_init_78 : decode cX3_init 78 = .ok (.putfield 48, 3) := by decide +kernel
theorem dX3_init_81 : decode cX3_init 81 = .ok (.iconst 0, 1) := by decide +kernel
theorem dX3_init_82 : decode cX3_init 82 = .ok (.istore_n 3, 1) := by decide +kernel
theorem dX3_init_83 : decode cX3_init 83 = .ok (.iload_n 3, 1) := by decide +kernel
theorem dX3_init_84 : decode cX3_init 84 = .ok (.aload_n 0, 1) := by decide +kernel
theorem dX3_init_85 : decode cX3_init 85 = .ok (.getfield 11, 3) := by decide +kernel
theorem dX3_init_88 : decode cX3_init 88 = .ok (.arraylength, 1) := by decide +kernel
theorem dX3_init_89 : decode cX3_init 89 = .ok (.if_icmp .ge 22, 3) := by decide +kernel
theorem dX3_init_92 : decode cX3_init 92 = .ok (.aload_n 0, 1) := by decide +kernel
theorem dX3_init_93 : decode cX3_init 93 = .ok (.getfield 11, 3) := by decide +kernel
theorem dX3_init_96 : decode cX3_init 96 = .ok (.iload_n 3, 1) := by decide +kernel
theorem dX3_init_97 : decode cX3_init 97 = .ok (.new 9, 3) := by decide +kernel
theorem dX3_init_100 : decode cX3_init 100 = .ok (.dup, 1) := by decide +kernel
theorem dX3_init_101 : decode cX3_init 101 = .ok (.invokespecial 52, 3) := by decide +kernel
theorem dX3_init_104 : decode cX3_init 104 = .ok (.aastore, 1) := by decide +kernel
theorem dX3_init_105 : decode cX3_init 105 = .ok (.iinc 3 1, 3) := by decide +kernel
theorem dX3_init_108 : decode cX3_init 108 = .ok (.goto (-25), 3) := by decide +kernel
theorem dX3_init_111 : decode cX3_init 111 = .ok (.aload_n 0, 1) := by decide +kernel
theorem dX3_init_112 : decode cX3_init 112 = .ok (.invokevirtual 53, 3) := by decide +kernel
theorem dX3_init_115 : decode cX3_init 115 = .ok (.return_, 1) := by decide +kernel
theorem dX3_forget_0 : decode cX3_forget 0 = .ok (.iconst 0, 1) := by decide +kernel
theorem dX3_forget_1 : decode cX3_forget 1 = .ok (.istore_n 1, 1) := by decide +kernel
theorem dX3_forget_2 : decode cX3_forget 2 = .ok (.iload_n 1, 1) := by decide +kernel
theorem dX3_forget_3 : decode cX3_forget 3 = .ok (.aload_n 0, 1) := by decide +kernel
theorem dX3_forget_4 : decode cX3_forget 4 = .ok (.getfield 11, 3) := by decide +kernel
theorem dX3_forget_7 : decode cX3_forget 7 = .ok (.arraylength, 1) := by decide +kernel
theorem dX3_forget_8 : decode cX3_forget 8 = .ok (.if_icmp .ge 19, 3) := by decide +kernel
theorem dX3_forget_11 : decode cX3_forget 11 = .ok (.aload_n 0, 1) := by decide +kernel
theorem dX3_forget_12 : decode cX3_forget 12 = .ok (.getfield 11, 3) := by decide +kernel
theorem dX3_forget_15 : decode cX3_forget 15 = .ok (.iload_n 1, 1) := by decide +kernel
theorem dX3_forget_16 : decode cX3_forget 16 = .ok (.aaload, 1) := by decide +kernel
theorem dX3_forget_17 : decode cX3_forget 17 = .ok (.iconst 0, 1) := by decide +kernel
theorem dX3_forget_18 : decode cX3_forget 18 = .ok (.putfield 56, 3) := by decide +kernel
theorem dX3_forget_21 : decode cX3_forget 21 = .ok (.iinc 1 1, 3) := by decide +kernel
theorem dX3_forget_24 : decode cX3_forget 24 = .ok (.goto (-22), 3) := by decide +kernel
theorem dX3_forget_27 : decode cX3_forget 27 = .ok (.iconst 0, 1) := by decide +kernel
theorem dX3_forget_28 : decode cX3_forget 28 = .ok (.istore_n 1, 1) := by decide +kernel
theorem dX3_forget_29 : decode cX3_forget 29 = .ok (.iload_n 1, 1) := by decide +kernel
theorem dX3_forget_30 : decode cX3_forget 30 = .ok (.iconst 2, 1) := by decide +kernel
theorem dX3_forget_31 : decode cX3_forget 31 = .ok (.if_icmp .ge 29, 3) := by decide +kernel
theorem dX3_forget_34 : decode cX3_forget 34 = .ok (.aload_n 0, 1) := by decide +kernel
theorem dX3_forget_35 : decode cX3_forget 35 = .ok (.getfield 19, 3) := by decide +kernel
theorem dX3_forget_38 : decode cX3_forget 38 = .ok (.iload_n 1, 1) := by decide +kernel
theorem dX3_forget_39 : decode cX3_forget 39 = .ok (.aaload, 1) := by decide +kernel
theorem dX3_forget_40 : decode cX3_forget 40 = .ok (.iconst 1, 1) := by decide +kernel
theorem dX3_forget_41 : decode cX3_forget 41 = .ok (.invokestatic 60, 3) := by decide +kernel
theorem dX3_forget_44 : decode cX3_forget 44 = .ok (.aload_n 0, 1) := by decide +kernel
theorem dX3_forget_45 : decode cX3_forget 45 = .ok (.getfield 22, 3) := by decide +kernel
theorem dX3_forget_48 : decode cX3_forget 48 = .ok (.iload_n 1, 1) := by decide +kernel
theorem dX3_forget_49 : decode cX3_forget 49 = .ok (.aaload, 1) := by decide +kernel
theorem dX3_forget_50 : decode cX3_forget 50 = .ok (.iconst (-1), 1) := by decide +kernel
theorem dX3_forget_51 : decode cX3_forget 51 = .ok (.invokestatic 60, 3) := by decide +kernel
theorem dX3_forget_54 : decode cX3_forget 54 = .ok (.iinc 1 1, 3) := by decide +kernel
theorem dX3_forget_57 : decode cX3_forget 57 = .ok (.goto (-28), 3) := by decide +kernel
theorem dX3_forget_60 : decode cX3_forget 60 = .ok (.return_, 1) := by decide +kernel
theorem dX3_planFor_0 : decode cX3_planFor 0 = .ok (.aload_n 0, 1) := by decide +kernel
theorem dX3_planFor_1 : decode cX3_planFor 1 = .ok (.getfield 11, 3) := by decide +kernel
theorem dX3_planFor_4 : decode cX3_planFor 4 = .ok (.iload_n 1, 1) := by decide +kernel
theorem dX3_planFor_5 : decode cX3_planFor 5 = .ok (.iconst 1, 1) := by decide +kernel
theorem dX3_planFor_6 : decode cX3_planFor 6 = .ok (.isub, 1) := by decide +kernel
theorem dX3_planFor_7 : decode cX3_planFor 7 = .ok (.iconst 2, 1) := by decide +kernel
theorem dX3_planFor_8 : decode cX3_planFor 8 = .ok (.imul, 1) := by decide +kernel
theorem dX3_planFor_9 : decode cX3_planFor 9 = .ok (.iload_n 2, 1) := by decide +kernel
theorem dX3_planFor_10 : decode cX3_planFor 10 = .ok (.iadd, 1) := by decide +kernel
theorem dX3_planFor_11 : decode cX3_planFor 11 = .ok (.aaload, 1) := by decide +kernel
theorem dX3_planFor_12 : decode cX3_planFor 12 = .ok (.astore_n 3, 1) := by decide +kernel
theorem dX3_planFor_13 : decode cX3_planFor 13 = .ok (.aload_n 3, 1) := by decide +kernel
theorem dX3_planFor_14 : decode cX3_planFor 14 = .ok (.getfield 56, 3) := by decide +kernel
theorem dX3_planFor_17 : decode cX3_planFor 17 = .ok (.ifCond .ne 106, 3) := by decide +kernel
theorem dX3_planFor_20 : decode cX3_planFor 20 = .ok (.aload_n 0, 1) := by decide +kernel
theorem dX3_planFor_21 : decode cX3_planFor 21 = .ok (.iload_n 1, 1) := by decide +kernel
theorem dX3_planFor_22 : decode cX3_planFor 22 = .ok (.putfield 66, 3) := by decide +kernel
theorem dX3_planFor_25 : decode cX3_planFor 25 = .ok (.aload_n 0, 1) := by decide +kernel
theorem dX3_planFor_26 : decode cX3_planFor 26 = .ok (.iload_n 2, 1) := by decide +kernel
theorem dX3_planFor_27 : decode cX3_planFor 27 = .ok (.putfield 70, 3) := by decide +kernel
theorem dX3_planFor_30 : decode cX3_planFor 30 = .ok (.aload_n 0, 1) := by decide +kernel
theorem dX3_planFor_31 : decode cX3_planFor 31 = .ok (.aload_n 0, 1) := by decide +kernel
theorem dX3_planFor_32 : decode cX3_planFor 32 = .ok (.getfield 70, 3) := by decide +kernel
theorem dX3_planFor_35 : decode cX3_planFor 35 = .ok (.ifCond .ne 7, 3) := by decide +kernel
theorem dX3_planFor_38 : decode cX3_planFor 38 = .ok (.iconst 0, 1) := by decide +kernel
theorem dX3_planFor_39 : decode cX3_planFor 39 = .ok (.goto 10, 3) := by decide +kernel
theorem dX3_planFor_42 : decode cX3_planFor 42 = .ok (.aload_n 0, 1) := by decide +kernel
theorem dX3_planFor_43 : decode cX3_planFor 43 = .ok (.getfield 35, 3) := by decide +kernel
theorem dX3_planFor_46 : decode cX3_planFor 46 = .ok (.invokevirtual 73, 3) := by decide +kernel
theorem dX3_planFor_49 : decode cX3_planFor 49 = .ok (.putfield 79, 3) := by decide +kernel
theorem dX3_planFor_52 : decode cX3_planFor 52 = .ok (.aload_n 0, 1) := by decide +kernel
theorem dX3_planFor_53 : decode cX3_planFor 53 = .ok (.sipush 1000, 3) := by decide +kernel
theorem dX3_planFor_56 : decode cX3_planFor 56 = .ok (.putfield 82, 3) := by decide +kernel
theorem dX3_planFor_59 : decode cX3_planFor 59 = .ok (.aload_n 0, 1) := by decide +kernel
theorem dX3_planFor_60 : decode cX3_planFor 60 = .ok (.invokevirtual 85, 3) := by decide +kernel
theorem dX3_planFor_63 : decode cX3_planFor 63 = .ok (.aload_n 0, 1) := by decide +kernel
theorem dX3_planFor_64 : decode cX3_planFor 64 = .ok (.aload_n 0, 1) := by decide +kernel
theorem dX3_planFor_65 : decode cX3_planFor 65 = .ok (.getfield 88, 3) := by decide +kernel
theorem dX3_planFor_68 : decode cX3_planFor 68 = .ok (.aload_n 0, 1) := by decide +kernel
theorem dX3_planFor_69 : decode cX3_planFor 69 = .ok (.getfield 66, 3) := by decide +kernel
theorem dX3_planFor_72 : decode cX3_planFor 72 = .ok (.iadd, 1) := by decide +kernel
theorem dX3_planFor_73 : decode cX3_planFor 73 = .ok (.iconst 1, 1) := by decide +kernel
theorem dX3_planFor_74 : decode cX3_planFor 74 = .ok (.isub, 1) := by decide +kernel
theorem dX3_planFor_75 : decode cX3_planFor 75 = .ok (.aload_n 0, 1) := by decide +kernel
theorem dX3_planFor_76 : decode cX3_planFor 76 = .ok (.getfield 66, 3) := by decide +kernel
theorem dX3_planFor_79 : decode cX3_planFor 79 = .ok (.idiv, 1) := by decide +kernel
theorem dX3_planFor_80 : decode cX3_planFor 80 = .ok (.putfield 91, 3) := by decide +kernel
theorem dX3_planFor_83 : decode cX3_planFor 83 = .ok (.aload_n 0, 1) := by decide +kernel
theorem dX3_planFor_84 : decode cX3_planFor 84 = .ok (.iconst 0, 1) := by decide +kernel
theorem dX3_planFor_85 : decode cX3_planFor 85 = .ok (.iconst 0, 1) := by decide +kernel
theorem dX3_planFor_86 : decode cX3_planFor 86 = .ok (.invokevirtual 94, 3) := by decide +kernel
theorem dX3_planFor_89 : decode cX3_planFor 89 = .ok (.aload_n 0, 1) := by decide +kernel
theorem dX3_planFor_90 : decode cX3_planFor 90 = .ok (.dup, 1) := by decide +kernel
theorem dX3_planFor_91 : decode cX3_planFor 91 = .ok (.getfield 82, 3) := by decide +kernel
theorem dX3_planFor_94 : decode cX3_planFor 94 = .ok (.iconst 1, 1) := by decide +kernel
theorem dX3_planFor_95 : decode cX3_planFor 95 = .ok (.iadd, 1) := by decide +kernel
theorem dX3_planFor_96 : decode cX3_planFor 96 = .ok (.putfield 82, 3) := by decide +kernel
theorem dX3_planFor_99 : decode cX3_planFor 99 = .ok (.aload_n 0, 1) := by decide +kernel
theorem dX3_planFor_100 : decode cX3_planFor 100 = .ok (.aload_n 0, 1) := by decide +kernel
theorem dX3_planFor_101 : decode cX3_planFor 101 = .ok (.getfield 88, 3) := by decide +kernel
theorem dX3_planFor_104 : decode cX3_planFor 104 = .ok (.putfield 91, 3) := by decide +kernel
theorem dX3_planFor_107 : decode cX3_planFor 107 = .ok (.aload_n 0, 1) := by decide +kernel
theorem dX3_planFor_108 : decode cX3_planFor 108 = .ok (.iconst 0, 1) := by decide +kernel
theorem dX3_planFor_109 : decode cX3_planFor 109 = .ok (.iconst 0, 1) := by decide +kernel
theorem dX3_planFor_110 : decode cX3_planFor 110 = .ok (.invokevirtual 94, 3) := by decide +kernel
theorem dX3_planFor_113 : decode cX3_planFor 113 = .ok (.aload_n 0, 1) := by decide +kernel
theorem dX3_planFor_114 : decode cX3_planFor 114 = .ok (.aload_n 3, 1) := by decide +kernel
theorem dX3_planFor_115 : decode cX3_planFor 115 = .ok (.invokevirtual 98, 3) := by decide +kernel
theorem dX3_planFor_118 : decode cX3_planFor 118 = .ok (.aload_n 3, 1) := by decide +kernel
theorem dX3_planFor_119 : decode cX3_planFor 119 = .ok (.iconst 1, 1) := by decide +kernel
theorem dX3_planFor_120 : decode cX3_planFor 120 = .ok (.putfield 56, 3) := by decide +kernel
theorem dX3_planFor_123 : decode cX3_planFor 123 = .ok (.aload_n 3, 1) := by decide +kernel
theorem dX3_planFor_124 : decode cX3_planFor 124 = .ok (.areturn, 1) := by decide +kernel
theorem dX3_listUsed_0 : decode cX3_listUsed 0 = .ok (.aload_n 0, 1) := by decide +kernel
theorem dX3_listUsed_1 : decode cX3_listUsed 1 = .ok (.getfield 35, 3) := by decide +kernel
theorem dX3_listUsed_4 : decode cX3_listUsed 4 = .ok (.invokevirtual 102, 3) := by decide +kernel
theorem dX3_listUsed_7 : decode cX3_listUsed 7 = .ok (.istore_n 1, 1) := by decide +kernel
theorem dX3_listUsed_8 : decode cX3_listUsed 8 = .ok (.aload_n 0, 1) := by decide +kernel
theorem dX3_listUsed_9 : decode cX3_listUsed 9 = .ok (.iconst 0, 1) := by decide +kernel
theorem dX3_listUsed_10 : decode cX3_listUsed 10 = .ok (.putfield 88, 3) := by decide +kernel
theorem dX3_listUsed_13 : decode cX3_listUsed 13 = .ok (.iconst 0, 1) := by decide +kernel
theorem dX3_listUsed_14 : decode cX3_listUsed 14 = .ok (.istore_n 2, 1) := by decide +kernel
theorem dX3_listUsed_15 : decode cX3_listUsed 15 = .ok (.iload_n 2, 1) := by decide +kernel
theorem dX3_listUsed_16 : decode cX3_listUsed 16 = .ok (.bipush 7, 2) := by decide +kernel
theorem dX3_listUsed_18 : decode cX3_listUsed 18 = .ok (.if_icmp .ge 37, 3) := by decide +kernel
theorem dX3_listUsed_21 : decode cX3_listUsed 21 = .ok (.iload_n 1, 1) := by decide +kernel
theorem dX3_listUsed_22 : decode cX3_listUsed 22 = .ok (.iload_n 2, 1) := by decide +kernel
theorem dX3_listUsed_23 : decode cX3_listUsed 23 = .ok (.ishr, 1) := by decide +kernel
theorem dX3_listUsed_24 : decode cX3_listUsed 24 = .ok (.iconst 1, 1) := by decide +kernel
theorem dX3_listUsed_25 : decode cX3_listUsed 25 = .ok (.iand, 1) := by decide +kernel
theorem dX3_listUsed_26 : decode cX3_listUsed 26 = .ok (.ifCond .eq 23, 3) := by decide +kernel
theorem dX3_listUsed_29 : decode cX3_listUsed 29 = .ok (.aload_n 0, 1) := by decide +kernel
theorem dX3_listUsed_30 : decode cX3_listUsed 30 = .ok (.getfield 32, 3) := by decide +kernel
theorem dX3_listUsed_33 : decode cX3_listUsed 33 = .ok (.aload_n 0, 1) := by decide +kernel
theorem dX3_listUsed_34 : decode cX3_listUsed 34 = .ok (.getfield 88, 3) := by decide +kernel
theorem dX3_listUsed_37 : decode cX3_listUsed 37 = .ok (.iload_n 2, 1) := by decide +kernel
theorem dX3_listUsed_38 : decode cX3_listUsed 38 = .ok (.iastore, 1) := by decide +kernel
theorem dX3_listUsed_39 : decode cX3_listUsed 39 = .ok (.aload_n 0, 1) := by decide +kernel
theorem dX3_listUsed_40 : decode cX3_listUsed 40 = .ok (.dup, 1) := by decide +kernel
theorem dX3_listUsed_41 : decode cX3_listUsed 41 = .ok (.getfield 88, 3) := by decide +kernel
theorem dX3_listUsed_44 : decode cX3_listUsed 44 = .ok (.iconst 1, 1) := by decide +kernel
theorem dX3_listUsed_45 : decode cX3_listUsed 45 = .ok (.iadd, 1) := by decide +kernel
theorem dX3_listUsed_46 : decode cX3_listUsed 46 = .ok (.putfield 88, 3) := by decide +kernel
theorem dX3_listUsed_49 : decode cX3_listUsed 49 = .ok (.iinc 2 1, 3) := by decide +kernel
theorem dX3_listUsed_52 : decode cX3_listUsed 52 = .ok (.goto (-37), 3) := by decide +kernel
theorem dX3_listUsed_55 : decode cX3_listUsed 55 = .ok (.return_, 1) := by decide +kernel
theorem dX3_divide_0 : decode cX3_divide 0 = .ok (.iload_n 1, 1) := by decide +kernel
theorem dX3_divide_1 : decode cX3_divide 1 = .ok (.aload_n 0, 1) := by decide +kernel
theorem dX3_divide_2 : decode cX3_divide 2 = .ok (.getfield 88, 3) := by decide +kernel
theorem dX3_divide_5 : decode cX3_divide 5 = .ok (.if_icmp .lt 9, 3) := by decide +kernel
theorem dX3_divide_8 : decode cX3_divide 8 = .ok (.aload_n 0, 1) := by decide +kernel
theorem dX3_divide_9 : decode cX3_divide 9 = .ok (.iload_n 2, 1) := by decide +kernel
theorem dX3_divide_10 : decode cX3_divide 10 = .ok (.invokevirtual 105, 3) := by decide +kernel
theorem dX3_divide_13 : decode cX3_divide 13 = .ok (.return_, 1) := by decide +kernel
theorem dX3_divide_14 : decode cX3_divide 14 = .ok (.iconst 1, 1) := by decide +kernel
theorem dX3_divide_15 : decode cX3_divide 15 = .ok (.aload_n 0, 1) := by decide +kernel
theorem dX3_divide_16 : decode cX3_divide 16 = .ok (.getfield 32, 3) := by decide +kernel
theorem dX3_divide_19 : decode cX3_divide 19 = .ok (.iload_n 1, 1) := by decide +kernel
theorem dX3_divide_20 : decode cX3_divide 20 = .ok (.iaload, 1) := by decide +kernel
theorem dX3_divide_21 : decode cX3_divide 21 = .ok (.ishl, 1) := by decide +kernel
theorem dX3_divide_22 : decode cX3_divide 22 = .ok (.istore_n 3, 1) := by decide +kernel
theorem dX3_divide_23 : decode cX3_divide 23 = .ok (.iload_n 2, 1) := by decide +kernel
theorem dX3_divide_24 : decode cX3_divide 24 = .ok (.iconst 1, 1) := by decide +kernel
theorem dX3_divide_25 : decode cX3_divide 25 = .ok (.iadd, 1) := by decide +kernel
theorem dX3_divide_26 : decode cX3_divide 26 = .ok (.aload_n 0, 1) := by decide +kernel
theorem dX3_divide_27 : decode cX3_divide 27 = .ok (.getfield 66, 3) := by decide +kernel
theorem dX3_divide_30 : decode cX3_divide 30 = .ok (.invokestatic 109, 3) := by decide +kernel
theorem dX3_divide_33 : decode cX3_divide 33 = .ok (.istore 4, 2) := by decide +kernel
theorem dX3_divide_35 : decode cX3_divide 35 = .ok (.iconst 0, 1) := by decide +kernel
theorem dX3_divide_36 : decode cX3_divide 36 = .ok (.istore 5, 2) := by decide +kernel
theorem dX3_divide_38 : decode cX3_divide 38 = .ok (.iload 5, 2) := by decide +kernel
theorem dX3_divide_40 : decode cX3_divide 40 = .ok (.iload 4, 2) := by decide +kernel
theorem dX3_divide_42 : decode cX3_divide 42 = .ok (.if_icmp .ge 65, 3) := by decide +kernel
theorem dX3_divide_45 : decode cX3_divide 45 = .ok (.aload_n 0, 1) := by decide +kernel
theorem dX3_divide_46 : decode cX3_divide 46 = .ok (.getfield 25, 3) := by decide +kernel
theorem dX3_divide_49 : decode cX3_divide 49 = .ok (.iload 5, 2) := by decide +kernel
theorem dX3_divide_51 : decode cX3_divide 51 = .ok (.iaload, 1) := by decide +kernel
theorem dX3_divide_52 : decode cX3_divide 52 = .ok (.invokestatic 115, 3) := by decide +kernel
theorem dX3_divide_55 : decode cX3_divide 55 = .ok (.aload_n 0, 1) := by decide +kernel
theorem dX3_divide_56 : decode cX3_divide 56 = .ok (.getfield 91, 3) := by decide +kernel
theorem dX3_divide_59 : decode cX3_divide 59 = .ok (.if_icmp .ge 42, 3) := by decide +kernel
theorem dX3_divide_62 : decode cX3_divide 62 = .ok (.aload_n 0, 1) := by decide +kernel
theorem dX3_divide_63 : decode cX3_divide 63 = .ok (.getfield 25, 3) := by decide +kernel
theorem dX3_divide_66 : decode cX3_divide 66 = .ok (.iload 5, 2) := by decide +kernel
theorem dX3_divide_68 : decode cX3_divide 68 = .ok (.dup2, 1) := by decide +kernel
theorem dX3_divide_69 : decode cX3_divide 69 = .ok (.iaload, 1) := by decide +kernel
theorem dX3_divide_70 : decode cX3_divide 70 = .ok (.iload_n 3, 1) := by decide +kernel
theorem dX3_divide_71 : decode cX3_divide 71 = .ok (.ior, 1) := by decide +kernel
theorem dX3_divide_72 : decode cX3_divide 72 = .ok (.iastore, 1) := by decide +kernel
theorem dX3_divide_73 : decode cX3_divide 73 = .ok (.aload_n 0, 1) := by decide +kernel
theorem dX3_divide_74 : decode cX3_divide 74 = .ok (.iload_n 1, 1) := by decide +kernel
theorem dX3_divide_75 : decode cX3_divide 75 = .ok (.iconst 1, 1) := by decide +kernel
theorem dX3_divide_76 : decode cX3_divide 76 = .ok (.iadd, 1) := by decide +kernel
theorem dX3_divide_77 : decode cX3_divide 77 = .ok (.iload_n 2, 1) := by decide +kernel
theorem dX3_divide_78 : decode cX3_divide 78 = .ok (.iload 5, 2) := by decide +kernel
theorem dX3_divide_80 : decode cX3_divide 80 = .ok (.iconst 1, 1) := by decide +kernel
theorem dX3_divide_81 : decode cX3_divide 81 = .ok (.iadd, 1) := by decide +kernel
theorem dX3_divide_82 : decode cX3_divide 82 = .ok (.invokestatic 121, 3) := by decide +kernel
theorem dX3_divide_85 : decode cX3_divide 85 = .ok (.invokevirtual 94, 3) := by decide +kernel
theorem dX3_divide_88 : decode cX3_divide 88 = .ok (.aload_n 0, 1) := by decide +kernel
theorem dX3_divide_89 : decode cX3_divide 89 = .ok (.getfield 25, 3) := by decide +kernel
theorem dX3_divide_92 : decode cX3_divide 92 = .ok (.iload 5, 2) := by decide +kernel
theorem dX3_divide_94 : decode cX3_divide 94 = .ok (.dup2, 1) := by decide +kernel
theorem dX3_divide_95 : decode cX3_divide 95 = .ok (.iaload, 1) := by decide +kernel
theorem dX3_divide_96 : decode cX3_divide 96 = .ok (.iload_n 3, 1) := by decide +kernel
theorem dX3_divide_97 : decode cX3_divide 97 = .ok (.iconst (-1), 1) := by decide +kernel
theorem dX3_divide_98 : decode cX3_divide 98 = .ok (.ixor, 1) := by decide +kernel
theorem dX3_divide_99 : decode cX3_divide 99 = .ok (.iand, 1) := by decide +kernel
theorem dX3_divide_100 : decode cX3_divide 100 = .ok (.iastore, 1) := by decide +kernel
theorem dX3_divide_101 : decode cX3_divide 101 = .ok (.iinc 5 1, 3) := by decide +kernel
theorem dX3_divide_104 : decode cX3_divide 104 = .ok (.goto (-66), 3) := by decide +kernel
theorem dX3_divide_107 : decode cX3_divide 107 = .ok (.return_, 1) := by decide +kernel
theorem dX3_compare_0 : decode cX3_compare 0 = .ok (.iconst 0, 1) := by decide +kernel
theorem dX3_compare_1 : decode cX3_compare 1 = .ok (.istore_n 2, 1) := by decide +kernel
theorem dX3_compare_2 : decode cX3_compare 2 = .ok (.iconst 0, 1) := by decide +kernel
theorem dX3_compare_3 : decode cX3_compare 3 = .ok (.istore_n 3, 1) := by decide +kernel
theorem dX3_compare_4 : decode cX3_compare 4 = .ok (.iload_n 3, 1) := by decide +kernel
theorem dX3_compare_5 : decode cX3_compare 5 = .ok (.iload_n 1, 1) := by decide +kernel
theorem dX3_compare_6 : decode cX3_compare 6 = .ok (.if_icmp .ge 28, 3) := by decide +kernel
theorem dX3_compare_9 : decode cX3_compare 9 = .ok (.iload_n 2, 1) := by decide +kernel
theorem dX3_compare_10 : decode cX3_compare 10 = .ok (.aload_n 0, 1) := by decide +kernel
theorem dX3_compare_11 : decode cX3_compare 11 = .ok (.getfield 19, 3) := by decide +kernel
theorem dX3_compare_14 : decode cX3_compare 14 = .ok (.aload_n 0, 1) := by decide +kernel
theorem dX3_compare_15 : decode cX3_compare 15 = .ok (.getfield 70, 3) := by decide +kernel
theorem dX3_compare_18 : decode cX3_compare 18 = .ok (.aaload, 1) := by decide +kernel
theorem dX3_compare_19 : decode cX3_compare 19 = .ok (.aload_n 0, 1) := by decide +kernel
theorem dX3_compare_20 : decode cX3_compare 20 = .ok (.getfield 25, 3) := by decide +kernel
theorem dX3_compare_23 : decode cX3_compare 23 = .ok (.iload_n 3, 1) := by decide +kernel
theorem dX3_compare_24 : decode cX3_compare 24 = .ok (.iaload, 1) := by decide +kernel
theorem dX3_compare_25 : decode cX3_compare 25 = .ok (.iaload, 1) := by decide +kernel
theorem dX3_compare_26 : decode cX3_compare 26 = .ok (.iadd, 1) := by decide +kernel
theorem dX3_compare_27 : decode cX3_compare 27 = .ok (.istore_n 2, 1) := by decide +kernel
theorem dX3_compare_28 : decode cX3_compare 28 = .ok (.iinc 3 1, 3) := by decide +kernel
theorem dX3_compare_31 : decode cX3_compare 31 = .ok (.goto (-27), 3) := by decide +kernel
theorem dX3_compare_34 : decode cX3_compare 34 = .ok (.iconst 0, 1) := by decide +kernel
theorem dX3_compare_35 : decode cX3_compare 35 = .ok (.istore_n 3, 1) := by decide +kernel
theorem dX3_compare_36 : decode cX3_compare 36 = .ok (.iload_n 3, 1) := by decide +kernel
theorem dX3_compare_37 : decode cX3_compare 37 = .ok (.iload_n 1, 1) := by decide +kernel
theorem dX3_compare_38 : decode cX3_compare 38 = .ok (.if_icmp .ge 133, 3) := by decide +kernel
theorem dX3_compare_41 : decode cX3_compare 41 = .ok (.iload_n 2, 1) := by decide +kernel
theorem dX3_compare_42 : decode cX3_compare 42 = .ok (.aload_n 0, 1) := by decide +kernel
theorem dX3_compare_43 : decode cX3_compare 43 = .ok (.getfield 82, 3) := by decide +kernel
theorem dX3_compare_46 : decode cX3_compare 46 = .ok (.if_icmp .ge 125, 3) := by decide +kernel
theorem dX3_compare_49 : decode cX3_compare 49 = .ok (.aload_n 0, 1) := by decide +kernel
theorem dX3_compare_50 : decode cX3_compare 50 = .ok (.getfield 25, 3) := by decide +kernel
theorem dX3_compare_53 : decode cX3_compare 53 = .ok (.iload_n 3, 1) := by decide +kernel
theorem dX3_compare_54 : decode cX3_compare 54 = .ok (.iaload, 1) := by decide +kernel
theorem dX3_compare_55 : decode cX3_compare 55 = .ok (.istore 4, 2) := by decide +kernel
theorem dX3_compare_57 : decode cX3_compare 57 = .ok (.aload_n 0, 1) := by decide +kernel
theorem dX3_compare_58 : decode cX3_compare 58 = .ok (.getfield 22, 3) := by decide +kernel
theorem dX3_compare_61 : decode cX3_compare 61 = .ok (.aload_n 0, 1) := by decide +kernel
theorem dX3_compare_62 : decode cX3_compare 62 = .ok (.getfield 70, 3) := by decide +kernel
theorem dX3_compare_65 : decode cX3_compare 65 = .ok (.aaload, 1) := by decide +kernel
theorem dX3_compare_66 : decode cX3_compare 66 = .ok (.iload 4, 2) := by decide +kernel
theorem dX3_compare_68 : decode cX3_compare 68 = .ok (.iaload, 1) := by decide +kernel
theorem dX3_compare_69 : decode cX3_compare 69 = .ok (.iconst (-1), 1) := by decide +kernel
theorem dX3_compare_70 : decode cX3_compare 70 = .ok (.if_icmp .ne 95, 3) := by decide +kernel
theorem dX3_compare_73 : decode cX3_compare 73 = .ok (.iload_n 2, 1) := by decide +kernel
theorem dX3_compare_74 : decode cX3_compare 74 = .ok (.aload_n 0, 1) := by decide +kernel
theorem dX3_compare_75 : decode cX3_compare 75 = .ok (.getfield 19, 3) := by decide +kernel
theorem dX3_compare_78 : decode cX3_compare 78 = .ok (.aload_n 0, 1) := by decide +kernel
theorem dX3_compare_79 : decode cX3_compare 79 = .ok (.getfield 70, 3) := by decide +kernel
theorem dX3_compare_82 : decode cX3_compare 82 = .ok (.aaload, 1) := by decide +kernel
theorem dX3_compare_83 : decode cX3_compare 83 = .ok (.iload 4, 2) := by decide +kernel
theorem dX3_compare_85 : decode cX3_compare 85 = .ok (.iaload, 1) := by decide +kernel
theorem dX3_compare_86 : decode cX3_compare 86 = .ok (.isub, 1) := by decide +kernel
theorem dX3_compare_87 : decode cX3_compare 87 = .ok (.istore 5, 2) := by decide +kernel
theorem dX3_compare_89 : decode cX3_compare 89 = .ok (.aload_n 0, 1) := by decide +kernel
theorem dX3_compare_90 : decode cX3_compare 90 = .ok (.getfield 82, 3) := by decide +kernel
theorem dX3_compare_93 : decode cX3_compare 93 = .ok (.iload 5, 2) := by decide +kernel
theorem dX3_compare_95 : decode cX3_compare 95 = .ok (.isub, 1) := by decide +kernel
theorem dX3_compare_96 : decode cX3_compare 96 = .ok (.istore 6, 2) := by decide +kernel
theorem dX3_compare_98 : decode cX3_compare 98 = .ok (.aload_n 0, 1) := by decide +kernel
theorem dX3_compare_99 : decode cX3_compare 99 = .ok (.getfield 48, 3) := by decide +kernel
theorem dX3_compare_102 : decode cX3_compare 102 = .ok (.iload 6, 2) := by decide +kernel
theorem dX3_compare_104 : decode cX3_compare 104 = .ok (.aload_n 0, 1) := by decide +kernel
theorem dX3_compare_105 : decode cX3_compare 105 = .ok (.getfield 35, 3) := by decide +kernel
theorem dX3_compare_108 : decode cX3_compare 108 = .ok (.iload 4, 2) := by decide +kernel
theorem dX3_compare_110 : decode cX3_compare 110 = .ok (.aload_n 0, 1) := by decide +kernel
theorem dX3_compare_111 : decode cX3_compare 111 = .ok (.getfield 79, 3) := by decide +kernel
theorem dX3_compare_114 : decode cX3_compare 114 = .ok (.invokevirtual 124, 3) := by decide +kernel
theorem dX3_compare_117 : decode cX3_compare 117 = .ok (.istore 7, 2) := by decide +kernel
theorem dX3_compare_119 : decode cX3_compare 119 = .ok (.aload_n 0, 1) := by decide +kernel
theorem dX3_compare_120 : decode cX3_compare 120 = .ok (.getfield 19, 3) := by decide +kernel
theorem dX3_compare_123 : decode cX3_compare 123 = .ok (.aload_n 0, 1) := by decide +kernel
theorem dX3_compare_124 : decode cX3_compare 124 = .ok (.getfield 70, 3) := by decide +kernel
theorem dX3_compare_127 : decode cX3_compare 127 = .ok (.aaload, 1) := by decide +kernel
theorem dX3_compare_128 : decode cX3_compare 128 = .ok (.iload 4, 2) := by decide +kernel
theorem dX3_compare_130 : decode cX3_compare 130 = .ok (.iload 7, 2) := by decide +kernel
theorem dX3_compare_132 : decode cX3_compare 132 = .ok (.iastore, 1) := by decide +kernel
theorem dX3_compare_133 : decode cX3_compare 133 = .ok (.iload 7, 2) := by decide +kernel
theorem dX3_compare_135 : decode cX3_compare 135 = .ok (.iload 6, 2) := by decide +kernel
theorem dX3_compare_137 : decode cX3_compare 137 = .ok (.if_icmp .ge 22, 3) := by decide +kernel
theorem dX3_compare_140 : decode cX3_compare 140 = .ok (.aload_n 0, 1) := by decide +kernel
theorem dX3_compare_141 : decode cX3_compare 141 = .ok (.getfield 22, 3) := by decide +kernel
theorem dX3_compare_144 : decode cX3_compare 144 = .ok (.aload_n 0, 1) := by decide +kernel
theorem dX3_compare_145 : decode cX3_compare 145 = .ok (.getfield 70, 3) := by decide +kernel
theorem dX3_compare_148 : decode cX3_compare 148 = .ok (.aaload, 1) := by decide +kernel
theorem dX3_compare_149 : decode cX3_compare 149 = .ok (.iload 4, 2) := by decide +kernel
theorem dX3_compare_151 : decode cX3_compare 151 = .ok (.aload_n 0, 1) := by decide +kernel
theorem dX3_compare_152 : decode cX3_compare 152 = .ok (.getfield 48, 3) := by decide +kernel
theorem dX3_compare_155 : decode cX3_compare 155 = .ok (.getfield 128, 3) := by decide +kernel
theorem dX3_compare_158 : decode cX3_compare 158 = .ok (.iastore, 1) := by decide +kernel
theorem dX3_compare_159 : decode cX3_compare 159 = .ok (.iload 5, 2) := by decide +kernel
theorem dX3_compare_161 : decode cX3_compare 161 = .ok (.iload 7, 2) := by decide +kernel
theorem dX3_compare_163 : decode cX3_compare 163 = .ok (.iadd, 1) := by decide +kernel
theorem dX3_compare_164 : decode cX3_compare 164 = .ok (.istore_n 2, 1) := by decide +kernel
theorem dX3_compare_165 : decode cX3_compare 165 = .ok (.iinc 3 1, 3) := by decide +kernel
theorem dX3_compare_168 : decode cX3_compare 168 = .ok (.goto (-132), 3) := by decide +kernel
theorem dX3_compare_171 : decode cX3_compare 171 = .ok (.iload_n 2, 1) := by decide +kernel
theorem dX3_compare_172 : decode cX3_compare 172 = .ok (.aload_n 0, 1) := by decide +kernel
theorem dX3_compare_173 : decode cX3_compare 173 = .ok (.getfield 82, 3) := by decide +kernel
theorem dX3_compare_176 : decode cX3_compare 176 = .ok (.if_icmp .ge 27, 3) := by decide +kernel
theorem dX3_compare_179 : decode cX3_compare 179 = .ok (.aload_n 0, 1) := by decide +kernel
theorem dX3_compare_180 : decode cX3_compare 180 = .ok (.iload_n 2, 1) := by decide +kernel
theorem dX3_compare_181 : decode cX3_compare 181 = .ok (.putfield 82, 3) := by decide +kernel
theorem dX3_compare_184 : decode cX3_compare 184 = .ok (.aload_n 0, 1) := by decide +kernel
theorem dX3_compare_185 : decode cX3_compare 185 = .ok (.iload_n 1, 1) := by decide +kernel
theorem dX3_compare_186 : decode cX3_compare 186 = .ok (.putfield 131, 3) := by decide +kernel
theorem dX3_compare_189 : decode cX3_compare 189 = .ok (.aload_n 0, 1) := by decide +kernel
theorem dX3_compare_190 : decode cX3_compare 190 = .ok (.getfield 25, 3) := by decide +kernel
theorem dX3_compare_193 : decode cX3_compare 193 = .ok (.iconst 0, 1) := by decide +kernel
theorem dX3_compare_194 : decode cX3_compare 194 = .ok (.aload_n 0, 1) := by decide +kernel
theorem dX3_compare_195 : decode cX3_compare 195 = .ok (.getfield 29, 3) := by decide +kernel
theorem dX3_compare_198 : decode cX3_compare 198 = .ok (.iconst 0, 1) := by decide +kernel
theorem dX3_compare_199 : decode cX3_compare 199 = .ok (.iconst 3, 1) := by decide +kernel
theorem dX3_compare_200 : decode cX3_compare 200 = .ok (.invokestatic 134, 3) := by decide +kernel
theorem dX3_compare_203 : decode cX3_compare 203 = .ok (.return_, 1) := by decide +kernel
theorem dX3_write_0 : decode cX3_write 0 = .ok (.aload_n 1, 1) := by decide +kernel
theorem dX3_write_1 : decode cX3_write 1 = .ok (.aload_n 0, 1) := by decide +kernel
theorem dX3_write_2 : decode cX3_write 2 = .ok (.getfield 82, 3) := by decide +kernel
theorem dX3_write_5 : decode cX3_write 5 = .ok (.putfield 140, 3) := by decide +kernel
theorem dX3_write_8 : decode cX3_write 8 = .ok (.aload_n 1, 1) := by decide +kernel
theorem dX3_write_9 : decode cX3_write 9 = .ok (.aload_n 0, 1) := by decide +kernel
theorem dX3_write_10 : decode cX3_write 10 = .ok (.getfield 131, 3) := by decide +kernel
theorem dX3_write_13 : decode cX3_write 13 = .ok (.putfield 143, 3) := by decide +kernel
theorem dX3_write_16 : decode cX3_write 16 = .ok (.aload_n 1, 1) := by decide +kernel
theorem dX3_write_17 : decode cX3_write 17 = .ok (.iconst 0, 1) := by decide +kernel
theorem dX3_write_18 : decode cX3_write 18 = .ok (.putfield 146, 3) := by decide +kernel
theorem dX3_write_21 : decode cX3_write 21 = .ok (.iconst 0, 1) := by decide +kernel
theorem dX3_write_22 : decode cX3_write 22 = .ok (.istore_n 2, 1) := by decide +kernel
theorem dX3_write_23 : decode cX3_write 23 = .ok (.iload_n 2, 1) := by decide +kernel
theorem dX3_write_24 : decode cX3_write 24 = .ok (.aload_n 0, 1) := by decide +kernel
theorem dX3_write_25 : decode cX3_write 25 = .ok (.getfield 131, 3) := by decide +kernel
theorem dX3_write_28 : decode cX3_write 28 = .ok (.if_icmp .ge 75, 3) := by decide +kernel
theorem dX3_write_31 : decode cX3_write 31 = .ok (.aload_n 0, 1) := by decide +kernel
theorem dX3_write_32 : decode cX3_write 32 = .ok (.getfield 29, 3) := by decide +kernel
theorem dX3_write_35 : decode cX3_write 35 = .ok (.iload_n 2, 1) := by decide +kernel
theorem dX3_write_36 : decode cX3_write 36 = .ok (.iaload, 1) := by decide +kernel
theorem dX3_write_37 : decode cX3_write 37 = .ok (.istore_n 3, 1) := by decide +kernel
theorem dX3_write_38 : decode cX3_write 38 = .ok (.iconst 0, 1) := by decide +kernel
theorem dX3_write_39 : decode cX3_write 39 = .ok (.istore 4, 2) := by decide +kernel
theorem dX3_write_41 : decode cX3_write 41 = .ok (.iload 4, 2) := by decide +kernel
theorem dX3_write_43 : decode cX3_write 43 = .ok (.bipush 7, 2) := by decide +kernel
theorem dX3_write_45 : decode cX3_write 45 = .ok (.if_icmp .ge 52, 3) := by decide +kernel
theorem dX3_write_48 : decode cX3_write 48 = .ok (.iload_n 3, 1) := by decide +kernel
theorem dX3_write_49 : decode cX3_write 49 = .ok (.iload 4, 2) := by decide +kernel
theorem dX3_write_51 : decode cX3_write 51 = .ok (.ishr, 1) := by decide +kernel
theorem dX3_write_52 : decode cX3_write 52 = .ok (.iconst 1, 1) := by decide +kernel
theorem dX3_write_53 : decode cX3_write 53 = .ok (.iand, 1) := by decide +kernel
theorem dX3_write_54 : decode cX3_write 54 = .ok (.ifCond .eq 37, 3) := by decide +kernel
theorem dX3_write_57 : decode cX3_write 57 = .ok (.aload_n 1, 1) := by decide +kernel
theorem dX3_write_58 : decode cX3_write 58 = .ok (.getfield 149, 3) := by decide +kernel
theorem dX3_write_61 : decode cX3_write 61 = .ok (.iload 4, 2) := by decide +kernel
theorem dX3_write_63 : decode cX3_write 63 = .ok (.iload_n 2, 1) := by decide +kernel
theorem dX3_write_64 : decode cX3_write 64 = .ok (.iastore, 1) := by decide +kernel
theorem dX3_write_65 : decode cX3_write 65 = .ok (.aload_n 1, 1) := by decide +kernel
theorem dX3_write_66 : decode cX3_write 66 = .ok (.getfield 151, 3) := by decide +kernel
theorem dX3_write_69 : decode cX3_write 69 = .ok (.iload 4, 2) := by decide +kernel
theorem dX3_write_71 : decode cX3_write 71 = .ok (.aload_n 0, 1) := by decide +kernel
theorem dX3_write_72 : decode cX3_write 72 = .ok (.getfield 22, 3) := by decide +kernel
theorem dX3_write_75 : decode cX3_write 75 = .ok (.aload_n 0, 1) := by decide +kernel
theorem dX3_write_76 : decode cX3_write 76 = .ok (.getfield 70, 3) := by decide +kernel
theorem dX3_write_79 : decode cX3_write 79 = .ok (.aaload, 1) := by decide +kernel
theorem dX3_write_80 : decode cX3_write 80 = .ok (.iload_n 3, 1) := by decide +kernel
theorem dX3_write_81 : decode cX3_write 81 = .ok (.iaload, 1) := by decide +kernel
theorem dX3_write_82 : decode cX3_write 82 = .ok (.iload 4, 2) := by decide +kernel
theorem dX3_write_84 : decode cX3_write 84 = .ok (.iconst 3, 1) := by decide +kernel
theorem dX3_write_85 : decode cX3_write 85 = .ok (.imul, 1) := by decide +kernel
theorem dX3_write_86 : decode cX3_write 86 = .ok (.ishr, 1) := by decide +kernel
theorem dX3_write_87 : decode cX3_write 87 = .ok (.bipush 7, 2) := by decide +kernel
theorem dX3_write_89 : decode cX3_write 89 = .ok (.iand, 1) := by decide +kernel
theorem dX3_write_90 : decode cX3_write 90 = .ok (.iastore, 1) := by decide +kernel
theorem dX3_write_91 : decode cX3_write 91 = .ok (.iinc 4 1, 3) := by decide +kernel
theorem dX3_write_94 : decode cX3_write 94 = .ok (.goto (-53), 3) := by decide +kernel
theorem dX3_write_97 : decode cX3_write 97 = .ok (.iinc 2 1, 3) := by decide +kernel
theorem dX3_write_100 : decode cX3_write 100 = .ok (.goto (-77), 3) := by decide +kernel
theorem dX3_write_103 : decode cX3_write 103 = .ok (.iconst 0, 1) := by decide +kernel
theorem dX3_write_104 : decode cX3_write 104 = .ok (.istore_n 2, 1) := by decide +kernel
theorem dX3_write_105 : decode cX3_write 105 = .ok (.iload_n 2, 1) := by decide +kernel
theorem dX3_write_106 : decode cX3_write 106 = .ok (.aload_n 0, 1) := by decide +kernel
theorem dX3_write_107 : decode cX3_write 107 = .ok (.getfield 131, 3) := by decide +kernel
theorem dX3_write_110 : decode cX3_write 110 = .ok (.if_icmp .ge 32, 3) := by decide +kernel
theorem dX3_write_113 : decode cX3_write 113 = .ok (.aload_n 1, 1) := by decide +kernel
theorem dX3_write_114 : decode cX3_write 114 = .ok (.dup, 1) := by decide +kernel
theorem dX3_write_115 : decode cX3_write 115 = .ok (.getfield 146, 3) := by decide +kernel
theorem dX3_write_118 : decode cX3_write 118 = .ok (.aload_n 0, 1) := by decide +kernel
theorem dX3_write_119 : decode cX3_write 119 = .ok (.aload_n 0, 1) := by decide +kernel
theorem dX3_write_120 : decode cX3_write 120 = .ok (.getfield 29, 3) := by decide +kernel
theorem dX3_write_123 : decode cX3_write 123 = .ok (.iload_n 2, 1) := by decide +kernel
theorem dX3_write_124 : decode cX3_write 124 = .ok (.iaload, 1) := by decide +kernel
theorem dX3_write_125 : decode cX3_write 125 = .ok (.aload_n 1, 1) := by decide +kernel
theorem dX3_write_126 : decode cX3_write 126 = .ok (.getfield 151, 3) := by decide +kernel
theorem dX3_write_129 : decode cX3_write 129 = .ok (.invokevirtual 154, 3) := by decide +kernel
theorem dX3_write_132 : decode cX3_write 132 = .ok (.ior, 1) := by decide +kernel
theorem dX3_write_133 : decode cX3_write 133 = .ok (.putfield 146, 3) := by decide +kernel
theorem dX3_write_136 : decode cX3_write 136 = .ok (.iinc 2 1, 3) := by decide +kernel
theorem dX3_write_139 : decode cX3_write 139 = .ok (.goto (-34), 3) := by decide +kernel
theorem dX3_write_142 : decode cX3_write 142 = .ok (.return_, 1) := by decide +kernel
theorem dX3_turnedIn_0 : decode cX3_turnedIn 0 = .ok (.aload_n 0, 1) := by decide +kernel
theorem dX3_turnedIn_1 : decode cX3_turnedIn 1 = .ok (.getfield 79, 3) := by decide +kernel
theorem dX3_turnedIn_4 : decode cX3_turnedIn 4 = .ok (.istore_n 3, 1) := by decide +kernel
theorem dX3_turnedIn_5 : decode cX3_turnedIn 5 = .ok (.iconst 0, 1) := by decide +kernel
theorem dX3_turnedIn_6 : decode cX3_turnedIn 6 = .ok (.istore 4, 2) := by decide +kernel
theorem dX3_turnedIn_8 : decode cX3_turnedIn 8 = .ok (.iconst 0, 1) := by decide +kernel
theorem dX3_turnedIn_9 : decode cX3_turnedIn 9 = .ok (.istore 5, 2) := by decide +kernel
theorem dX3_turnedIn_11 : decode cX3_turnedIn 11 = .ok (.iload 5, 2) := by decide +kernel
theorem dX3_turnedIn_13 : decode cX3_turnedIn 13 = .ok (.aload_n 0, 1) := by decide +kernel
theorem dX3_turnedIn_14 : decode cX3_turnedIn 14 = .ok (.getfield 35, 3) := by decide +kernel
theorem dX3_turnedIn_17 : decode cX3_turnedIn 17 = .ok (.getfield 158, 3) := by decide +kernel
theorem dX3_turnedIn_20 : decode cX3_turnedIn 20 = .ok (.if_icmp .ge 73, 3) := by decide +kernel
theorem dX3_turnedIn_23 : decode cX3_turnedIn 23 = .ok (.iconst 1, 1) := by decide +kernel
theorem dX3_turnedIn_24 : decode cX3_turnedIn 24 = .ok (.iload 5, 2) := by decide +kernel
theorem dX3_turnedIn_26 : decode cX3_turnedIn 26 = .ok (.ishl, 1) := by decide +kernel
theorem dX3_turnedIn_27 : decode cX3_turnedIn 27 = .ok (.istore 6, 2) := by decide +kernel
theorem dX3_turnedIn_29 : decode cX3_turnedIn 29 = .ok (.iload_n 3, 1) := by decide +kernel
theorem dX3_turnedIn_30 : decode cX3_turnedIn 30 = .ok (.iload 6, 2) := by decide +kernel
theorem dX3_turnedIn_32 : decode cX3_turnedIn 32 = .ok (.iand, 1) := by decide +kernel
theorem dX3_turnedIn_33 : decode cX3_turnedIn 33 = .ok (.ifCond .eq 54, 3) := by decide +kernel
theorem dX3_turnedIn_36 : decode cX3_turnedIn 36 = .ok (.iload_n 3, 1) := by decide +kernel
theorem dX3_turnedIn_37 : decode cX3_turnedIn 37 = .ok (.iload 6, 2) := by decide +kernel
theorem dX3_turnedIn_39 : decode cX3_turnedIn 39 = .ok (.iconst (-1), 1) := by decide +kernel
theorem dX3_turnedIn_40 : decode cX3_turnedIn 40 = .ok (.ixor, 1) := by decide +kernel
theorem dX3_turnedIn_41 : decode cX3_turnedIn 41 = .ok (.iand, 1) := by decide +kernel
theorem dX3_turnedIn_42 : decode cX3_turnedIn 42 = .ok (.istore_n 3, 1) := by decide +kernel
theorem dX3_turnedIn_43 : decode cX3_turnedIn 43 = .ok (.aload_n 0, 1) := by decide +kernel
theorem dX3_turnedIn_44 : decode cX3_turnedIn 44 = .ok (.getfield 39, 3) := by decide +kernel
theorem dX3_turnedIn_47 : decode cX3_turnedIn 47 = .ok (.aload_n 0, 1) := by decide +kernel
theorem dX3_turnedIn_48 : decode cX3_turnedIn 48 = .ok (.getfield 35, 3) := by decide +kernel
theorem dX3_turnedIn_51 : decode cX3_turnedIn 51 = .ok (.iload_n 1, 1) := by decide +kernel
theorem dX3_turnedIn_52 : decode cX3_turnedIn 52 = .ok (.iload_n 3, 1) := by decide +kernel
theorem dX3_turnedIn_53 : decode cX3_turnedIn 53 = .ok (.iload 4, 2) := by decide +kernel
theorem dX3_turnedIn_55 : decode cX3_turnedIn 55 = .ok (.invokevirtual 161, 3) := by decide +kernel
theorem dX3_turnedIn_58 : decode cX3_turnedIn 58 = .ok (.aload_n 0, 1) := by decide +kernel
theorem dX3_turnedIn_59 : decode cX3_turnedIn 59 = .ok (.getfield 39, 3) := by decide +kernel
theorem dX3_turnedIn_62 : decode cX3_turnedIn 62 = .ok (.aload_n 2, 1) := by decide +kernel
theorem dX3_turnedIn_63 : decode cX3_turnedIn 63 = .ok (.invokevirtual 167, 3) := by decide +kernel
theorem dX3_turnedIn_66 : decode cX3_turnedIn 66 = .ok (.aload_n 0, 1) := by decide +kernel
theorem dX3_turnedIn_67 : decode cX3_turnedIn 67 = .ok (.getfield 19, 3) := by decide +kernel
theorem dX3_turnedIn_70 : decode cX3_turnedIn 70 = .ok (.aload_n 0, 1) := by decide +kernel
theorem dX3_turnedIn_71 : decode cX3_turnedIn 71 = .ok (.getfield 70, 3) := by decide +kernel
theorem dX3_turnedIn_74 : decode cX3_turnedIn 74 = .ok (.aaload, 1) := by decide +kernel
theorem dX3_turnedIn_75 : decode cX3_turnedIn 75 = .ok (.iload_n 1, 1) := by decide +kernel
theorem dX3_turnedIn_76 : decode cX3_turnedIn 76 = .ok (.iaload, 1) := by decide +kernel
theorem dX3_turnedIn_77 : decode cX3_turnedIn 77 = .ok (.if_icmp .le 10, 3) := by decide +kernel
theorem dX3_turnedIn_80 : decode cX3_turnedIn 80 = .ok (.iload 4, 2) := by decide +kernel
theorem dX3_turnedIn_82 : decode cX3_turnedIn 82 = .ok (.iload 6, 2) := by decide +kernel
theorem dX3_turnedIn_84 : decode cX3_turnedIn 84 = .ok (.ior, 1) := by decide +kernel
theorem dX3_turnedIn_85 : decode cX3_turnedIn 85 = .ok (.istore 4, 2) := by decide +kernel
theorem dX3_turnedIn_87 : decode cX3_turnedIn 87 = .ok (.iinc 5 1, 3) := by decide +kernel
theorem dX3_turnedIn_90 : decode cX3_turnedIn 90 = .ok (.goto (-79), 3) := by decide +kernel
theorem dX3_turnedIn_93 : decode cX3_turnedIn 93 = .ok (.iload 4, 2) := by decide +kernel
theorem dX3_turnedIn_95 : decode cX3_turnedIn 95 = .ok (.ireturn, 1) := by decide +kernel
theorem dX4_init_0 : decode cX4_init 0 = .ok (.aload_n 0, 1) := by decide +kernel
theorem dX4_init_1 : decode cX4_init 1 = .ok (.invokespecial 3, 3) := by decide +kernel
theorem dX4_init_4 : decode cX4_init 4 = .ok (.aload_n 0, 1) := by decide +kernel
theorem dX4_init_5 : decode cX4_init 5 = .ok (.bipush 30, 2) := by decide +kernel
theorem dX4_init_7 : decode cX4_init 7 = .ok (.newarray .int, 2) := by decide +kernel
theorem dX4_init_9 : decode cX4_init 9 = .ok (.putfield 9, 3) := by decide +kernel
theorem dX4_init_12 : decode cX4_init 12 = .ok (.return_, 1) := by decide +kernel
theorem dX4_look_0 : decode cX4_look 0 = .ok (.aload_n 0, 1) := by decide +kernel
theorem dX4_look_1 : decode cX4_look 1 = .ok (.iconst 0, 1) := by decide +kernel
theorem dX4_look_2 : decode cX4_look 2 = .ok (.putfield 15, 3) := by decide +kernel
theorem dX4_look_5 : decode cX4_look 5 = .ok (.iconst 0, 1) := by decide +kernel
theorem dX4_look_6 : decode cX4_look 6 = .ok (.istore_n 3, 1) := by decide +kernel
theorem dX4_look_7 : decode cX4_look 7 = .ok (.iload_n 3, 1) := by decide +kernel
theorem dX4_look_8 : decode cX4_look 8 = .ok (.aload_n 1, 1) := by decide +kernel
theorem dX4_look_9 : decode cX4_look 9 = .ok (.getfield 19, 3) := by decide +kernel
theorem dX4_look_12 : decode cX4_look 12 = .ok (.if_icmp .ge 91, 3) := by decide +kernel
theorem dX4_look_15 : decode cX4_look 15 = .ok (.iload_n 2, 1) := by decide +kernel
theorem dX4_look_16 : decode cX4_look 16 = .ok (.iload_n 3, 1) := by decide +kernel
theorem dX4_look_17 : decode cX4_look 17 = .ok (.ishr, 1) := by decide +kernel
theorem dX4_look_18 : decode cX4_look 18 = .ok (.iconst 1, 1) := by decide +kernel
theorem dX4_look_19 : decode cX4_look 19 = .ok (.iand, 1) := by decide +kernel
theorem dX4_look_20 : decode cX4_look 20 = .ok (.ifCond .eq 7, 3) := by decide +kernel
theorem dX4_look_23 : decode cX4_look 23 = .ok (.iconst 1, 1) := by decide +kernel
theorem dX4_look_24 : decode cX4_look 24 = .ok (.goto 4, 3) := by decide +kernel
theorem dX4_look_27 : decode cX4_look 27 = .ok (.iconst 0, 1) := by decide +kernel
theorem dX4_look_28 : decode cX4_look 28 = .ok (.istore 4, 2) := by decide +kernel
theorem dX4_look_30 : decode cX4_look 30 = .ok (.aload_n 0, 1) := by decide +kernel
theorem dX4_look_31 : decode cX4_look 31 = .ok (.iload 4, 2) := by decide +kernel
theorem dX4_look_33 : decode cX4_look 33 = .ok (.ifCond .eq 12, 3) := by decide +kernel
theorem dX4_look_36 : decode cX4_look 36 = .ok (.aload_n 1, 1) := by decide +kernel
theorem dX4_look_37 : decode cX4_look 37 = .ok (.getfield 24, 3) := by decide +kernel
theorem dX4_look_40 : decode cX4_look 40 = .ok (.iload_n 3, 1) := by decide +kernel
theorem dX4_look_41 : decode cX4_look 41 = .ok (.iaload, 1) := by decide +kernel
theorem dX4_look_42 : decode cX4_look 42 = .ok (.goto 9, 3) := by decide +kernel
theorem dX4_look_45 : decode cX4_look 45 = .ok (.aload_n 1, 1) := by decide +kernel
theorem dX4_look_46 : decode cX4_look 46 = .ok (.getfield 27, 3) := by decide +kernel
theorem dX4_look_49 : decode cX4_look 49 = .ok (.iload_n 3, 1) := by decide +kernel
theorem dX4_look_50 : decode cX4_look 50 = .ok (.iaload, 1) := by decide +kernel
theorem dX4_look_51 : decode cX4_look 51 = .ok (.invokevirtual 30, 3) := by decide +kernel
theorem dX4_look_54 : decode cX4_look 54 = .ok (.aload_n 1, 1) := by decide +kernel
theorem dX4_look_55 : decode cX4_look 55 = .ok (.getfield 34, 3) := by decide +kernel
theorem dX4_look_58 : decode cX4_look 58 = .ok (.iload_n 3, 1) := by decide +kernel
theorem dX4_look_59 : decode cX4_look 59 = .ok (.iaload, 1) := by decide +kernel
theorem dX4_look_60 : decode cX4_look 60 = .ok (.ifCond .eq 27, 3) := by decide +kernel
theorem dX4_look_63 : decode cX4_look 63 = .ok (.aload_n 0, 1) := by decide +kernel
theorem dX4_look_64 : decode cX4_look 64 = .ok (.iload 4, 2) := by decide +kernel
theorem dX4_look_66 : decode cX4_look 66 = .ok (.ifCond .eq 12, 3) := by decide +kernel
theorem dX4_look_69 : decode cX4_look 69 = .ok (.aload_n 1, 1) := by decide +kernel
theorem dX4_look_70 : decode cX4_look 70 = .ok (.getfield 27, 3) := by decide +kernel
theorem dX4_look_73 : decode cX4_look 73 = .ok (.iload_n 3, 1) := by decide +kernel
theorem dX4_look_74 : decode cX4_look 74 = .ok (.iaload, 1) := by decide +kernel
theorem dX4_look_75 : decode cX4_look 75 = .ok (.goto 9, 3) := by decide +kernel
theorem dX4_look_78 : decode cX4_look 78 = .ok (.aload_n 1, 1) := by decide +kernel
theorem dX4_look_79 : decode cX4_look 79 = .ok (.getfield 24, 3) := by decide +kernel
theorem dX4_look_82 : decode cX4_look 82 = .ok (.iload_n 3, 1) := by decide +kernel
theorem dX4_look_83 : decode cX4_look 83 = .ok (.iaload, 1) := by decide +kernel
theorem dX4_look_84 : decode cX4_look 84 = .ok (.invokevirtual 30, 3) := by decide +kernel
theorem dX4_look_87 : decode cX4_look 87 = .ok (.aload_n 0, 1) := by decide +kernel
theorem dX4_look_88 : decode cX4_look 88 = .ok (.aload_n 1, 1) := by decide +kernel
theorem dX4_look_89 : decode cX4_look 89 = .ok (.getfield 37, 3) := by decide +kernel
theorem dX4_look_92 : decode cX4_look 92 = .ok (.iload_n 3, 1) := by decide +kernel
theorem dX4_look_93 : decode cX4_look 93 = .ok (.iaload, 1) := by decide +kernel
theorem dX4_look_94 : decode cX4_look 94 = .ok (.invokevirtual 30, 3) := by decide +kernel
theorem dX4_look_97 : decode cX4_look 97 = .ok (.iinc 3 1, 3) := by decide +kernel
theorem dX4_look_100 : decode cX4_look 100 = .ok (.goto (-93), 3) := by decide +kernel
theorem dX4_look_103 : decode cX4_look 103 = .ok (.return_, 1) := by decide +kernel
theorem dX4_has_0 : decode cX4_has 0 = .ok (.iload_n 1, 1) := by decide +kernel
theorem dX4_has_1 : decode cX4_has 1 = .ok (.ifCond .lt 15, 3) := by decide +kernel
theorem dX4_has_4 : decode cX4_has 4 = .ok (.iload_n 1, 1) := by decide +kernel
theorem dX4_has_5 : decode cX4_has 5 = .ok (.aload_n 0, 1) := by decide +kernel
theorem dX4_has_6 : decode cX4_has 6 = .ok (.getfield 15, 3) := by decide +kernel
theorem dX4_has_9 : decode cX4_has 9 = .ok (.if_icmp .ge 7, 3) := by decide +kernel
theorem dX4_has_12 : decode cX4_has 12 = .ok (.iconst 1, 1) := by decide +kernel
theorem dX4_has_13 : decode cX4_has 13 = .ok (.goto 4, 3) := by decide +kernel
theorem dX4_has_16 : decode cX4_has 16 = .ok (.iconst 0, 1) := by decide +kernel
theorem dX4_has_17 : decode cX4_has 17 = .ok (.ireturn, 1) := by decide +kernel
theorem dX4_before_0 : decode cX4_before 0 = .ok (.aload_n 2, 1) := by decide +kernel
theorem dX4_before_1 : decode cX4_before 1 = .ok (.aload_n 0, 1) := by decide +kernel
theorem dX4_before_2 : decode cX4_before 2 = .ok (.getfield 9, 3) := by decide +kernel
theorem dX4_before_5 : decode cX4_before 5 = .ok (.iload_n 1, 1) := by decide +kernel
theorem dX4_before_6 : decode cX4_before 6 = .ok (.iaload, 1) := by decide +kernel
theorem dX4_before_7 : decode cX4_before 7 = .ok (.iaload, 1) := by decide +kernel
theorem dX4_before_8 : decode cX4_before 8 = .ok (.istore_n 3, 1) := by decide +kernel
theorem dX4_before_9 : decode cX4_before 9 = .ok (.iload_n 1, 1) := by decide +kernel
theorem dX4_before_10 : decode cX4_before 10 = .ok (.iconst 1, 1) := by decide +kernel
theorem dX4_before_11 : decode cX4_before 11 = .ok (.isub, 1) := by decide +kernel
theorem dX4_before_12 : decode cX4_before 12 = .ok (.istore 4, 2) := by decide +kernel
theorem dX4_before_14 : decode cX4_before 14 = .ok (.iload 4, 2) := by decide +kernel
theorem dX4_before_16 : decode cX4_before 16 = .ok (.ifCond .lt 30, 3) := by decide +kernel
theorem dX4_before_19 : decode cX4_before 19 = .ok (.aload_n 2, 1) := by decide +kernel
theorem dX4_before_20 : decode cX4_before 20 = .ok (.aload_n 0, 1) := by decide +kernel
theorem dX4_before_21 : decode cX4_before 21 = .ok (.getfield 9, 3) := by decide +kernel
theorem dX4_before_24 : decode cX4_before 24 = .ok (.iload 4, 2) := by decide +kernel
theorem dX4_before_26 : decode cX4_before 26 = .ok (.iaload, 1) := by decide +kernel
theorem dX4_before_27 : decode cX4_before 27 = .ok (.iaload, 1) := by decide +kernel
theorem dX4_before_28 : decode cX4_before 28 = .ok (.iload_n 3, 1) := by decide +kernel
theorem dX4_before_29 : decode cX4_before 29 = .ok (.if_icmp .ne 11, 3) := by decide +kernel
theorem dX4_before_32 : decode cX4_before 32 = .ok (.aload_n 0, 1) := by decide +kernel
theorem dX4_before_33 : decode cX4_before 33 = .ok (.getfield 9, 3) := by decide +kernel
theorem dX4_before_36 : decode cX4_before 36 = .ok (.iload 4, 2) := by decide +kernel
theorem dX4_before_38 : decode cX4_before 38 = .ok (.iaload, 1) := by decide +kernel
theorem dX4_before_39 : decode cX4_before 39 = .ok (.ireturn, 1) := by decide +kernel
theorem dX4_before_40 : decode cX4_before 40 = .ok (.iinc 4 (-1), 3) := by decide +kernel
theorem dX4_before_43 : decode cX4_before 43 = .ok (.goto (-29), 3) := by decide +kernel
theorem dX4_before_46 : decode cX4_before 46 = .ok (.iconst (-1), 1) := by decide +kernel
theorem dX4_before_47 : decode cX4_before 47 = .ok (.ireturn, 1) := by decide +kernel
theorem dX4_add_0 : decode cX4_add 0 = .ok (.aload_n 0, 1) := by decide +kernel
theorem dX4_add_1 : decode cX4_add 1 = .ok (.getfield 9, 3) := by decide +kernel
theorem dX4_add_4 : decode cX4_add 4 = .ok (.aload_n 0, 1) := by decide +kernel
theorem dX4_add_5 : decode cX4_add 5 = .ok (.getfield 15, 3) := by decide +kernel
theorem dX4_add_8 : decode cX4_add 8 = .ok (.iload_n 1, 1) := by decide +kernel
theorem dX4_add_9 : decode cX4_add 9 = .ok (.iastore, 1) := by decide +kernel
theorem dX4_add_10 : decode cX4_add 10 = .ok (.aload_n 0, 1) := by decide +kernel
theorem dX4_add_11 : decode cX4_add 11 = .ok (.dup, 1) := by decide +kernel
theorem dX4_add_12 : decode cX4_add 12 = .ok (.getfield 15, 3) := by decide +kernel
theorem dX4_add_15 : decode cX4_add 15 = .ok (.iconst 1, 1) := by decide +kernel
theorem dX4_add_16 : decode cX4_add 16 = .ok (.iadd, 1) := by decide +kernel
theorem dX4_add_17 : decode cX4_add 17 = .ok (.putfield 15, 3) := by decide +kernel
theorem dX4_add_20 : decode cX4_add 20 = .ok (.return_, 1) := by decide +kernel
theorem dX5_init_0 : decode cX5_init 0 = .ok (.aload_n 0, 1) := by decide +kernel
theorem dX5_init_1 : decode cX5_init 1 = .ok (.invokespecial 3, 3) := by decide +kernel
theorem dX5_init_4 : decode cX5_init 4 = .ok (.aload_n 0, 1) := by decide +kernel
theorem dX5_init_5 : decode cX5_init 5 = .ok (.bipush 10, 2) := by decide +kernel
theorem dX5_init_7 : decode cX5_init 7 = .ok (.newarray .int, 2) := by decide +kernel
theorem dX5_init_9 : decode cX5_init 9 = .ok (.putfield 9, 3) := by decide +kernel
theorem dX5_init_12 : decode cX5_init 12 = .ok (.aload_n 0, 1) := by decide +kernel
theorem dX5_init_13 : decode cX5_init 13 = .ok (.bipush 10, 2) := by decide +kernel
theorem dX5_init_15 : decode cX5_init 15 = .ok (.newarray .int, 2) := by decide +kernel
theorem dX5_init_17 : decode cX5_init 17 = .ok (.putfield 15, 3) := by decide +kernel
theorem dX5_init_20 : decode cX5_init 20 = .ok (.aload_n 0, 1) := by decide +kernel
theorem dX5_init_21 : decode cX5_init 21 = .ok (.bipush 10, 2) := by decide +kernel
theorem dX5_init_23 : decode cX5_init 23 = .ok (.newarray .int, 2) := by decide +kernel
theorem dX5_init_25 : decode cX5_init 25 = .ok (.putfield 18, 3) := by decide +kernel
theorem dX5_init_28 : decode cX5_init 28 = .ok (.aload_n 0, 1) := by decide +kernel
theorem dX5_init_29 : decode cX5_init 29 = .ok (.bipush 10, 2) := by decide +kernel
theorem dX5_init_31 : decode cX5_init 31 = .ok (.newarray .int, 2) := by decide +kernel
theorem dX5_init_33 : decode cX5_init 33 = .ok (.putfield 21, 3) := by decide +kernel
theorem dX5_init_36 : decode cX5_init 36 = .ok (.aload_n 0, 1) := by decide +kernel
theorem dX5_init_37 : decode cX5_init 37 = .ok (.iconst 2, 1) := by decide +kernel
theorem dX5_init_38 : decode cX5_init 38 = .ok (.putfield 24, 3) := by decide +kernel
theorem dX5_init_41 : decode cX5_init 41 = .ok (.aload_n 0, 1) := by decide +kernel
theorem dX5_init_42 : decode cX5_init 42 = .ok (.bipush 7, 2) := by decide +kernel
theorem dX5_init_44 : decode cX5_init 44 = .ok (.newarray .int, 2) := by decide +kernel
theorem dX5_init_46 : decode cX5_init 46 = .ok (.putfield 28, 3) := by decide +kernel
theorem dX5_init_49 : decode cX5_init 49 = .ok (.aload_n 0, 1) := by decide +kernel
theorem dX5_init_50 : decode cX5_init 50 = .ok (.bipush 7, 2) := by decide +kernel
theorem dX5_init_52 : decode cX5_init 52 = .ok (.newarray .int, 2) := by decide +kernel
theorem dX5_init_54 : decode cX5_init 54 = .ok (.putfield 31, 3) := by decide +kernel
theorem dX5_init_57 : decode cX5_init 57 = .ok (.iconst 0, 1) := by decide +kernel
theorem dX5_init_58 : decode cX5_init 58 = .ok (.istore_n 1, 1) := by decide +kernel
theorem dX5_init_59 : decode cX5_init 59 = .ok (.iload_n 1, 1) := by decide +kernel
theorem dX5_init_60 : decode cX5_init 60 = .ok (.bipush 7, 2) := by decide +kernel
theorem dX5_init_62 : decode cX5_init 62 = .ok (.if_icmp .ge 16, 3) := by decide +kernel
theorem dX5_init_65 : decode cX5_init 65 = .ok (.aload_n 0, 1) := by decide +kernel
theorem dX5_init_66 : decode cX5_init 66 = .ok (.getfield 31, 3) := by decide +kernel
theorem dX5_init_69 : decode cX5_init 69 = .ok (.iload_n 1, 1) := by decide +kernel
theorem dX5_init_70 : decode cX5_init 70 = .ok (.iload_n 1, 1) := by decide +kernel
theorem dX5_init_71 : decode cX5_init 71 = .ok (.iastore, 1) := by decide +kernel
theorem dX5_init_72 : decode cX5_init 72 = .ok (.iinc 1 1, 3) := by decide +kernel
theorem dX5_init_75 : decode cX5_init 75 = .ok (.goto (-16), 3) := by decide +kernel
theorem dX5_init_78 : decode cX5_init 78 = .ok (.return_, 1) := by decide +kernel
theorem dX5_has_0 : decode cX5_has 0 = .ok (.iload_n 1, 1) := by decide +kernel
theorem dX5_has_1 : decode cX5_has 1 = .ok (.ifCond .lt 15, 3) := by decide +kernel
theorem dX5_has_4 : decode cX5_has 4 = .ok (.iload_n 1, 1) := by decide +kernel
theorem dX5_has_5 : decode cX5_has 5 = .ok (.aload_n 0, 1) := by decide +kernel
theorem dX5_has_6 : decode cX5_has 6 = .ok (.getfield 34, 3) := by decide +kernel
theorem dX5_has_9 : decode cX5_has 9 = .ok (.if_icmp .ge 7, 3) := by decide +kernel
theorem dX5_has_12 : decode cX5_has 12 = .ok (.iconst 1, 1) := by decide +kernel
theorem dX5_has_13 : decode cX5_has 13 = .ok (.goto 4, 3) := by decide +kernel
theorem dX5_has_16 : decode cX5_has 16 = .ok (.iconst 0, 1) := by decide +kernel
theorem dX5_has_17 : decode cX5_has 17 = .ok (.ireturn, 1) := by decide +kernel
theorem dX5_append_0 : decode cX5_append 0 = .ok (.aload_n 0, 1) := by decide +kernel
theorem dX5_append_1 : decode cX5_append 1 = .ok (.getfield 9, 3) := by decide +kernel
theorem dX5_append_4 : decode cX5_append 4 = .ok (.aload_n 0, 1) := by decide +kernel
theorem dX5_append_5 : decode cX5_append 5 = .ok (.getfield 34, 3) := by decide +kernel
theorem dX5_append_8 : decode cX5_append 8 = .ok (.iload_n 1, 1) := by decide +kernel
theorem dX5_append_9 : decode cX5_append 9 = .ok (.iastore, 1) := by decide +kernel
theorem dX5_append_10 : decode cX5_append 10 = .ok (.aload_n 0, 1) := by decide +kernel
theorem dX5_append_11 : decode cX5_append 11 = .ok (.getfield 15, 3) := by decide +kernel
theorem dX5_append_14 : decode cX5_append 14 = .ok (.aload_n 0, 1) := by decide +kernel
theorem dX5_append_15 : decode cX5_append 15 = .ok (.getfield 34, 3) := by decide +kernel
theorem dX5_append_18 : decode cX5_append 18 = .ok (.iload_n 2, 1) := by decide +kernel
theorem dX5_append_19 : decode cX5_append 19 = .ok (.iastore, 1) := by decide +kernel
theorem dX5_append_20 : decode cX5_append 20 = .ok (.aload_n 0, 1) := by decide +kernel
theorem dX5_append_21 : decode cX5_append 21 = .ok (.getfield 18, 3) := by decide +kernel
theorem dX5_append_24 : decode cX5_append 24 = .ok (.aload_n 0, 1) := by decide +kernel
theorem dX5_append_25 : decode cX5_append 25 = .ok (.getfield 34, 3) := by decide +kernel
theorem dX5_append_28 : decode cX5_append 28 = .ok (.iload_n 3, 1) := by decide +kernel
theorem dX5_append_29 : decode cX5_append 29 = .ok (.iastore, 1) := by decide +kernel
theorem dX5_append_30 : decode cX5_append 30 = .ok (.aload_n 0, 1) := by decide +kernel
theorem dX5_append_31 : decode cX5_append 31 = .ok (.getfield 21, 3) := by decide +kernel
theorem dX5_append_34 : decode cX5_append 34 = .ok (.aload_n 0, 1) := by decide +kernel
theorem dX5_append_35 : decode cX5_append 35 = .ok (.getfield 34, 3) := by decide +kernel
theorem dX5_append_38 : decode cX5_append 38 = .ok (.iload 4, 2) := by decide +kernel
theorem dX5_append_40 : decode cX5_append 40 = .ok (.iastore, 1) := by decide +kernel
theorem dX5_append_41 : decode cX5_append 41 = .ok (.aload_n 0, 1) := by decide +kernel
theorem dX5_append_42 : decode cX5_append 42 = .ok (.dup, 1) := by decide +kernel
theorem dX5_append_43 : decode cX5_append 43 = .ok (.getfield 34, 3) := by decide +kernel
theorem dX5_append_46 : decode cX5_append 46 = .ok (.iconst 1, 1) := by decide +kernel
theorem dX5_append_47 : decode cX5_append 47 = .ok (.iadd, 1) := by decide +kernel
theorem dX5_append_48 : decode cX5_append 48 = .ok (.putfield 34, 3) := by decide +kernel
theorem dX5_append_51 : decode cX5_append 51 = .ok (.return_, 1) := by decide +kernel
theorem dX5_remove_0 : decode cX5_remove 0 = .ok (.aload_n 0, 1) := by decide +kernel
theorem dX5_remove_1 : decode cX5_remove 1 = .ok (.dup, 1) := by decide +kernel
theorem dX5_remove_2 : decode cX5_remove 2 = .ok (.getfield 34, 3) := by decide +kernel
theorem dX5_remove_5 : decode cX5_remove 5 = .ok (.iconst 1, 1) := by decide +kernel
theorem dX5_remove_6 : decode cX5_remove 6 = .ok (.isub, 1) := by decide +kernel
theorem dX5_remove_7 : decode cX5_remove 7 = .ok (.putfield 34, 3) := by decide +kernel
theorem dX5_remove_10 : decode cX5_remove 10 = .ok (.aload_n 0, 1) := by decide +kernel
theorem dX5_remove_11 : decode cX5_remove 11 = .ok (.getfield 34, 3) := by decide +kernel
theorem dX5_remove_14 : decode cX5_remove 14 = .ok (.iload_n 1, 1) := by decide +kernel
theorem dX5_remove_15 : decode cX5_remove 15 = .ok (.isub, 1) := by decide +kernel
theorem dX5_remove_16 : decode cX5_remove 16 = .ok (.istore_n 2, 1) := by decide +kernel
theorem dX5_remove_17 : decode cX5_remove 17 = .ok (.aload_n 0, 1) := by decide +kernel
theorem dX5_remove_18 : decode cX5_remove 18 = .ok (.getfield 9, 3) := by decide +kernel
theorem dX5_remove_21 : decode cX5_remove 21 = .ok (.iload_n 1, 1) := by decide +kernel
theorem dX5_remove_22 : decode cX5_remove 22 = .ok (.iconst 1, 1) := by decide +kernel
theorem dX5_remove_23 : decode cX5_remove 23 = .ok (.iadd, 1) := by decide +kernel
theorem dX5_remove_24 : decode cX5_remove 24 = .ok (.aload_n 0, 1) := by decide +kernel
theorem dX5_remove_25 : decode cX5_remove 25 = .ok (.getfield 9, 3) := by decide +kernel
theorem dX5_remove_28 : decode cX5_remove 28 = .ok (.iload_n 1, 1) := by decide +kernel
theorem dX5_remove_29 : decode cX5_remove 29 = .ok (.iload_n 2, 1) := by decide +kernel
theorem dX5_remove_30 : decode cX5_remove 30 = .ok (.invokestatic 37, 3) := by decide +kernel
theorem dX5_remove_33 : decode cX5_remove 33 = .ok (.aload_n 0, 1) := by decide +kernel
theorem dX5_remove_34 : decode cX5_remove 34 = .ok (.getfield 15, 3) := by decide +kernel
theorem dX5_remove_37 : decode cX5_remove 37 = .ok (.iload_n 1, 1) := by decide +kernel
theorem dX5_remove_38 : decode cX5_remove 38 = .ok (.iconst 1, 1) := by decide +kernel
theorem dX5_remove_39 : decode cX5_remove 39 = .ok (.iadd, 1) := by decide +kernel
theorem dX5_remove_40 : decode cX5_remove 40 = .ok (.aload_n 0, 1) := by decide +kernel
theorem dX5_remove_41 : decode cX5_remove 41 = .ok (.getfield 15, 3) := by decide +kernel
theorem dX5_remove_44 : decode cX5_remove 44 = .ok (.iload_n 1, 1) := by decide +kernel
theorem dX5_remove_45 : decode cX5_remove 45 = .ok (.iload_n 2, 1) := by decide +kernel
theorem dX5_remove_46 : decode cX5_remove 46 = .ok (.invokestatic 37, 3) := by decide +kernel
theorem dX5_remove_49 : decode cX5_remove 49 = .ok (.aload_n 0, 1) := by decide +kernel
theorem dX5_remove_50 : decode cX5_remove 50 = .ok (.getfield 18, 3) := by decide +kernel
theorem dX5_remove_53 : decode cX5_remove 53 = .ok (.iload_n 1, 1) := by decide +kernel
theorem dX5_remove_54 : decode cX5_remove 54 = .ok (.iconst 1, 1) := by decide +kernel
theorem dX5_remove_55 : decode cX5_remove 55 = .ok (.iadd, 1) := by decide +kernel
theorem dX5_remove_56 : decode cX5_remove 56 = .ok (.aload_n 0, 1) := by decide +kernel
theorem dX5_remove_57 : decode cX5_remove 57 = .ok (.getfield 18, 3) := by decide +kernel
theorem dX5_remove_60 : decode cX5_remove 60 = .ok (.iload_n 1, 1) := by decide +kernel
theorem dX5_remove_61 : decode cX5_remove 61 = .ok (.iload_n 2, 1) := by decide +kernel
theorem dX5_remove_62 : decode cX5_remove 62 = .ok (.invokestatic 37, 3) := by decide +kernel
theorem dX5_remove_65 : decode cX5_remove 65 = .ok (.aload_n 0, 1) := by decide +kernel
theorem dX5_remove_66 : decode cX5_remove 66 = .ok (.getfield 21, 3) := by decide +kernel
theorem dX5_remove_69 : decode cX5_remove 69 = .ok (.iload_n 1, 1) := by decide +kernel
theorem dX5_remove_70 : decode cX5_remove 70 = .ok (.iconst 1, 1) := by decide +kernel
theorem dX5_remove_71 : decode cX5_remove 71 = .ok (.iadd, 1) := by decide +kernel
theorem dX5_remove_72 : decode cX5_remove 72 = .ok (.aload_n 0, 1) := by decide +kernel
theorem dX5_remove_73 : decode cX5_remove 73 = .ok (.getfield 21, 3) := by decide +kernel
theorem dX5_remove_76 : decode cX5_remove 76 = .ok (.iload_n 1, 1) := by decide +kernel
theorem dX5_remove_77 : decode cX5_remove 77 = .ok (.iload_n 2, 1) := by decide +kernel
theorem dX5_remove_78 : decode cX5_remove 78 = .ok (.invokestatic 37, 3) := by decide +kernel
theorem dX5_remove_81 : decode cX5_remove 81 = .ok (.return_, 1) := by decide +kernel
theorem dX5_copyFrom_0 : decode cX5_copyFrom 0 = .ok (.aload_n 0, 1) := by decide +kernel
theorem dX5_copyFrom_1 : decode cX5_copyFrom 1 = .ok (.aload_n 1, 1) := by decide +kernel
theorem dX5_copyFrom_2 : decode cX5_copyFrom 2 = .ok (.getfield 34, 3) := by decide +kernel
theorem dX5_copyFrom_5 : decode cX5_copyFrom 5 = .ok (.putfield 34, 3) := by decide +kernel
theorem dX5_copyFrom_8 : decode cX5_copyFrom 8 = .ok (.aload_n 1, 1) := by decide +kernel
theorem dX5_copyFrom_9 : decode cX5_copyFrom 9 = .ok (.getfield 9, 3) := by decide +kernel
theorem dX5_copyFrom_12 : decode cX5_copyFrom 12 = .ok (.iconst 0, 1) := by decide +kernel
theorem dX5_copyFrom_13 : decode cX5_copyFrom 13 = .ok (.aload_n 0, 1) := by decide +kernel
theorem dX5_copyFrom_14 : decode cX5_copyFrom 14 = .ok (.getfield 9, 3) := by decide +kernel
theorem dX5_copyFrom_17 : decode cX5_copyFrom 17 = .ok (.iconst 0, 1) := by decide +kernel
theorem dX5_copyFrom_18 : decode cX5_copyFrom 18 = .ok (.bipush 10, 2) := by decide +kernel
theorem dX5_copyFrom_20 : decode cX5_copyFrom 20 = .ok (.invokestatic 37, 3) := by decide +kernel
theorem dX5_copyFrom_23 : decode cX5_copyFrom 23 = .ok (.aload_n 1, 1) := by decide +kernel
theorem dX5_copyFrom_24 : decode cX5_copyFrom 24 = .ok (.getfield 15, 3) := by decide +kernel
theorem dX5_copyFrom_27 : decode cX5_copyFrom 27 = .ok (.iconst 0, 1) := by decide +kernel
theorem dX5_copyFrom_28 : decode cX5_copyFrom 28 = .ok (.aload_n 0, 1) := by decide +kernel
theorem dX5_copyFrom_29 : decode cX5_copyFrom 29 = .ok (.getfield 15, 3) := by decide +kernel
theorem dX5_copyFrom_32 : decode cX5_copyFrom 32 = .ok (.iconst 0, 1) := by decide +kernel
theorem dX5_copyFrom_33 : decode cX5_copyFrom 33 = .ok (.bipush 10, 2) := by decide +kernel
theorem dX5_copyFrom_35 : decode cX5_copyFrom 35 = .ok (.invokestatic 37, 3) := by decide +kernel
theorem dX5_copyFrom_38 : decode cX5_copyFrom 38 = .ok (.aload_n 1, 1) := by decide +kernel
theorem dX5_copyFrom_39 : decode cX5_copyFrom 39 = .ok (.getfield 18, 3) := by decide +kernel
theorem dX5_copyFrom_42 : decode cX5_copyFrom 42 = .ok (.iconst 0, 1) := by decide +kernel
theorem dX5_copyFrom_43 : decode cX5_copyFrom 43 = .ok (.aload_n 0, 1) := by decide +kernel
theorem dX5_copyFrom_44 : decode cX5_copyFrom 44 = .ok (.getfield 18, 3) := by decide +kernel
theorem dX5_copyFrom_47 : decode cX5_copyFrom 47 = .ok (.iconst 0, 1) := by decide +kernel
theorem dX5_copyFrom_48 : decode cX5_copyFrom 48 = .ok (.bipush 10, 2) := by decide +kernel
theorem dX5_copyFrom_50 : decode cX5_copyFrom 50 = .ok (.invokestatic 37, 3) := by decide +kernel
theorem dX5_copyFrom_53 : decode cX5_copyFrom 53 = .ok (.aload_n 1, 1) := by decide +kernel
theorem dX5_copyFrom_54 : decode cX5_copyFrom 54 = .ok (.getfield 21, 3) := by decide +kernel
theorem dX5_copyFrom_57 : decode cX5_copyFrom 57 = .ok (.iconst 0, 1) := by decide +kernel
theorem dX5_copyFrom_58 : decode cX5_copyFrom 58 = .ok (.aload_n 0, 1) := by decide +kernel
theorem dX5_copyFrom_59 : decode cX5_copyFrom 59 = .ok (.getfield 21, 3) := by decide +kernel
theorem dX5_copyFrom_62 : decode cX5_copyFrom 62 = .ok (.iconst 0, 1) := by decide +kernel
theorem dX5_copyFrom_63 : decode cX5_copyFrom 63 = .ok (.bipush 10, 2) := by decide +kernel
theorem dX5_copyFrom_65 : decode cX5_copyFrom 65 = .ok (.invokestatic 37, 3) := by decide +kernel
theorem dX5_copyFrom_68 : decode cX5_copyFrom 68 = .ok (.aload_n 0, 1) := by decide +kernel
theorem dX5_copyFrom_69 : decode cX5_copyFrom 69 = .ok (.aload_n 1, 1) := by decide +kernel
theorem dX5_copyFrom_70 : decode cX5_copyFrom 70 = .ok (.getfield 24, 3) := by decide +kernel
theorem dX5_copyFrom_73 : decode cX5_copyFrom 73 = .ok (.putfield 24, 3) := by decide +kernel
theorem dX5_copyFrom_76 : decode cX5_copyFrom 76 = .ok (.aload_n 1, 1) := by decide +kernel
theorem dX5_copyFrom_77 : decode cX5_copyFrom 77 = .ok (.getfield 28, 3) := by decide +kernel
theorem dX5_copyFrom_80 : decode cX5_copyFrom 80 = .ok (.iconst 0, 1) := by decide +kernel
theorem dX5_copyFrom_81 : decode cX5_copyFrom 81 = .ok (.aload_n 0, 1) := by decide +kernel
theorem dX5_copyFrom_82 : decode cX5_copyFrom 82 = .ok (.getfield 28, 3) := by decide +kernel
theorem dX5_copyFrom_85 : decode cX5_copyFrom 85 = .ok (.iconst 0, 1) := by decide +kernel
theorem dX5_copyFrom_86 : decode cX5_copyFrom 86 = .ok (.bipush 7, 2) := by decide +kernel
theorem dX5_copyFrom_88 : decode cX5_copyFrom 88 = .ok (.invokestatic 37, 3) := by decide +kernel
theorem dX5_copyFrom_91 : decode cX5_copyFrom 91 = .ok (.aload_n 1, 1) := by decide +kernel
theorem dX5_copyFrom_92 : decode cX5_copyFrom 92 = .ok (.getfield 31, 3) := by decide +kernel
theorem dX5_copyFrom_95 : decode cX5_copyFrom 95 = .ok (.iconst 0, 1) := by decide +kernel
theorem dX5_copyFrom_96 : decode cX5_copyFrom 96 = .ok (.aload_n 0, 1) := by decide +kernel
theorem dX5_copyFrom_97 : decode cX5_copyFrom 97 = .ok (.getfield 31, 3) := by decide +kernel
theorem dX5_copyFrom_100 : decode cX5_copyFrom 100 = .ok (.iconst 0, 1) := by decide +kernel
theorem dX5_copyFrom_101 : decode cX5_copyFrom 101 = .ok (.bipush 7, 2) := by decide +kernel
theorem dX5_copyFrom_103 : decode cX5_copyFrom 103 = .ok (.invokestatic 37, 3) := by decide +kernel
theorem dX5_copyFrom_106 : decode cX5_copyFrom 106 = .ok (.return_, 1) := by decide +kernel
theorem dX5_usedSet_0 : decode cX5_usedSet 0 = .ok (.iconst 0, 1) := by decide +kernel
theorem dX5_usedSet_1 : decode cX5_usedSet 1 = .ok (.istore_n 1, 1) := by decide +kernel
theorem dX5_usedSet_2 : decode cX5_usedSet 2 = .ok (.iconst 0, 1) := by decide +kernel
theorem dX5_usedSet_3 : decode cX5_usedSet 3 = .ok (.istore_n 2, 1) := by decide +kernel
theorem dX5_usedSet_4 : decode cX5_usedSet 4 = .ok (.iload_n 2, 1) := by decide +kernel
theorem dX5_usedSet_5 : decode cX5_usedSet 5 = .ok (.aload_n 0, 1) := by decide +kernel
theorem dX5_usedSet_6 : decode cX5_usedSet 6 = .ok (.getfield 34, 3) := by decide +kernel
theorem dX5_usedSet_9 : decode cX5_usedSet 9 = .ok (.if_icmp .ge 38, 3) := by decide +kernel
theorem dX5_usedSet_12 : decode cX5_usedSet 12 = .ok (.iload_n 1, 1) := by decide +kernel
theorem dX5_usedSet_13 : decode cX5_usedSet 13 = .ok (.iconst 1, 1) := by decide +kernel
theorem dX5_usedSet_14 : decode cX5_usedSet 14 = .ok (.aload_n 0, 1) := by decide +kernel
theorem dX5_usedSet_15 : decode cX5_usedSet 15 = .ok (.getfield 15, 3) := by decide +kernel
theorem dX5_usedSet_18 : decode cX5_usedSet 18 = .ok (.iload_n 2, 1) := by decide +kernel
theorem dX5_usedSet_19 : decode cX5_usedSet 19 = .ok (.iaload, 1) := by decide +kernel
theorem dX5_usedSet_20 : decode cX5_usedSet 20 = .ok (.ishl, 1) := by decide +kernel
theorem dX5_usedSet_21 : decode cX5_usedSet 21 = .ok (.iconst 1, 1) := by decide +kernel
theorem dX5_usedSet_22 : decode cX5_usedSet 22 = .ok (.aload_n 0, 1) := by decide +kernel
theorem dX5_usedSet_23 : decode cX5_usedSet 23 = .ok (.getfield 18, 3) := by decide +kernel
theorem dX5_usedSet_26 : decode cX5_usedSet 26 = .ok (.iload_n 2, 1) := by decide +kernel
theorem dX5_usedSet_27 : decode cX5_usedSet 27 = .ok (.iaload, 1) := by decide +kernel
theorem dX5_usedSet_28 : decode cX5_usedSet 28 = .ok (.ishl, 1) := by decide +kernel
theorem dX5_usedSet_29 : decode cX5_usedSet 29 = .ok (.ior, 1) := by decide +kernel
theorem dX5_usedSet_30 : decode cX5_usedSet 30 = .ok (.iconst 1, 1) := by decide +kernel
theorem dX5_usedSet_31 : decode cX5_usedSet 31 = .ok (.aload_n 0, 1) := by decide +kernel
theorem dX5_usedSet_32 : decode cX5_usedSet 32 = .ok (.getfield 21, 3) := by decide +kernel
theorem dX5_usedSet_35 : decode cX5_usedSet 35 = .ok (.iload_n 2, 1) := by decide +kernel
theorem dX5_usedSet_36 : decode cX5_usedSet 36 = .ok (.iaload, 1) := by decide +kernel
theorem dX5_usedSet_37 : decode cX5_usedSet 37 = .ok (.ishl, 1) := by decide +kernel
theorem dX5_usedSet_38 : decode cX5_usedSet 38 = .ok (.ior, 1) := by decide +kernel
theorem dX5_usedSet_39 : decode cX5_usedSet 39 = .ok (.ior, 1) := by decide +kernel
theorem dX5_usedSet_40 : decode cX5_usedSet 40 = .ok (.istore_n 1, 1) := by decide +kernel
theorem dX5_usedSet_41 : decode cX5_usedSet 41 = .ok (.iinc 2 1, 3) := by decide +kernel
theorem dX5_usedSet_44 : decode cX5_usedSet 44 = .ok (.goto (-40), 3) := by decide +kernel
theorem dX5_usedSet_47 : decode cX5_usedSet 47 = .ok (.iload_n 1, 1) := by decide +kernel
theorem dX5_usedSet_48 : decode cX5_usedSet 48 = .ok (.ireturn, 1) := by decide +kernel
theorem dX5_turnable_0 : decode cX5_turnable 0 = .ok (.iconst 0, 1) := by decide +kernel
theorem dX5_turnable_1 : decode cX5_turnable 1 = .ok (.istore_n 1, 1) := by decide +kernel
theorem dX5_turnable_2 : decode cX5_turnable 2 = .ok (.iconst 0, 1) := by decide +kernel
theorem dX5_turnable_3 : decode cX5_turnable 3 = .ok (.istore_n 2, 1) := by decide +kernel
theorem dX5_turnable_4 : decode cX5_turnable 4 = .ok (.iload_n 2, 1) := by decide +kernel
theorem dX5_turnable_5 : decode cX5_turnable 5 = .ok (.aload_n 0, 1) := by decide +kernel
theorem dX5_turnable_6 : decode cX5_turnable 6 = .ok (.getfield 34, 3) := by decide +kernel
theorem dX5_turnable_9 : decode cX5_turnable 9 = .ok (.if_icmp .ge 49, 3) := by decide +kernel
theorem dX5_turnable_12 : decode cX5_turnable 12 = .ok (.aload_n 0, 1) := by decide +kernel
theorem dX5_turnable_13 : decode cX5_turnable 13 = .ok (.getfield 9, 3) := by decide +kernel
theorem dX5_turnable_16 : decode cX5_turnable 16 = .ok (.iload_n 2, 1) := by decide +kernel
theorem dX5_turnable_17 : decode cX5_turnable 17 = .ok (.iaload, 1) := by decide +kernel
theorem dX5_turnable_18 : decode cX5_turnable 18 = .ok (.ifCond .eq 34, 3) := by decide +kernel
theorem dX5_turnable_21 : decode cX5_turnable 21 = .ok (.aload_n 0, 1) := by decide +kernel
theorem dX5_turnable_22 : decode cX5_turnable 22 = .ok (.getfield 9, 3) := by decide +kernel
theorem dX5_turnable_25 : decode cX5_turnable 25 = .ok (.iload_n 2, 1) := by decide +kernel
theorem dX5_turnable_26 : decode cX5_turnable 26 = .ok (.iaload, 1) := by decide +kernel
theorem dX5_turnable_27 : decode cX5_turnable 27 = .ok (.iconst 2, 1) := by decide +kernel
theorem dX5_turnable_28 : decode cX5_turnable 28 = .ok (.if_icmp .eq 24, 3) := by decide +kernel
theorem dX5_turnable_31 : decode cX5_turnable 31 = .ok (.aload_n 0, 1) := by decide +kernel
theorem dX5_turnable_32 : decode cX5_turnable 32 = .ok (.getfield 18, 3) := by decide +kernel
theorem dX5_turnable_35 : decode cX5_turnable 35 = .ok (.iload_n 2, 1) := by decide +kernel
theorem dX5_turnable_36 : decode cX5_turnable 36 = .ok (.iaload, 1) := by decide +kernel
theorem dX5_turnable_37 : decode cX5_turnable 37 = .ok (.aload_n 0, 1) := by decide +kernel
theorem dX5_turnable_38 : decode cX5_turnable 38 = .ok (.getfield 21, 3) := by decide +kernel
theorem dX5_turnable_41 : decode cX5_turnable 41 = .ok (.iload_n 2, 1) := by decide +kernel
theorem dX5_turnable_42 : decode cX5_turnable 42 = .ok (.iaload, 1) := by decide +kernel
theorem dX5_turnable_43 : decode cX5_turnable 43 = .ok (.if_icmp .eq 9, 3) := by decide +kernel
theorem dX5_turnable_46 : decode cX5_turnable 46 = .ok (.iload_n 1, 1) := by decide +kernel
theorem dX5_turnable_47 : decode cX5_turnable 47 = .ok (.iconst 1, 1) := by decide +kernel
theorem dX5_turnable_48 : decode cX5_turnable 48 = .ok (.iload_n 2, 1) := by decide +kernel
theorem dX5_turnable_49 : decode cX5_turnable 49 = .ok (.ishl, 1) := by decide +kernel
theorem dX5_turnable_50 : decode cX5_turnable 50 = .ok (.ior, 1) := by decide +kernel
theorem dX5_turnable_51 : decode cX5_turnable 51 = .ok (.istore_n 1, 1) := by decide +kernel
theorem dX5_turnable_52 : decode cX5_turnable 52 = .ok (.iinc 2 1, 3) := by decide +kernel
theorem dX5_turnable_55 : decode cX5_turnable 55 = .ok (.goto (-51), 3) := by decide +kernel
theorem dX5_turnable_58 : decode cX5_turnable 58 = .ok (.iload_n 1, 1) := by decide +kernel
theorem dX5_turnable_59 : decode cX5_turnable 59 = .ok (.ireturn, 1) := by decide +kernel
theorem dX5_isFar_0 : decode cX5_isFar 0 = .ok (.iload_n 1, 1) := by decide +kernel
theorem dX5_isFar_1 : decode cX5_isFar 1 = .ok (.iload_n 2, 1) := by decide +kernel
theorem dX5_isFar_2 : decode cX5_isFar 2 = .ok (.if_icmp .eq 23, 3) := by decide +kernel
theorem dX5_isFar_5 : decode cX5_isFar 5 = .ok (.aload_n 0, 1) := by decide +kernel
theorem dX5_isFar_6 : decode cX5_isFar 6 = .ok (.getfield 24, 3) := by decide +kernel
theorem dX5_isFar_9 : decode cX5_isFar 9 = .ok (.iload_n 1, 1) := by decide +kernel
theorem dX5_isFar_10 : decode cX5_isFar 10 = .ok (.iload_n 2, 1) := by decide +kernel
theorem dX5_isFar_11 : decode cX5_isFar 11 = .ok (.isub, 1) := by decide +kernel
theorem dX5_isFar_12 : decode cX5_isFar 12 = .ok (.invokestatic 43, 3) := by decide +kernel
theorem dX5_isFar_15 : decode cX5_isFar 15 = .ok (.ishr, 1) := by decide +kernel
theorem dX5_isFar_16 : decode cX5_isFar 16 = .ok (.iconst 1, 1) := by decide +kernel
theorem dX5_isFar_17 : decode cX5_isFar 17 = .ok (.iand, 1) := by decide +kernel
theorem dX5_isFar_18 : decode cX5_isFar 18 = .ok (.ifCond .ne 7, 3) := by decide +kernel
theorem dX5_isFar_21 : decode cX5_isFar 21 = .ok (.iconst 1, 1) := by decide +kernel
theorem dX5_isFar_22 : decode cX5_isFar 22 = .ok (.goto 4, 3) := by decide +kernel
theorem dX5_isFar_25 : decode cX5_isFar 25 = .ok (.iconst 0, 1) := by decide +kernel
theorem dX5_isFar_26 : decode cX5_isFar 26 = .ok (.ireturn, 1) := by decide +kernel
theorem dX5_execute_0 : decode cX5_execute 0 = .ok (.iconst 0, 1) := by decide +kernel
theorem dX5_execute_1 : decode cX5_execute 1 = .ok (.istore_n 1, 1) := by decide +kernel
theorem dX5_execute_2 : decode cX5_execute 2 = .ok (.iload_n 1, 1) := by decide +kernel
theorem dX5_execute_3 : decode cX5_execute 3 = .ok (.aload_n 0, 1) := by decide +kernel
theorem dX5_execute_4 : decode cX5_execute 4 = .ok (.getfield 34, 3) := by decide +kernel
theorem dX5_execute_7 : decode cX5_execute 7 = .ok (.if_icmp .ge 51, 3) := by decide +kernel
theorem dX5_execute_10 : decode cX5_execute 10 = .ok (.aload_n 0, 1) := by decide +kernel
theorem dX5_execute_11 : decode cX5_execute 11 = .ok (.getfield 28, 3) := by decide +kernel
end
section
theorem dX5_execute_14 : decode cX5_execute 14 = .ok (.aload_n 0, 1) := by decide +kernel
theorem dX5_execute_15 : decode cX5_execute 15 = .ok (.getfield 15, 3) := by decide +kernel
theorem dX5_execute_18 : decode cX5_execute 18 = .ok (.iload_n 1, 1) := by decide +kernel
theorem dX5_execute_19 : decode cX5_execute 19 = .ok (.iaload, 1) := by decide +kernel
theorem dX5_execute_20 : decode cX5_execute 20 = .ok (.aload_n 0, 1) := by decide +kernel
theorem dX5_execute_21 : decode cX5_execute 21 = .ok (.getfield 9, 3) := by decide +kernel
theorem dX5_execute_24 : decode cX5_execute 24 = .ok (.iload_n 1, 1) := by decide +kernel
theorem dX5_execute_25 : decode cX5_execute 25 = .ok (.iaload, 1) := by decide +kernel
theorem dX5_execute_26 : decode cX5_execute 26 = .ok (.aload_n 0, 1) := by decide +kernel
theorem dX5_execute_27 : decode cX5_execute 27 = .ok (.getfield 28, 3) := by decide +kernel
theorem dX5_execute_30 : decode cX5_execute 30 = .ok (.aload_n 0, 1) := by decide +kernel
theorem dX5_execute_31 : decode cX5_execute 31 = .ok (.getfield 18, 3) := by decide +kernel
theorem dX5_execute_34 : decode cX5_execute 34 = .ok (.iload_n 1, 1) := by decide +kernel
theorem dX5_execute_35 : decode cX5_execute 35 = .ok (.iaload, 1) := by decide +kernel
theorem dX5_execute_36 : decode cX5_execute 36 = .ok (.iaload, 1) := by decide +kernel
theorem dX5_execute_37 : decode cX5_execute 37 = .ok (.aload_n 0, 1) := by decide +kernel
theorem dX5_execute_38 : decode cX5_execute 38 = .ok (.getfield 28, 3) := by decide +kernel
theorem dX5_execute_41 : decode cX5_execute 41 = .ok (.aload_n 0, 1) := by decide +kernel
theorem dX5_execute_42 : decode cX5_execute 42 = .ok (.getfield 21, 3) := by decide +kernel
theorem dX5_execute_45 : decode cX5_execute 45 = .ok (.iload_n 1, 1) := by decide +kernel
theorem dX5_execute_46 : decode cX5_execute 46 = .ok (.iaload, 1) := by decide +kernel
theorem dX5_execute_47 : decode cX5_execute 47 = .ok (.iaload, 1) := by decide +kernel
theorem dX5_execute_48 : decode cX5_execute 48 = .ok (.invokestatic 49, 3) := by decide +kernel
theorem dX5_execute_51 : decode cX5_execute 51 = .ok (.iastore, 1) := by decide +kernel
theorem dX5_execute_52 : decode cX5_execute 52 = .ok (.iinc 1 1, 3) := by decide +kernel
theorem dX5_execute_55 : decode cX5_execute 55 = .ok (.goto (-53), 3) := by decide +kernel
theorem dX5_execute_58 : decode cX5_execute 58 = .ok (.return_, 1) := by decide +kernel
theorem dX5_result_0 : decode cX5_result 0 = .ok (.iload_n 0, 1) := by decide +kernel
theorem dX5_result_1 : decode cX5_result 1 = .ok (.tableswitch 49 1 4 #[31, 35, 39, 43], 31) := by decide +kernel
theorem dX5_result_32 : decode cX5_result 32 = .ok (.iload_n 1, 1) := by decide +kernel
theorem dX5_result_33 : decode cX5_result 33 = .ok (.iload_n 2, 1) := by decide +kernel
theorem dX5_result_34 : decode cX5_result 34 = .ok (.iadd, 1) := by decide +kernel
theorem dX5_result_35 : decode cX5_result 35 = .ok (.ireturn, 1) := by decide +kernel
theorem dX5_result_36 : decode cX5_result 36 = .ok (.iload_n 1, 1) := by decide +kernel
theorem dX5_result_37 : decode cX5_result 37 = .ok (.iload_n 2, 1) := by decide +kernel
theorem dX5_result_38 : decode cX5_result 38 = .ok (.isub, 1) := by decide +kernel
theorem dX5_result_39 : decode cX5_result 39 = .ok (.ireturn, 1) := by decide +kernel
theorem dX5_result_40 : decode cX5_result 40 = .ok (.iload_n 1, 1) := by decide +kernel
theorem dX5_result_41 : decode cX5_result 41 = .ok (.iload_n 2, 1) := by decide +kernel
theorem dX5_result_42 : decode cX5_result 42 = .ok (.imul, 1) := by decide +kernel
theorem dX5_result_43 : decode cX5_result 43 = .ok (.ireturn, 1) := by decide +kernel
theorem dX5_result_44 : decode cX5_result 44 = .ok (.iload_n 1, 1) := by decide +kernel
theorem dX5_result_45 : decode cX5_result 45 = .ok (.iload_n 2, 1) := by decide +kernel
theorem dX5_result_46 : decode cX5_result 46 = .ok (.invokestatic 53, 3) := by decide +kernel
theorem dX5_result_49 : decode cX5_result 49 = .ok (.ireturn, 1) := by decide +kernel
theorem dX5_result_50 : decode cX5_result 50 = .ok (.iload_n 1, 1) := by decide +kernel
theorem dX5_result_51 : decode cX5_result 51 = .ok (.ireturn, 1) := by decide +kernel
theorem dX6_init_0 : decode cX6_init 0 = .ok (.aload_n 0, 1) := by decide +kernel
theorem dX6_init_1 : decode cX6_init 1 = .ok (.invokespecial 3, 3) := by decide +kernel
theorem dX6_init_4 : decode cX6_init 4 = .ok (.aload_n 0, 1) := by decide +kernel
theorem dX6_init_5 : decode cX6_init 5 = .ok (.bipush 49, 2) := by decide +kernel
theorem dX6_init_7 : decode cX6_init 7 = .ok (.newarray .int, 2) := by decide +kernel
theorem dX6_init_9 : decode cX6_init 9 = .ok (.putfield 9, 3) := by decide +kernel
theorem dX6_init_12 : decode cX6_init 12 = .ok (.aload_n 0, 1) := by decide +kernel
theorem dX6_init_13 : decode cX6_init 13 = .ok (.bipush 64, 2) := by decide +kernel
theorem dX6_init_15 : decode cX6_init 15 = .ok (.newarray .int, 2) := by decide +kernel
theorem dX6_init_17 : decode cX6_init 17 = .ok (.putfield 15, 3) := by decide +kernel
theorem dX6_init_20 : decode cX6_init 20 = .ok (.aload_n 0, 1) := by decide +kernel
theorem dX6_init_21 : decode cX6_init 21 = .ok (.bipush 20, 2) := by decide +kernel
theorem dX6_init_23 : decode cX6_init 23 = .ok (.newarray .int, 2) := by decide +kernel
theorem dX6_init_25 : decode cX6_init 25 = .ok (.putfield 18, 3) := by decide +kernel
theorem dX6_init_28 : decode cX6_init 28 = .ok (.aload_n 0, 1) := by decide +kernel
theorem dX6_init_29 : decode cX6_init 29 = .ok (.bipush 20, 2) := by decide +kernel
theorem dX6_init_31 : decode cX6_init 31 = .ok (.newarray .int, 2) := by decide +kernel
theorem dX6_init_33 : decode cX6_init 33 = .ok (.putfield 21, 3) := by decide +kernel
theorem dX6_init_36 : decode cX6_init 36 = .ok (.aload_n 0, 1) := by decide +kernel
theorem dX6_init_37 : decode cX6_init 37 = .ok (.bipush 20, 2) := by decide +kernel
theorem dX6_init_39 : decode cX6_init 39 = .ok (.newarray .int, 2) := by decide +kernel
theorem dX6_init_41 : decode cX6_init 41 = .ok (.putfield 24, 3) := by decide +kernel
theorem dX6_init_44 : decode cX6_init 44 = .ok (.aload_n 0, 1) := by decide +kernel
theorem dX6_init_45 : decode cX6_init 45 = .ok (.bipush 8, 2) := by decide +kernel
theorem dX6_init_47 : decode cX6_init 47 = .ok (.newarray .int, 2) := by decide +kernel
theorem dX6_init_49 : decode cX6_init 49 = .ok (.putfield 27, 3) := by decide +kernel
theorem dX6_init_52 : decode cX6_init 52 = .ok (.return_, 1) := by decide +kernel
theorem dX6_trace_0 : decode cX6_trace 0 = .ok (.aload_n 0, 1) := by decide +kernel
theorem dX6_trace_1 : decode cX6_trace 1 = .ok (.getfield 9, 3) := by decide +kernel
theorem dX6_trace_4 : decode cX6_trace 4 = .ok (.iconst 0, 1) := by decide +kernel
theorem dX6_trace_5 : decode cX6_trace 5 = .ok (.invokestatic 30, 3) := by decide +kernel
theorem dX6_trace_8 : decode cX6_trace 8 = .ok (.aload_n 0, 1) := by decide +kernel
theorem dX6_trace_9 : decode cX6_trace 9 = .ok (.iconst 0, 1) := by decide +kernel
theorem dX6_trace_10 : decode cX6_trace 10 = .ok (.putfield 36, 3) := by decide +kernel
theorem dX6_trace_13 : decode cX6_trace 13 = .ok (.aload_n 0, 1) := by decide +kernel
theorem dX6_trace_14 : decode cX6_trace 14 = .ok (.iload_n 2, 1) := by decide +kernel
theorem dX6_trace_15 : decode cX6_trace 15 = .ok (.putfield 40, 3) := by decide +kernel
theorem dX6_trace_18 : decode cX6_trace 18 = .ok (.aload_n 0, 1) := by decide +kernel
theorem dX6_trace_19 : decode cX6_trace 19 = .ok (.bipush 7, 2) := by decide +kernel
theorem dX6_trace_21 : decode cX6_trace 21 = .ok (.putfield 43, 3) := by decide +kernel
theorem dX6_trace_24 : decode cX6_trace 24 = .ok (.aload_n 0, 1) := by decide +kernel
theorem dX6_trace_25 : decode cX6_trace 25 = .ok (.iconst 0, 1) := by decide +kernel
theorem dX6_trace_26 : decode cX6_trace 26 = .ok (.putfield 46, 3) := by decide +kernel
theorem dX6_trace_29 : decode cX6_trace 29 = .ok (.iconst 0, 1) := by decide +kernel
theorem dX6_trace_30 : decode cX6_trace 30 = .ok (.istore 5, 2) := by decide +kernel
theorem dX6_trace_32 : decode cX6_trace 32 = .ok (.iload 5, 2) := by decide +kernel
theorem dX6_trace_34 : decode cX6_trace 34 = .ok (.aload_n 1, 1) := by decide +kernel
theorem dX6_trace_35 : decode cX6_trace 35 = .ok (.getfield 50, 3) := by decide +kernel
theorem dX6_trace_38 : decode cX6_trace 38 = .ok (.if_icmp .ge 113, 3) := by decide +kernel
theorem dX6_trace_41 : decode cX6_trace 41 = .ok (.aload_n 1, 1) := by decide +kernel
theorem dX6_trace_42 : decode cX6_trace 42 = .ok (.getfield 55, 3) := by decide +kernel
theorem dX6_trace_45 : decode cX6_trace 45 = .ok (.iload 5, 2) := by decide +kernel
theorem dX6_trace_47 : decode cX6_trace 47 = .ok (.iaload, 1) := by decide +kernel
theorem dX6_trace_48 : decode cX6_trace 48 = .ok (.istore 6, 2) := by decide +kernel
theorem dX6_trace_50 : decode cX6_trace 50 = .ok (.aload_n 1, 1) := by decide +kernel
theorem dX6_trace_51 : decode cX6_trace 51 = .ok (.getfield 58, 3) := by decide +kernel
theorem dX6_trace_54 : decode cX6_trace 54 = .ok (.iload 5, 2) := by decide +kernel
theorem dX6_trace_56 : decode cX6_trace 56 = .ok (.iaload, 1) := by decide +kernel
theorem dX6_trace_57 : decode cX6_trace 57 = .ok (.istore 7, 2) := by decide +kernel
theorem dX6_trace_59 : decode cX6_trace 59 = .ok (.iload_n 3, 1) := by decide +kernel
theorem dX6_trace_60 : decode cX6_trace 60 = .ok (.iload 5, 2) := by decide +kernel
theorem dX6_trace_62 : decode cX6_trace 62 = .ok (.ishr, 1) := by decide +kernel
theorem dX6_trace_63 : decode cX6_trace 63 = .ok (.iconst 1, 1) := by decide +kernel
theorem dX6_trace_64 : decode cX6_trace 64 = .ok (.iand, 1) := by decide +kernel
theorem dX6_trace_65 : decode cX6_trace 65 = .ok (.ifCond .eq 32, 3) := by decide +kernel
theorem dX6_trace_68 : decode cX6_trace 68 = .ok (.aload_n 0, 1) := by decide +kernel
theorem dX6_trace_69 : decode cX6_trace 69 = .ok (.iload 6, 2) := by decide +kernel
theorem dX6_trace_71 : decode cX6_trace 71 = .ok (.invokevirtual 61, 3) := by decide +kernel
theorem dX6_trace_74 : decode cX6_trace 74 = .ok (.ifCond .eq 23, 3) := by decide +kernel
theorem dX6_trace_77 : decode cX6_trace 77 = .ok (.aload_n 0, 1) := by decide +kernel
theorem dX6_trace_78 : decode cX6_trace 78 = .ok (.iload 7, 2) := by decide +kernel
theorem dX6_trace_80 : decode cX6_trace 80 = .ok (.invokevirtual 61, 3) := by decide +kernel
theorem dX6_trace_83 : decode cX6_trace 83 = .ok (.ifCond .eq 14, 3) := by decide +kernel
theorem dX6_trace_86 : decode cX6_trace 86 = .ok (.aload_n 0, 1) := by decide +kernel
theorem dX6_trace_87 : decode cX6_trace 87 = .ok (.iload 6, 2) := by decide +kernel
theorem dX6_trace_89 : decode cX6_trace 89 = .ok (.iload 7, 2) := by decide +kernel
theorem dX6_trace_91 : decode cX6_trace 91 = .ok (.invokevirtual 65, 3) := by decide +kernel
theorem dX6_trace_94 : decode cX6_trace 94 = .ok (.goto 40, 3) := by decide +kernel
theorem dX6_trace_97 : decode cX6_trace 97 = .ok (.iload 4, 2) := by decide +kernel
theorem dX6_trace_99 : decode cX6_trace 99 = .ok (.iload 5, 2) := by decide +kernel
theorem dX6_trace_101 : decode cX6_trace 101 = .ok (.ishr, 1) := by decide +kernel
theorem dX6_trace_102 : decode cX6_trace 102 = .ok (.iconst 1, 1) := by decide +kernel
theorem dX6_trace_103 : decode cX6_trace 103 = .ok (.iand, 1) := by decide +kernel
theorem dX6_trace_104 : decode cX6_trace 104 = .ok (.ifCond .eq 18, 3) := by decide +kernel
theorem dX6_trace_107 : decode cX6_trace 107 = .ok (.aload_n 0, 1) := by decide +kernel
theorem dX6_trace_108 : decode cX6_trace 108 = .ok (.iload 7, 2) := by decide +kernel
theorem dX6_trace_110 : decode cX6_trace 110 = .ok (.invokevirtual 69, 3) := by decide +kernel
theorem dX6_trace_113 : decode cX6_trace 113 = .ok (.aload_n 0, 1) := by decide +kernel
theorem dX6_trace_114 : decode cX6_trace 114 = .ok (.iload 6, 2) := by decide +kernel
theorem dX6_trace_116 : decode cX6_trace 116 = .ok (.invokevirtual 69, 3) := by decide +kernel
theorem dX6_trace_119 : decode cX6_trace 119 = .ok (.goto 15, 3) := by decide +kernel
theorem dX6_trace_122 : decode cX6_trace 122 = .ok (.aload_n 0, 1) := by decide +kernel
theorem dX6_trace_123 : decode cX6_trace 123 = .ok (.iload 6, 2) := by decide +kernel
theorem dX6_trace_125 : decode cX6_trace 125 = .ok (.invokevirtual 69, 3) := by decide +kernel
theorem dX6_trace_128 : decode cX6_trace 128 = .ok (.aload_n 0, 1) := by decide +kernel
theorem dX6_trace_129 : decode cX6_trace 129 = .ok (.iload 7, 2) := by decide +kernel
theorem dX6_trace_131 : decode cX6_trace 131 = .ok (.invokevirtual 69, 3) := by decide +kernel
theorem dX6_trace_134 : decode cX6_trace 134 = .ok (.aload_n 0, 1) := by decide +kernel
theorem dX6_trace_135 : decode cX6_trace 135 = .ok (.aload_n 1, 1) := by decide +kernel
theorem dX6_trace_136 : decode cX6_trace 136 = .ok (.getfield 73, 3) := by decide +kernel
theorem dX6_trace_139 : decode cX6_trace 139 = .ok (.iload 5, 2) := by decide +kernel
theorem dX6_trace_141 : decode cX6_trace 141 = .ok (.iaload, 1) := by decide +kernel
theorem dX6_trace_142 : decode cX6_trace 142 = .ok (.invokevirtual 69, 3) := by decide +kernel
theorem dX6_trace_145 : decode cX6_trace 145 = .ok (.iinc 5 1, 3) := by decide +kernel
theorem dX6_trace_148 : decode cX6_trace 148 = .ok (.goto (-116), 3) := by decide +kernel
theorem dX6_trace_151 : decode cX6_trace 151 = .ok (.return_, 1) := by decide +kernel
theorem dX6_cost_0 : decode cX6_cost 0 = .ok (.aload_n 0, 1) := by decide +kernel
theorem dX6_cost_1 : decode cX6_cost 1 = .ok (.getfield 43, 3) := by decide +kernel
theorem dX6_cost_4 : decode cX6_cost 4 = .ok (.bipush 7, 2) := by decide +kernel
theorem dX6_cost_6 : decode cX6_cost 6 = .ok (.if_icmp .ne 12, 3) := by decide +kernel
theorem dX6_cost_9 : decode cX6_cost 9 = .ok (.aload_n 0, 1) := by decide +kernel
theorem dX6_cost_10 : decode cX6_cost 10 = .ok (.getfield 46, 3) := by decide +kernel
theorem dX6_cost_13 : decode cX6_cost 13 = .ok (.ifCond .ne 5, 3) := by decide +kernel
theorem dX6_cost_16 : decode cX6_cost 16 = .ok (.iconst 0, 1) := by decide +kernel
theorem dX6_cost_17 : decode cX6_cost 17 = .ok (.ireturn, 1) := by decide +kernel
theorem dX6_cost_18 : decode cX6_cost 18 = .ok (.aload_n 1, 1) := by decide +kernel
theorem dX6_cost_19 : decode cX6_cost 19 = .ok (.iconst 0, 1) := by decide +kernel
theorem dX6_cost_20 : decode cX6_cost 20 = .ok (.aload_n 0, 1) := by decide +kernel
theorem dX6_cost_21 : decode cX6_cost 21 = .ok (.getfield 27, 3) := by decide +kernel
theorem dX6_cost_24 : decode cX6_cost 24 = .ok (.iconst 0, 1) := by decide +kernel
theorem dX6_cost_25 : decode cX6_cost 25 = .ok (.bipush 7, 2) := by decide +kernel
theorem dX6_cost_27 : decode cX6_cost 27 = .ok (.invokestatic 76, 3) := by decide +kernel
theorem dX6_cost_30 : decode cX6_cost 30 = .ok (.aload_n 0, 1) := by decide +kernel
theorem dX6_cost_31 : decode cX6_cost 31 = .ok (.getfield 27, 3) := by decide +kernel
theorem dX6_cost_34 : decode cX6_cost 34 = .ok (.bipush 7, 2) := by decide +kernel
theorem dX6_cost_36 : decode cX6_cost 36 = .ok (.bipush 7, 2) := by decide +kernel
theorem dX6_cost_38 : decode cX6_cost 38 = .ok (.iastore, 1) := by decide +kernel
theorem dX6_cost_39 : decode cX6_cost 39 = .ok (.iconst 1, 1) := by decide +kernel
theorem dX6_cost_40 : decode cX6_cost 40 = .ok (.aload_n 0, 1) := by decide +kernel
theorem dX6_cost_41 : decode cX6_cost 41 = .ok (.aload_n 0, 1) := by decide +kernel
theorem dX6_cost_42 : decode cX6_cost 42 = .ok (.getfield 27, 3) := by decide +kernel
theorem dX6_cost_45 : decode cX6_cost 45 = .ok (.invokevirtual 82, 3) := by decide +kernel
theorem dX6_cost_48 : decode cX6_cost 48 = .ok (.iadd, 1) := by decide +kernel
theorem dX6_cost_49 : decode cX6_cost 49 = .ok (.istore_n 2, 1) := by decide +kernel
theorem dX6_cost_50 : decode cX6_cost 50 = .ok (.iconst 1, 1) := by decide +kernel
theorem dX6_cost_51 : decode cX6_cost 51 = .ok (.istore_n 3, 1) := by decide +kernel
theorem dX6_cost_52 : decode cX6_cost 52 = .ok (.iload_n 3, 1) := by decide +kernel
theorem dX6_cost_53 : decode cX6_cost 53 = .ok (.bipush 7, 2) := by decide +kernel
theorem dX6_cost_55 : decode cX6_cost 55 = .ok (.if_icmp .ge 21, 3) := by decide +kernel
theorem dX6_cost_58 : decode cX6_cost 58 = .ok (.iload_n 2, 1) := by decide +kernel
theorem dX6_cost_59 : decode cX6_cost 59 = .ok (.aload_n 0, 1) := by decide +kernel
theorem dX6_cost_60 : decode cX6_cost 60 = .ok (.iload_n 3, 1) := by decide +kernel
theorem dX6_cost_61 : decode cX6_cost 61 = .ok (.aload_n 0, 1) := by decide +kernel
theorem dX6_cost_62 : decode cX6_cost 62 = .ok (.getfield 27, 3) := by decide +kernel
theorem dX6_cost_65 : decode cX6_cost 65 = .ok (.invokevirtual 86, 3) := by decide +kernel
theorem dX6_cost_68 : decode cX6_cost 68 = .ok (.iadd, 1) := by decide +kernel
theorem dX6_cost_69 : decode cX6_cost 69 = .ok (.istore_n 2, 1) := by decide +kernel
theorem dX6_cost_70 : decode cX6_cost 70 = .ok (.iinc 3 1, 3) := by decide +kernel
theorem dX6_cost_73 : decode cX6_cost 73 = .ok (.goto (-21), 3) := by decide +kernel
theorem dX6_cost_76 : decode cX6_cost 76 = .ok (.iload_n 2, 1) := by decide +kernel
theorem dX6_cost_77 : decode cX6_cost 77 = .ok (.ireturn, 1) := by decide +kernel
theorem dX6_pairCost_0 : decode cX6_pairCost 0 = .ok (.iconst 0, 1) := by decide +kernel
theorem dX6_pairCost_1 : decode cX6_pairCost 1 = .ok (.istore_n 3, 1) := by decide +kernel
theorem dX6_pairCost_2 : decode cX6_pairCost 2 = .ok (.aload_n 2, 1) := by decide +kernel
theorem dX6_pairCost_3 : decode cX6_pairCost 3 = .ok (.iload_n 1, 1) := by decide +kernel
theorem dX6_pairCost_4 : decode cX6_pairCost 4 = .ok (.iaload, 1) := by decide +kernel
theorem dX6_pairCost_5 : decode cX6_pairCost 5 = .ok (.bipush 8, 2) := by decide +kernel
theorem dX6_pairCost_7 : decode cX6_pairCost 7 = .ok (.imul, 1) := by decide +kernel
theorem dX6_pairCost_8 : decode cX6_pairCost 8 = .ok (.istore 4, 2) := by decide +kernel
theorem dX6_pairCost_10 : decode cX6_pairCost 10 = .ok (.iconst 0, 1) := by decide +kernel
theorem dX6_pairCost_11 : decode cX6_pairCost 11 = .ok (.istore 5, 2) := by decide +kernel
theorem dX6_pairCost_13 : decode cX6_pairCost 13 = .ok (.iload 5, 2) := by decide +kernel
theorem dX6_pairCost_15 : decode cX6_pairCost 15 = .ok (.iload_n 1, 1) := by decide +kernel
theorem dX6_pairCost_16 : decode cX6_pairCost 16 = .ok (.if_icmp .ge 37, 3) := by decide +kernel
theorem dX6_pairCost_19 : decode cX6_pairCost 19 = .ok (.iload_n 3, 1) := by decide +kernel
theorem dX6_pairCost_20 : decode cX6_pairCost 20 = .ok (.aload_n 0, 1) := by decide +kernel
theorem dX6_pairCost_21 : decode cX6_pairCost 21 = .ok (.getfield 9, 3) := by decide +kernel
theorem dX6_pairCost_24 : decode cX6_pairCost 24 = .ok (.iload_n 1, 1) := by decide +kernel
theorem dX6_pairCost_25 : decode cX6_pairCost 25 = .ok (.bipush 7, 2) := by decide +kernel
theorem dX6_pairCost_27 : decode cX6_pairCost 27 = .ok (.imul, 1) := by decide +kernel
theorem dX6_pairCost_28 : decode cX6_pairCost 28 = .ok (.iload 5, 2) := by decide +kernel
theorem dX6_pairCost_30 : decode cX6_pairCost 30 = .ok (.iadd, 1) := by decide +kernel
theorem dX6_pairCost_31 : decode cX6_pairCost 31 = .ok (.iaload, 1) := by decide +kernel
theorem dX6_pairCost_32 : decode cX6_pairCost 32 = .ok (.aload_n 0, 1) := by decide +kernel
theorem dX6_pairCost_33 : decode cX6_pairCost 33 = .ok (.getfield 15, 3) := by decide +kernel
theorem dX6_pairCost_36 : decode cX6_pairCost 36 = .ok (.iload 4, 2) := by decide +kernel
theorem dX6_pairCost_38 : decode cX6_pairCost 38 = .ok (.aload_n 2, 1) := by decide +kernel
theorem dX6_pairCost_39 : decode cX6_pairCost 39 = .ok (.iload 5, 2) := by decide +kernel
theorem dX6_pairCost_41 : decode cX6_pairCost 41 = .ok (.iaload, 1) := by decide +kernel
theorem dX6_pairCost_42 : decode cX6_pairCost 42 = .ok (.iadd, 1) := by decide +kernel
theorem dX6_pairCost_43 : decode cX6_pairCost 43 = .ok (.iaload, 1) := by decide +kernel
theorem dX6_pairCost_44 : decode cX6_pairCost 44 = .ok (.imul, 1) := by decide +kernel
theorem dX6_pairCost_45 : decode cX6_pairCost 45 = .ok (.iadd, 1) := by decide +kernel
theorem dX6_pairCost_46 : decode cX6_pairCost 46 = .ok (.istore_n 3, 1) := by decide +kernel
theorem dX6_pairCost_47 : decode cX6_pairCost 47 = .ok (.iinc 5 1, 3) := by decide +kernel
theorem dX6_pairCost_50 : decode cX6_pairCost 50 = .ok (.goto (-37), 3) := by decide +kernel
theorem dX6_pairCost_53 : decode cX6_pairCost 53 = .ok (.iload_n 3, 1) := by decide +kernel
theorem dX6_pairCost_54 : decode cX6_pairCost 54 = .ok (.ireturn, 1) := by decide +kernel
theorem dX6_forkCost_0 : decode cX6_forkCost 0 = .ok (.iconst 0, 1) := by decide +kernel
theorem dX6_forkCost_1 : decode cX6_forkCost 1 = .ok (.istore_n 2, 1) := by decide +kernel
theorem dX6_forkCost_2 : decode cX6_forkCost 2 = .ok (.bipush 7, 2) := by decide +kernel
theorem dX6_forkCost_4 : decode cX6_forkCost 4 = .ok (.istore_n 3, 1) := by decide +kernel
theorem dX6_forkCost_5 : decode cX6_forkCost 5 = .ok (.bipush 7, 2) := by decide +kernel
theorem dX6_forkCost_7 : decode cX6_forkCost 7 = .ok (.istore 4, 2) := by decide +kernel
theorem dX6_forkCost_9 : decode cX6_forkCost 9 = .ok (.iconst 0, 1) := by decide +kernel
theorem dX6_forkCost_10 : decode cX6_forkCost 10 = .ok (.istore 5, 2) := by decide +kernel
theorem dX6_forkCost_12 : decode cX6_forkCost 12 = .ok (.iconst 0, 1) := by decide +kernel
theorem dX6_forkCost_13 : decode cX6_forkCost 13 = .ok (.istore 6, 2) := by decide +kernel
theorem dX6_forkCost_15 : decode cX6_forkCost 15 = .ok (.iconst 0, 1) := by decide +kernel
theorem dX6_forkCost_16 : decode cX6_forkCost 16 = .ok (.istore 7, 2) := by decide +kernel
theorem dX6_forkCost_18 : decode cX6_forkCost 18 = .ok (.iload 7, 2) := by decide +kernel
theorem dX6_forkCost_20 : decode cX6_forkCost 20 = .ok (.aload_n 0, 1) := by decide +kernel
theorem dX6_forkCost_21 : decode cX6_forkCost 21 = .ok (.getfield 36, 3) := by decide +kernel
theorem dX6_forkCost_24 : decode cX6_forkCost 24 = .ok (.if_icmp .ge 169, 3) := by decide +kernel
theorem dX6_forkCost_27 : decode cX6_forkCost 27 = .ok (.aload_n 1, 1) := by decide +kernel
theorem dX6_forkCost_28 : decode cX6_forkCost 28 = .ok (.aload_n 0, 1) := by decide +kernel
theorem dX6_forkCost_29 : decode cX6_forkCost 29 = .ok (.getfield 21, 3) := by decide +kernel
theorem dX6_forkCost_32 : decode cX6_forkCost 32 = .ok (.iload 7, 2) := by decide +kernel
theorem dX6_forkCost_34 : decode cX6_forkCost 34 = .ok (.iaload, 1) := by decide +kernel
theorem dX6_forkCost_35 : decode cX6_forkCost 35 = .ok (.iaload, 1) := by decide +kernel
theorem dX6_forkCost_36 : decode cX6_forkCost 36 = .ok (.istore 8, 2) := by decide +kernel
theorem dX6_forkCost_38 : decode cX6_forkCost 38 = .ok (.aload_n 0, 1) := by decide +kernel
theorem dX6_forkCost_39 : decode cX6_forkCost 39 = .ok (.getfield 18, 3) := by decide +kernel
theorem dX6_forkCost_42 : decode cX6_forkCost 42 = .ok (.iload 7, 2) := by decide +kernel
theorem dX6_forkCost_44 : decode cX6_forkCost 44 = .ok (.iaload, 1) := by decide +kernel
theorem dX6_forkCost_45 : decode cX6_forkCost 45 = .ok (.iconst (-1), 1) := by decide +kernel
theorem dX6_forkCost_46 : decode cX6_forkCost 46 = .ok (.if_icmp .eq 22, 3) := by decide +kernel
theorem dX6_forkCost_49 : decode cX6_forkCost 49 = .ok (.aload_n 1, 1) := by decide +kernel
theorem dX6_forkCost_50 : decode cX6_forkCost 50 = .ok (.aload_n 0, 1) := by decide +kernel
theorem dX6_forkCost_51 : decode cX6_forkCost 51 = .ok (.getfield 18, 3) := by decide +kernel
theorem dX6_forkCost_54 : decode cX6_forkCost 54 = .ok (.iload 7, 2) := by decide +kernel
theorem dX6_forkCost_56 : decode cX6_forkCost 56 = .ok (.iaload, 1) := by decide +kernel
theorem dX6_forkCost_57 : decode cX6_forkCost 57 = .ok (.iaload, 1) := by decide +kernel
theorem dX6_forkCost_58 : decode cX6_forkCost 58 = .ok (.istore_n 3, 1) := by decide +kernel
theorem dX6_forkCost_59 : decode cX6_forkCost 59 = .ok (.iload_n 3, 1) := by decide +kernel
theorem dX6_forkCost_60 : decode cX6_forkCost 60 = .ok (.istore 4, 2) := by decide +kernel
theorem dX6_forkCost_62 : decode cX6_forkCost 62 = .ok (.iload_n 2, 1) := by decide +kernel
theorem dX6_forkCost_63 : decode cX6_forkCost 63 = .ok (.istore 5, 2) := by decide +kernel
theorem dX6_forkCost_65 : decode cX6_forkCost 65 = .ok (.iload_n 2, 1) := by decide +kernel
theorem dX6_forkCost_66 : decode cX6_forkCost 66 = .ok (.istore 6, 2) := by decide +kernel
theorem dX6_forkCost_68 : decode cX6_forkCost 68 = .ok (.iload 5, 2) := by decide +kernel
theorem dX6_forkCost_70 : decode cX6_forkCost 70 = .ok (.aload_n 0, 1) := by decide +kernel
theorem dX6_forkCost_71 : decode cX6_forkCost 71 = .ok (.getfield 15, 3) := by decide +kernel
theorem dX6_forkCost_74 : decode cX6_forkCost 74 = .ok (.iload_n 3, 1) := by decide +kernel
theorem dX6_forkCost_75 : decode cX6_forkCost 75 = .ok (.bipush 8, 2) := by decide +kernel
theorem dX6_forkCost_77 : decode cX6_forkCost 77 = .ok (.imul, 1) := by decide +kernel
theorem dX6_forkCost_78 : decode cX6_forkCost 78 = .ok (.iload 8, 2) := by decide +kernel
theorem dX6_forkCost_80 : decode cX6_forkCost 80 = .ok (.iadd, 1) := by decide +kernel
theorem dX6_forkCost_81 : decode cX6_forkCost 81 = .ok (.iaload, 1) := by decide +kernel
theorem dX6_forkCost_82 : decode cX6_forkCost 82 = .ok (.iadd, 1) := by decide +kernel
theorem dX6_forkCost_83 : decode cX6_forkCost 83 = .ok (.iload 6, 2) := by decide +kernel
theorem dX6_forkCost_85 : decode cX6_forkCost 85 = .ok (.aload_n 0, 1) := by decide +kernel
theorem dX6_forkCost_86 : decode cX6_forkCost 86 = .ok (.getfield 15, 3) := by decide +kernel
theorem dX6_forkCost_89 : decode cX6_forkCost 89 = .ok (.iload 4, 2) := by decide +kernel
theorem dX6_forkCost_91 : decode cX6_forkCost 91 = .ok (.bipush 8, 2) := by decide +kernel
theorem dX6_forkCost_93 : decode cX6_forkCost 93 = .ok (.imul, 1) := by decide +kernel
theorem dX6_forkCost_94 : decode cX6_forkCost 94 = .ok (.iload 8, 2) := by decide +kernel
theorem dX6_forkCost_96 : decode cX6_forkCost 96 = .ok (.iadd, 1) := by decide +kernel
theorem dX6_forkCost_97 : decode cX6_forkCost 97 = .ok (.iaload, 1) := by decide +kernel
theorem dX6_forkCost_98 : decode cX6_forkCost 98 = .ok (.iadd, 1) := by decide +kernel
theorem dX6_forkCost_99 : decode cX6_forkCost 99 = .ok (.invokestatic 90, 3) := by decide +kernel
theorem dX6_forkCost_102 : decode cX6_forkCost 102 = .ok (.istore 9, 2) := by decide +kernel
theorem dX6_forkCost_104 : decode cX6_forkCost 104 = .ok (.aload_n 0, 1) := by decide +kernel
theorem dX6_forkCost_105 : decode cX6_forkCost 105 = .ok (.getfield 24, 3) := by decide +kernel
theorem dX6_forkCost_108 : decode cX6_forkCost 108 = .ok (.iload 7, 2) := by decide +kernel
theorem dX6_forkCost_110 : decode cX6_forkCost 110 = .ok (.iaload, 1) := by decide +kernel
theorem dX6_forkCost_111 : decode cX6_forkCost 111 = .ok (.iconst (-1), 1) := by decide +kernel
theorem dX6_forkCost_112 : decode cX6_forkCost 112 = .ok (.if_icmp .ne 17, 3) := by decide +kernel
theorem dX6_forkCost_115 : decode cX6_forkCost 115 = .ok (.iload 9, 2) := by decide +kernel
theorem dX6_forkCost_117 : decode cX6_forkCost 117 = .ok (.istore_n 2, 1) := by decide +kernel
theorem dX6_forkCost_118 : decode cX6_forkCost 118 = .ok (.iload 9, 2) := by decide +kernel
theorem dX6_forkCost_120 : decode cX6_forkCost 120 = .ok (.istore 5, 2) := by decide +kernel
theorem dX6_forkCost_122 : decode cX6_forkCost 122 = .ok (.iload 9, 2) := by decide +kernel
theorem dX6_forkCost_124 : decode cX6_forkCost 124 = .ok (.istore 6, 2) := by decide +kernel
theorem dX6_forkCost_126 : decode cX6_forkCost 126 = .ok (.goto 61, 3) := by decide +kernel
theorem dX6_forkCost_129 : decode cX6_forkCost 129 = .ok (.aload_n 1, 1) := by decide +kernel
theorem dX6_forkCost_130 : decode cX6_forkCost 130 = .ok (.aload_n 0, 1) := by decide +kernel
theorem dX6_forkCost_131 : decode cX6_forkCost 131 = .ok (.getfield 24, 3) := by decide +kernel
theorem dX6_forkCost_134 : decode cX6_forkCost 134 = .ok (.iload 7, 2) := by decide +kernel
theorem dX6_forkCost_136 : decode cX6_forkCost 136 = .ok (.iaload, 1) := by decide +kernel
theorem dX6_forkCost_137 : decode cX6_forkCost 137 = .ok (.iaload, 1) := by decide +kernel
theorem dX6_forkCost_138 : decode cX6_forkCost 138 = .ok (.istore 10, 2) := by decide +kernel
theorem dX6_forkCost_140 : decode cX6_forkCost 140 = .ok (.iload 5, 2) := by decide +kernel
theorem dX6_forkCost_142 : decode cX6_forkCost 142 = .ok (.aload_n 0, 1) := by decide +kernel
theorem dX6_forkCost_143 : decode cX6_forkCost 143 = .ok (.getfield 15, 3) := by decide +kernel
theorem dX6_forkCost_146 : decode cX6_forkCost 146 = .ok (.iload_n 3, 1) := by decide +kernel
theorem dX6_forkCost_147 : decode cX6_forkCost 147 = .ok (.bipush 8, 2) := by decide +kernel
theorem dX6_forkCost_149 : decode cX6_forkCost 149 = .ok (.imul, 1) := by decide +kernel
theorem dX6_forkCost_150 : decode cX6_forkCost 150 = .ok (.iload 10, 2) := by decide +kernel
theorem dX6_forkCost_152 : decode cX6_forkCost 152 = .ok (.iadd, 1) := by decide +kernel
theorem dX6_forkCost_153 : decode cX6_forkCost 153 = .ok (.iaload, 1) := by decide +kernel
theorem dX6_forkCost_154 : decode cX6_forkCost 154 = .ok (.iadd, 1) := by decide +kernel
theorem dX6_forkCost_155 : decode cX6_forkCost 155 = .ok (.iload 6, 2) := by decide +kernel
theorem dX6_forkCost_157 : decode cX6_forkCost 157 = .ok (.aload_n 0, 1) := by decide +kernel
theorem dX6_forkCost_158 : decode cX6_forkCost 158 = .ok (.getfield 15, 3) := by decide +kernel
theorem dX6_forkCost_161 : decode cX6_forkCost 161 = .ok (.iload 4, 2) := by decide +kernel
theorem dX6_forkCost_163 : decode cX6_forkCost 163 = .ok (.bipush 8, 2) := by decide +kernel
theorem dX6_forkCost_165 : decode cX6_forkCost 165 = .ok (.imul, 1) := by decide +kernel
theorem dX6_forkCost_166 : decode cX6_forkCost 166 = .ok (.iload 10, 2) := by decide +kernel
theorem dX6_forkCost_168 : decode cX6_forkCost 168 = .ok (.iadd, 1) := by decide +kernel
theorem dX6_forkCost_169 : decode cX6_forkCost 169 = .ok (.iaload, 1) := by decide +kernel
theorem dX6_forkCost_170 : decode cX6_forkCost 170 = .ok (.iadd, 1) := by decide +kernel
theorem dX6_forkCost_171 : decode cX6_forkCost 171 = .ok (.invokestatic 90, 3) := by decide +kernel
theorem dX6_forkCost_174 : decode cX6_forkCost 174 = .ok (.istore 6, 2) := by decide +kernel
theorem dX6_forkCost_176 : decode cX6_forkCost 176 = .ok (.iload 9, 2) := by decide +kernel
theorem dX6_forkCost_178 : decode cX6_forkCost 178 = .ok (.istore 5, 2) := by decide +kernel
theorem dX6_forkCost_180 : decode cX6_forkCost 180 = .ok (.iload 10, 2) := by decide +kernel
theorem dX6_forkCost_182 : decode cX6_forkCost 182 = .ok (.istore_n 3, 1) := by decide +kernel
theorem dX6_forkCost_183 : decode cX6_forkCost 183 = .ok (.iload 8, 2) := by decide +kernel
theorem dX6_forkCost_185 : decode cX6_forkCost 185 = .ok (.istore 4, 2) := by decide +kernel
theorem dX6_forkCost_187 : decode cX6_forkCost 187 = .ok (.iinc 7 1, 3) := by decide +kernel
theorem dX6_forkCost_190 : decode cX6_forkCost 190 = .ok (.goto (-172), 3) := by decide +kernel
theorem dX6_forkCost_193 : decode cX6_forkCost 193 = .ok (.iload 5, 2) := by decide +kernel
theorem dX6_forkCost_195 : decode cX6_forkCost 195 = .ok (.iload 6, 2) := by decide +kernel
theorem dX6_forkCost_197 : decode cX6_forkCost 197 = .ok (.invokestatic 90, 3) := by decide +kernel
theorem dX6_forkCost_200 : decode cX6_forkCost 200 = .ok (.ireturn, 1) := by decide +kernel
theorem dX6_areTwins_0 : decode cX6_areTwins 0 = .ok (.iconst 0, 1) := by decide +kernel
theorem dX6_areTwins_1 : decode cX6_areTwins 1 = .ok (.istore 4, 2) := by decide +kernel
theorem dX6_areTwins_3 : decode cX6_areTwins 3 = .ok (.iload 4, 2) := by decide +kernel
theorem dX6_areTwins_5 : decode cX6_areTwins 5 = .ok (.iload_n 3, 1) := by decide +kernel
theorem dX6_areTwins_6 : decode cX6_areTwins 6 = .ok (.if_icmp .ge 50, 3) := by decide +kernel
theorem dX6_areTwins_9 : decode cX6_areTwins 9 = .ok (.iload 4, 2) := by decide +kernel
theorem dX6_areTwins_11 : decode cX6_areTwins 11 = .ok (.iload_n 1, 1) := by decide +kernel
theorem dX6_areTwins_12 : decode cX6_areTwins 12 = .ok (.if_icmp .eq 38, 3) := by decide +kernel
theorem dX6_areTwins_15 : decode cX6_areTwins 15 = .ok (.iload 4, 2) := by decide +kernel
theorem dX6_areTwins_17 : decode cX6_areTwins 17 = .ok (.iload_n 2, 1) := by decide +kernel
theorem dX6_areTwins_18 : decode cX6_areTwins 18 = .ok (.if_icmp .eq 32, 3) := by decide +kernel
theorem dX6_areTwins_21 : decode cX6_areTwins 21 = .ok (.aload_n 0, 1) := by decide +kernel
theorem dX6_areTwins_22 : decode cX6_areTwins 22 = .ok (.getfield 15, 3) := by decide +kernel
theorem dX6_areTwins_25 : decode cX6_areTwins 25 = .ok (.iload 4, 2) := by decide +kernel
theorem dX6_areTwins_27 : decode cX6_areTwins 27 = .ok (.bipush 8, 2) := by decide +kernel
theorem dX6_areTwins_29 : decode cX6_areTwins 29 = .ok (.imul, 1) := by decide +kernel
theorem dX6_areTwins_30 : decode cX6_areTwins 30 = .ok (.iload_n 1, 1) := by decide +kernel
theorem dX6_areTwins_31 : decode cX6_areTwins 31 = .ok (.iadd, 1) := by decide +kernel
theorem dX6_areTwins_32 : decode cX6_areTwins 32 = .ok (.iaload, 1) := by decide +kernel
theorem dX6_areTwins_33 : decode cX6_areTwins 33 = .ok (.aload_n 0, 1) := by decide +kernel
theorem dX6_areTwins_34 : decode cX6_areTwins 34 = .ok (.getfield 15, 3) := by decide +kernel
theorem dX6_areTwins_37 : decode cX6_areTwins 37 = .ok (.iload 4, 2) := by decide +kernel
theorem dX6_areTwins_39 : decode cX6_areTwins 39 = .ok (.bipush 8, 2) := by decide +kernel
theorem dX6_areTwins_41 : decode cX6_areTwins 41 = .ok (.imul, 1) := by decide +kernel
theorem dX6_areTwins_42 : decode cX6_areTwins 42 = .ok (.iload_n 2, 1) := by decide +kernel
theorem dX6_areTwins_43 : decode cX6_areTwins 43 = .ok (.iadd, 1) := by decide +kernel
theorem dX6_areTwins_44 : decode cX6_areTwins 44 = .ok (.iaload, 1) := by decide +kernel
theorem dX6_areTwins_45 : decode cX6_areTwins 45 = .ok (.if_icmp .eq 5, 3) := by decide +kernel
theorem dX6_areTwins_48 : decode cX6_areTwins 48 = .ok (.iconst 0, 1) := by decide +kernel
theorem dX6_areTwins_49 : decode cX6_areTwins 49 = .ok (.ireturn, 1) := by decide +kernel
theorem dX6_areTwins_50 : decode cX6_areTwins 50 = .ok (.iinc 4 1, 3) := by decide +kernel
theorem dX6_areTwins_53 : decode cX6_areTwins 53 = .ok (.goto (-50), 3) := by decide +kernel
theorem dX6_areTwins_56 : decode cX6_areTwins 56 = .ok (.iconst 1, 1) := by decide +kernel
theorem dX6_areTwins_57 : decode cX6_areTwins 57 = .ok (.ireturn, 1) := by decide +kernel
theorem dX6_has_0 : decode cX6_has 0 = .ok (.aload_n 0, 1) := by decide +kernel
theorem dX6_has_1 : decode cX6_has 1 = .ok (.getfield 40, 3) := by decide +kernel
theorem dX6_has_4 : decode cX6_has 4 = .ok (.iload_n 1, 1) := by decide +kernel
theorem dX6_has_5 : decode cX6_has 5 = .ok (.ishr, 1) := by decide +kernel
theorem dX6_has_6 : decode cX6_has 6 = .ok (.iconst 1, 1) := by decide +kernel
theorem dX6_has_7 : decode cX6_has 7 = .ok (.iand, 1) := by decide +kernel
theorem dX6_has_8 : decode cX6_has 8 = .ok (.ifCond .eq 7, 3) := by decide +kernel
theorem dX6_has_11 : decode cX6_has 11 = .ok (.iconst 1, 1) := by decide +kernel
theorem dX6_has_12 : decode cX6_has 12 = .ok (.goto 4, 3) := by decide +kernel
theorem dX6_has_15 : decode cX6_has 15 = .ok (.iconst 0, 1) := by decide +kernel
theorem dX6_has_16 : decode cX6_has 16 = .ok (.ireturn, 1) := by decide +kernel
theorem dX6_pass_0 : decode cX6_pass 0 = .ok (.aload_n 0, 1) := by decide +kernel
theorem dX6_pass_1 : decode cX6_pass 1 = .ok (.iload_n 1, 1) := by decide +kernel
theorem dX6_pass_2 : decode cX6_pass 2 = .ok (.invokevirtual 61, 3) := by decide +kernel
theorem dX6_pass_5 : decode cX6_pass 5 = .ok (.ifCond .ne 4, 3) := by decide +kernel
theorem dX6_pass_8 : decode cX6_pass 8 = .ok (.return_, 1) := by decide +kernel
theorem dX6_pass_9 : decode cX6_pass 9 = .ok (.aload_n 0, 1) := by decide +kernel
theorem dX6_pass_10 : decode cX6_pass 10 = .ok (.getfield 46, 3) := by decide +kernel
theorem dX6_pass_13 : decode cX6_pass 13 = .ok (.ifCond .eq 18, 3) := by decide +kernel
theorem dX6_pass_16 : decode cX6_pass 16 = .ok (.aload_n 0, 1) := by decide +kernel
theorem dX6_pass_17 : decode cX6_pass 17 = .ok (.iconst (-1), 1) := by decide +kernel
theorem dX6_pass_18 : decode cX6_pass 18 = .ok (.iload_n 1, 1) := by decide +kernel
theorem dX6_pass_19 : decode cX6_pass 19 = .ok (.iconst (-1), 1) := by decide +kernel
theorem dX6_pass_20 : decode cX6_pass 20 = .ok (.invokevirtual 96, 3) := by decide +kernel
theorem dX6_pass_23 : decode cX6_pass 23 = .ok (.aload_n 0, 1) := by decide +kernel
theorem dX6_pass_24 : decode cX6_pass 24 = .ok (.iconst 0, 1) := by decide +kernel
theorem dX6_pass_25 : decode cX6_pass 25 = .ok (.putfield 46, 3) := by decide +kernel
theorem dX6_pass_28 : decode cX6_pass 28 = .ok (.goto 29, 3) := by decide +kernel
theorem dX6_pass_31 : decode cX6_pass 31 = .ok (.aload_n 0, 1) := by decide +kernel
theorem dX6_pass_32 : decode cX6_pass 32 = .ok (.getfield 43, 3) := by decide +kernel
theorem dX6_pass_35 : decode cX6_pass 35 = .ok (.bipush 7, 2) := by decide +kernel
theorem dX6_pass_37 : decode cX6_pass 37 = .ok (.if_icmp .eq 20, 3) := by decide +kernel
theorem dX6_pass_40 : decode cX6_pass 40 = .ok (.aload_n 0, 1) := by decide +kernel
theorem dX6_pass_41 : decode cX6_pass 41 = .ok (.getfield 43, 3) := by decide +kernel
theorem dX6_pass_44 : decode cX6_pass 44 = .ok (.iload_n 1, 1) := by decide +kernel
theorem dX6_pass_45 : decode cX6_pass 45 = .ok (.if_icmp .eq 12, 3) := by decide +kernel
theorem dX6_pass_48 : decode cX6_pass 48 = .ok (.aload_n 0, 1) := by decide +kernel
theorem dX6_pass_49 : decode cX6_pass 49 = .ok (.aload_n 0, 1) := by decide +kernel
theorem dX6_pass_50 : decode cX6_pass 50 = .ok (.getfield 43, 3) := by decide +kernel
theorem dX6_pass_53 : decode cX6_pass 53 = .ok (.iload_n 1, 1) := by decide +kernel
theorem dX6_pass_54 : decode cX6_pass 54 = .ok (.invokevirtual 100, 3) := by decide +kernel
theorem dX6_pass_57 : decode cX6_pass 57 = .ok (.aload_n 0, 1) := by decide +kernel
theorem dX6_pass_58 : decode cX6_pass 58 = .ok (.iload_n 1, 1) := by decide +kernel
theorem dX6_pass_59 : decode cX6_pass 59 = .ok (.putfield 43, 3) := by decide +kernel
theorem dX6_pass_62 : decode cX6_pass 62 = .ok (.return_, 1) := by decide +kernel
theorem dX6_fork_0 : decode cX6_fork 0 = .ok (.aload_n 0, 1) := by decide +kernel
theorem dX6_fork_1 : decode cX6_fork 1 = .ok (.aload_n 0, 1) := by decide +kernel
theorem dX6_fork_2 : decode cX6_fork 2 = .ok (.getfield 46, 3) := by decide +kernel
theorem dX6_fork_5 : decode cX6_fork 5 = .ok (.ifCond .eq 7, 3) := by decide +kernel
theorem dX6_fork_8 : decode cX6_fork 8 = .ok (.iconst (-1), 1) := by decide +kernel
theorem dX6_fork_9 : decode cX6_fork 9 = .ok (.goto 7, 3) := by decide +kernel
theorem dX6_fork_12 : decode cX6_fork 12 = .ok (.aload_n 0, 1) := by decide +kernel
theorem dX6_fork_13 : decode cX6_fork 13 = .ok (.getfield 43, 3) := by decide +kernel
theorem dX6_fork_16 : decode cX6_fork 16 = .ok (.iload_n 1, 1) := by decide +kernel
theorem dX6_fork_17 : decode cX6_fork 17 = .ok (.iload_n 2, 1) := by decide +kernel
theorem dX6_fork_18 : decode cX6_fork 18 = .ok (.invokevirtual 96, 3) := by decide +kernel
theorem dX6_fork_21 : decode cX6_fork 21 = .ok (.aload_n 0, 1) := by decide +kernel
theorem dX6_fork_22 : decode cX6_fork 22 = .ok (.iload_n 1, 1) := by decide +kernel
theorem dX6_fork_23 : decode cX6_fork 23 = .ok (.iload_n 2, 1) := by decide +kernel
theorem dX6_fork_24 : decode cX6_fork 24 = .ok (.invokevirtual 100, 3) := by decide +kernel
theorem dX6_fork_27 : decode cX6_fork 27 = .ok (.aload_n 0, 1) := by decide +kernel
theorem dX6_fork_28 : decode cX6_fork 28 = .ok (.iconst 1, 1) := by decide +kernel
theorem dX6_fork_29 : decode cX6_fork 29 = .ok (.putfield 46, 3) := by decide +kernel
theorem dX6_fork_32 : decode cX6_fork 32 = .ok (.return_, 1) := by decide +kernel
theorem dX6_pair_0 : decode cX6_pair 0 = .ok (.aload_n 0, 1) := by decide +kernel
theorem dX6_pair_1 : decode cX6_pair 1 = .ok (.getfield 9, 3) := by decide +kernel
theorem dX6_pair_4 : decode cX6_pair 4 = .ok (.iload_n 1, 1) := by decide +kernel
theorem dX6_pair_5 : decode cX6_pair 5 = .ok (.bipush 7, 2) := by decide +kernel
theorem dX6_pair_7 : decode cX6_pair 7 = .ok (.imul, 1) := by decide +kernel
theorem dX6_pair_8 : decode cX6_pair 8 = .ok (.iload_n 2, 1) := by decide +kernel
theorem dX6_pair_9 : decode cX6_pair 9 = .ok (.iadd, 1) := by decide +kernel
theorem dX6_pair_10 : decode cX6_pair 10 = .ok (.dup2, 1) := by decide +kernel
theorem dX6_pair_11 : decode cX6_pair 11 = .ok (.iaload, 1) := by decide +kernel
theorem dX6_pair_12 : decode cX6_pair 12 = .ok (.iconst 1, 1) := by decide +kernel
theorem dX6_pair_13 : decode cX6_pair 13 = .ok (.iadd, 1) := by decide +kernel
theorem dX6_pair_14 : decode cX6_pair 14 = .ok (.iastore, 1) := by decide +kernel
theorem dX6_pair_15 : decode cX6_pair 15 = .ok (.aload_n 0, 1) := by decide +kernel
theorem dX6_pair_16 : decode cX6_pair 16 = .ok (.getfield 9, 3) := by decide +kernel
theorem dX6_pair_19 : decode cX6_pair 19 = .ok (.iload_n 2, 1) := by decide +kernel
theorem dX6_pair_20 : decode cX6_pair 20 = .ok (.bipush 7, 2) := by decide +kernel
theorem dX6_pair_22 : decode cX6_pair 22 = .ok (.imul, 1) := by decide +kernel
theorem dX6_pair_23 : decode cX6_pair 23 = .ok (.iload_n 1, 1) := by decide +kernel
theorem dX6_pair_24 : decode cX6_pair 24 = .ok (.iadd, 1) := by decide +kernel
theorem dX6_pair_25 : decode cX6_pair 25 = .ok (.dup2, 1) := by decide +kernel
theorem dX6_pair_26 : decode cX6_pair 26 = .ok (.iaload, 1) := by decide +kernel
theorem dX6_pair_27 : decode cX6_pair 27 = .ok (.iconst 1, 1) := by decide +kernel
theorem dX6_pair_28 : decode cX6_pair 28 = .ok (.iadd, 1) := by decide +kernel
theorem dX6_pair_29 : decode cX6_pair 29 = .ok (.iastore, 1) := by decide +kernel
theorem dX6_pair_30 : decode cX6_pair 30 = .ok (.return_, 1) := by decide +kernel
theorem dX6_addFork_0 : decode cX6_addFork 0 = .ok (.aload_n 0, 1) := by decide +kernel
theorem dX6_addFork_1 : decode cX6_addFork 1 = .ok (.getfield 18, 3) := by decide +kernel
theorem dX6_addFork_4 : decode cX6_addFork 4 = .ok (.aload_n 0, 1) := by decide +kernel
theorem dX6_addFork_5 : decode cX6_addFork 5 = .ok (.getfield 36, 3) := by decide +kernel
theorem dX6_addFork_8 : decode cX6_addFork 8 = .ok (.iload_n 1, 1) := by decide +kernel
theorem dX6_addFork_9 : decode cX6_addFork 9 = .ok (.iastore, 1) := by decide +kernel
theorem dX6_addFork_10 : decode cX6_addFork 10 = .ok (.aload_n 0, 1) := by decide +kernel
theorem dX6_addFork_11 : decode cX6_addFork 11 = .ok (.getfield 21, 3) := by decide +kernel
theorem dX6_addFork_14 : decode cX6_addFork 14 = .ok (.aload_n 0, 1) := by decide +kernel
theorem dX6_addFork_15 : decode cX6_addFork 15 = .ok (.getfield 36, 3) := by decide +kernel
theorem dX6_addFork_18 : decode cX6_addFork 18 = .ok (.iload_n 2, 1) := by decide +kernel
theorem dX6_addFork_19 : decode cX6_addFork 19 = .ok (.iastore, 1) := by decide +kernel
theorem dX6_addFork_20 : decode cX6_addFork 20 = .ok (.aload_n 0, 1) := by decide +kernel
theorem dX6_addFork_21 : decode cX6_addFork 21 = .ok (.getfield 24, 3) := by decide +kernel
theorem dX6_addFork_24 : decode cX6_addFork 24 = .ok (.aload_n 0, 1) := by decide +kernel
theorem dX6_addFork_25 : decode cX6_addFork 25 = .ok (.getfield 36, 3) := by decide +kernel
theorem dX6_addFork_28 : decode cX6_addFork 28 = .ok (.iload_n 3, 1) := by decide +kernel
theorem dX6_addFork_29 : decode cX6_addFork 29 = .ok (.iastore, 1) := by decide +kernel
theorem dX6_addFork_30 : decode cX6_addFork 30 = .ok (.aload_n 0, 1) := by decide +kernel
theorem dX6_addFork_31 : decode cX6_addFork 31 = .ok (.dup, 1) := by decide +kernel
theorem dX6_addFork_32 : decode cX6_addFork 32 = .ok (.getfield 36, 3) := by decide +kernel
theorem dX6_addFork_35 : decode cX6_addFork 35 = .ok (.iconst 1, 1) := by decide +kernel
theorem dX6_addFork_36 : decode cX6_addFork 36 = .ok (.iadd, 1) := by decide +kernel
theorem dX6_addFork_37 : decode cX6_addFork 37 = .ok (.putfield 36, 3) := by decide +kernel
theorem dX6_addFork_40 : decode cX6_addFork 40 = .ok (.return_, 1) := by decide +kernel
theorem dX6_measure_0 : decode cX6_measure 0 = .ok (.iconst 0, 1) := by decide +kernel
theorem dX6_measure_1 : decode cX6_measure 1 = .ok (.istore_n 2, 1) := by decide +kernel
theorem dX6_measure_2 : decode cX6_measure 2 = .ok (.iload_n 2, 1) := by decide +kernel
theorem dX6_measure_3 : decode cX6_measure 3 = .ok (.bipush 7, 2) := by decide +kernel
theorem dX6_measure_5 : decode cX6_measure 5 = .ok (.if_icmp .ge 48, 3) := by decide +kernel
theorem dX6_measure_8 : decode cX6_measure 8 = .ok (.iconst 0, 1) := by decide +kernel
theorem dX6_measure_9 : decode cX6_measure 9 = .ok (.istore_n 3, 1) := by decide +kernel
theorem dX6_measure_10 : decode cX6_measure 10 = .ok (.iload_n 3, 1) := by decide +kernel
theorem dX6_measure_11 : decode cX6_measure 11 = .ok (.bipush 7, 2) := by decide +kernel
theorem dX6_measure_13 : decode cX6_measure 13 = .ok (.if_icmp .ge 34, 3) := by decide +kernel
theorem dX6_measure_16 : decode cX6_measure 16 = .ok (.aload_n 0, 1) := by decide +kernel
theorem dX6_measure_17 : decode cX6_measure 17 = .ok (.getfield 15, 3) := by decide +kernel
theorem dX6_measure_20 : decode cX6_measure 20 = .ok (.iload_n 2, 1) := by decide +kernel
theorem dX6_measure_21 : decode cX6_measure 21 = .ok (.bipush 8, 2) := by decide +kernel
theorem dX6_measure_23 : decode cX6_measure 23 = .ok (.imul, 1) := by decide +kernel
theorem dX6_measure_24 : decode cX6_measure 24 = .ok (.iload_n 3, 1) := by decide +kernel
theorem dX6_measure_25 : decode cX6_measure 25 = .ok (.iadd, 1) := by decide +kernel
theorem dX6_measure_26 : decode cX6_measure 26 = .ok (.aload_n 1, 1) := by decide +kernel
theorem dX6_measure_27 : decode cX6_measure 27 = .ok (.iload_n 2, 1) := by decide +kernel
theorem dX6_measure_28 : decode cX6_measure 28 = .ok (.iload_n 3, 1) := by decide +kernel
theorem dX6_measure_29 : decode cX6_measure 29 = .ok (.invokevirtual 103, 3) := by decide +kernel
theorem dX6_measure_32 : decode cX6_measure 32 = .ok (.ifCond .eq 7, 3) := by decide +kernel
theorem dX6_measure_35 : decode cX6_measure 35 = .ok (.iconst 1, 1) := by decide +kernel
theorem dX6_measure_36 : decode cX6_measure 36 = .ok (.goto 4, 3) := by decide +kernel
theorem dX6_measure_39 : decode cX6_measure 39 = .ok (.iconst 0, 1) := by decide +kernel
theorem dX6_measure_40 : decode cX6_measure 40 = .ok (.iastore, 1) := by decide +kernel
theorem dX6_measure_41 : decode cX6_measure 41 = .ok (.iinc 3 1, 3) := by decide +kernel
theorem dX6_measure_44 : decode cX6_measure 44 = .ok (.goto (-34), 3) := by decide +kernel
theorem dX6_measure_47 : decode cX6_measure 47 = .ok (.iinc 2 1, 3) := by decide +kernel
theorem dX6_measure_50 : decode cX6_measure 50 = .ok (.goto (-48), 3) := by decide +kernel
theorem dX6_measure_53 : decode cX6_measure 53 = .ok (.return_, 1) := by decide +kernel
theorem dX7_init_0 : decode cX7_init 0 = .ok (.aload_n 0, 1) := by decide +kernel
theorem dX7_init_1 : decode cX7_init 1 = .ok (.invokespecial 3, 3) := by decide +kernel
theorem dX7_init_4 : decode cX7_init 4 = .ok (.aload_n 0, 1) := by decide +kernel
theorem dX7_init_5 : decode cX7_init 5 = .ok (.new 9, 3) := by decide +kernel
theorem dX7_init_8 : decode cX7_init 8 = .ok (.dup, 1) := by decide +kernel
theorem dX7_init_9 : decode cX7_init 9 = .ok (.invokespecial 11, 3) := by decide +kernel
theorem dX7_init_12 : decode cX7_init 12 = .ok (.putfield 12, 3) := by decide +kernel
theorem dX7_init_15 : decode cX7_init 15 = .ok (.aload_n 0, 1) := by decide +kernel
theorem dX7_init_16 : decode cX7_init 16 = .ok (.iconst 2, 1) := by decide +kernel
theorem dX7_init_17 : decode cX7_init 17 = .ok (.anewarray 9, 3) := by decide +kernel
theorem dX7_init_20 : decode cX7_init 20 = .ok (.putfield 16, 3) := by decide +kernel
theorem dX7_init_23 : decode cX7_init 23 = .ok (.iconst 0, 1) := by decide +kernel
theorem dX7_init_24 : decode cX7_init 24 = .ok (.istore_n 1, 1) := by decide +kernel
theorem dX7_init_25 : decode cX7_init 25 = .ok (.iload_n 1, 1) := by decide +kernel
theorem dX7_init_26 : decode cX7_init 26 = .ok (.iconst 2, 1) := by decide +kernel
theorem dX7_init_27 : decode cX7_init 27 = .ok (.if_icmp .ge 22, 3) := by decide +kernel
theorem dX7_init_30 : decode cX7_init 30 = .ok (.aload_n 0, 1) := by decide +kernel
theorem dX7_init_31 : decode cX7_init 31 = .ok (.getfield 16, 3) := by decide +kernel
theorem dX7_init_34 : decode cX7_init 34 = .ok (.iload_n 1, 1) := by decide +kernel
theorem dX7_init_35 : decode cX7_init 35 = .ok (.new 9, 3) := by decide +kernel
theorem dX7_init_38 : decode cX7_init 38 = .ok (.dup, 1) := by decide +kernel
theorem dX7_init_39 : decode cX7_init 39 = .ok (.invokespecial 11, 3) := by decide +kernel
theorem dX7_init_42 : decode cX7_init 42 = .ok (.aastore, 1) := by decide +kernel
theorem dX7_init_43 : decode cX7_init 43 = .ok (.iinc 1 1, 3) := by decide +kernel
theorem dX7_init_46 : decode cX7_init 46 = .ok (.goto (-21), 3) := by decide +kernel
theorem dX7_init_49 : decode cX7_init 49 = .ok (.aload_n 0, 1) := by decide +kernel
theorem dX7_init_50 : decode cX7_init 50 = .ok (.new 20, 3) := by decide +kernel
theorem dX7_init_53 : decode cX7_init 53 = .ok (.dup, 1) := by decide +kernel
theorem dX7_init_54 : decode cX7_init 54 = .ok (.invokespecial 22, 3) := by decide +kernel
theorem dX7_init_57 : decode cX7_init 57 = .ok (.putfield 23, 3) := by decide +kernel
theorem dX7_init_60 : decode cX7_init 60 = .ok (.aload_n 0, 1) := by decide +kernel
theorem dX7_init_61 : decode cX7_init 61 = .ok (.new 27, 3) := by decide +kernel
theorem dX7_init_64 : decode cX7_init 64 = .ok (.dup, 1) := by decide +kernel
theorem dX7_init_65 : decode cX7_init 65 = .ok (.invokespecial 29, 3) := by decide +kernel
theorem dX7_init_68 : decode cX7_init 68 = .ok (.putfield 30, 3) := by decide +kernel
theorem dX7_init_71 : decode cX7_init 71 = .ok (.aload_n 0, 1) := by decide +kernel
theorem dX7_init_72 : decode cX7_init 72 = .ok (.getfield 30, 3) := by decide +kernel
theorem dX7_init_75 : decode cX7_init 75 = .ok (.aload_n 0, 1) := by decide +kernel
theorem dX7_init_76 : decode cX7_init 76 = .ok (.getfield 12, 3) := by decide +kernel
theorem dX7_init_79 : decode cX7_init 79 = .ok (.invokevirtual 34, 3) := by decide +kernel
theorem dX7_init_82 : decode cX7_init 82 = .ok (.aload_n 0, 1) := by decide +kernel
theorem dX7_init_83 : decode cX7_init 83 = .ok (.new 38, 3) := by decide +kernel
theorem dX7_init_86 : decode cX7_init 86 = .ok (.dup, 1) := by decide +kernel
theorem dX7_init_87 : decode cX7_init 87 = .ok (.aload_n 0, 1) := by decide +kernel
theorem dX7_init_88 : decode cX7_init 88 = .ok (.getfield 12, 3) := by decide +kernel
theorem dX7_init_91 : decode cX7_init 91 = .ok (.aload_n 0, 1) := by decide +kernel
theorem dX7_init_92 : decode cX7_init 92 = .ok (.getfield 30, 3) := by decide +kernel
theorem dX7_init_95 : decode cX7_init 95 = .ok (.invokespecial 40, 3) := by decide +kernel
theorem dX7_init_98 : decode cX7_init 98 = .ok (.putfield 43, 3) := by decide +kernel
theorem dX7_init_101 : decode cX7_init 101 = .ok (.aload_n 0, 1) := by decide +kernel
theorem dX7_init_102 : decode cX7_init 102 = .ok (.new 47, 3) := by decide +kernel
theorem dX7_init_105 : decode cX7_init 105 = .ok (.dup, 1) := by decide +kernel
theorem dX7_init_106 : decode cX7_init 106 = .ok (.invokespecial 49, 3) := by decide +kernel
theorem dX7_init_109 : decode cX7_init 109 = .ok (.putfield 50, 3) := by decide +kernel
theorem dX7_init_112 : decode cX7_init 112 = .ok (.return_, 1) := by decide +kernel
theorem dX7_put_0 : decode cX7_put 0 = .ok (.iload_n 1, 1) := by decide +kernel
theorem dX7_put_1 : decode cX7_put 1 = .ok (.ifCond .lt 8, 3) := by decide +kernel
theorem dX7_put_4 : decode cX7_put 4 = .ok (.iload_n 1, 1) := by decide +kernel
theorem dX7_put_5 : decode cX7_put 5 = .ok (.iconst 4, 1) := by decide +kernel
theorem dX7_put_6 : decode cX7_put 6 = .ok (.if_icmp .le 6, 3) := by decide +kernel
theorem dX7_put_9 : decode cX7_put 9 = .ok (.bipush (-2), 2) := by decide +kernel
theorem dX7_put_11 : decode cX7_put 11 = .ok (.ireturn, 1) := by decide +kernel
theorem dX7_put_12 : decode cX7_put 12 = .ok (.iload_n 2, 1) := by decide +kernel
theorem dX7_put_13 : decode cX7_put 13 = .ok (.invokestatic 54, 3) := by decide +kernel
theorem dX7_put_16 : decode cX7_put 16 = .ok (.ifCond .eq 22, 3) := by decide +kernel
theorem dX7_put_19 : decode cX7_put 19 = .ok (.iload_n 3, 1) := by decide +kernel
theorem dX7_put_20 : decode cX7_put 20 = .ok (.invokestatic 54, 3) := by decide +kernel
theorem dX7_put_23 : decode cX7_put 23 = .ok (.ifCond .eq 15, 3) := by decide +kernel
theorem dX7_put_26 : decode cX7_put 26 = .ok (.iload_n 1, 1) := by decide +kernel
theorem dX7_put_27 : decode cX7_put 27 = .ok (.ifCond .eq 13, 3) := by decide +kernel
theorem dX7_put_30 : decode cX7_put 30 = .ok (.iload 4, 2) := by decide +kernel
theorem dX7_put_32 : decode cX7_put 32 = .ok (.invokestatic 54, 3) := by decide +kernel
theorem dX7_put_35 : decode cX7_put 35 = .ok (.ifCond .ne 5, 3) := by decide +kernel
theorem dX7_put_38 : decode cX7_put 38 = .ok (.iconst (-1), 1) := by decide +kernel
theorem dX7_put_39 : decode cX7_put 39 = .ok (.ireturn, 1) := by decide +kernel
theorem dX7_put_40 : decode cX7_put 40 = .ok (.aload_n 0, 1) := by decide +kernel
theorem dX7_put_41 : decode cX7_put 41 = .ok (.getfield 12, 3) := by decide +kernel
theorem dX7_put_44 : decode cX7_put 44 = .ok (.getfield 58, 3) := by decide +kernel
theorem dX7_put_47 : decode cX7_put 47 = .ok (.bipush 10, 2) := by decide +kernel
theorem dX7_put_49 : decode cX7_put 49 = .ok (.if_icmp .lt 6, 3) := by decide +kernel
theorem dX7_put_52 : decode cX7_put 52 = .ok (.bipush (-4), 2) := by decide +kernel
theorem dX7_put_54 : decode cX7_put 54 = .ok (.ireturn, 1) := by decide +kernel
theorem dX7_put_55 : decode cX7_put 55 = .ok (.aload_n 0, 1) := by decide +kernel
theorem dX7_put_56 : decode cX7_put 56 = .ok (.getfield 12, 3) := by decide +kernel
theorem dX7_put_59 : decode cX7_put 59 = .ok (.iload_n 1, 1) := by decide +kernel
theorem dX7_put_60 : decode cX7_put 60 = .ok (.iload_n 2, 1) := by decide +kernel
theorem dX7_put_61 : decode cX7_put 61 = .ok (.iload_n 3, 1) := by decide +kernel
theorem dX7_put_62 : decode cX7_put 62 = .ok (.iload_n 1, 1) := by decide +kernel
theorem dX7_put_63 : decode cX7_put 63 = .ok (.ifCond .ne 7, 3) := by decide +kernel
theorem dX7_put_66 : decode cX7_put 66 = .ok (.iload_n 3, 1) := by decide +kernel
theorem dX7_put_67 : decode cX7_put 67 = .ok (.goto 5, 3) := by decide +kernel
theorem dX7_put_70 : decode cX7_put 70 = .ok (.iload 4, 2) := by decide +kernel
theorem dX7_put_72 : decode cX7_put 72 = .ok (.invokevirtual 62, 3) := by decide +kernel
theorem dX7_put_75 : decode cX7_put 75 = .ok (.aload_n 0, 1) := by decide +kernel
theorem dX7_put_76 : decode cX7_put 76 = .ok (.invokevirtual 66, 3) := by decide +kernel
theorem dX7_put_79 : decode cX7_put 79 = .ok (.aload_n 0, 1) := by decide +kernel
theorem dX7_put_80 : decode cX7_put 80 = .ok (.getfield 12, 3) := by decide +kernel
theorem dX7_put_83 : decode cX7_put 83 = .ok (.getfield 58, 3) := by decide +kernel
theorem dX7_put_86 : decode cX7_put 86 = .ok (.iconst 1, 1) := by decide +kernel
theorem dX7_put_87 : decode cX7_put 87 = .ok (.isub, 1) := by decide +kernel
theorem dX7_put_88 : decode cX7_put 88 = .ok (.ireturn, 1) := by decide +kernel
theorem dX7_drop_0 : decode cX7_drop 0 = .ok (.aload_n 0, 1) := by decide +kernel
theorem dX7_drop_1 : decode cX7_drop 1 = .ok (.getfield 12, 3) := by decide +kernel
theorem dX7_drop_4 : decode cX7_drop 4 = .ok (.iload_n 1, 1) := by decide +kernel
theorem dX7_drop_5 : decode cX7_drop 5 = .ok (.invokevirtual 69, 3) := by decide +kernel
theorem dX7_drop_8 : decode cX7_drop 8 = .ok (.ifCond .ne 5, 3) := by decide +kernel
theorem dX7_drop_11 : decode cX7_drop 11 = .ok (.iconst (-1), 1) := by decide +kernel
theorem dX7_drop_12 : decode cX7_drop 12 = .ok (.ireturn, 1) := by decide +kernel
theorem dX7_drop_13 : decode cX7_drop 13 = .ok (.aload_n 0, 1) := by decide +kernel
theorem dX7_drop_14 : decode cX7_drop 14 = .ok (.getfield 12, 3) := by decide +kernel
theorem dX7_drop_17 : decode cX7_drop 17 = .ok (.iload_n 1, 1) := by decide +kernel
theorem dX7_drop_18 : decode cX7_drop 18 = .ok (.invokevirtual 72, 3) := by decide +kernel
theorem dX7_drop_21 : decode cX7_drop 21 = .ok (.aload_n 0, 1) := by decide +kernel
theorem dX7_drop_22 : decode cX7_drop 22 = .ok (.invokevirtual 66, 3) := by decide +kernel
theorem dX7_drop_25 : decode cX7_drop 25 = .ok (.aload_n 0, 1) := by decide +kernel
theorem dX7_drop_26 : decode cX7_drop 26 = .ok (.getfield 12, 3) := by decide +kernel
theorem dX7_drop_29 : decode cX7_drop 29 = .ok (.getfield 58, 3) := by decide +kernel
theorem dX7_drop_32 : decode cX7_drop 32 = .ok (.ireturn, 1) := by decide +kernel
theorem dX7_cross_0 : decode cX7_cross 0 = .ok (.aload_n 0, 1) := by decide +kernel
theorem dX7_cross_1 : decode cX7_cross 1 = .ok (.getfield 12, 3) := by decide +kernel
theorem dX7_cross_4 : decode cX7_cross 4 = .ok (.iload_n 1, 1) := by decide +kernel
theorem dX7_cross_5 : decode cX7_cross 5 = .ok (.invokevirtual 69, 3) := by decide +kernel
theorem dX7_cross_8 : decode cX7_cross 8 = .ok (.ifCond .ne 5, 3) := by decide +kernel
theorem dX7_cross_11 : decode cX7_cross 11 = .ok (.iconst (-1), 1) := by decide +kernel
theorem dX7_cross_12 : decode cX7_cross 12 = .ok (.ireturn, 1) := by decide +kernel
theorem dX7_cross_13 : decode cX7_cross 13 = .ok (.aload_n 0, 1) := by decide +kernel
theorem dX7_cross_14 : decode cX7_cross 14 = .ok (.getfield 12, 3) := by decide +kernel
theorem dX7_cross_17 : decode cX7_cross 17 = .ok (.getfield 76, 3) := by decide +kernel
theorem dX7_cross_20 : decode cX7_cross 20 = .ok (.iload_n 1, 1) := by decide +kernel
theorem dX7_cross_21 : decode cX7_cross 21 = .ok (.iaload, 1) := by decide +kernel
theorem dX7_cross_22 : decode cX7_cross 22 = .ok (.ifCond .ne 6, 3) := by decide +kernel
theorem dX7_cross_25 : decode cX7_cross 25 = .ok (.bipush (-5), 2) := by decide +kernel
theorem dX7_cross_27 : decode cX7_cross 27 = .ok (.ireturn, 1) := by decide +kernel
theorem dX7_cross_28 : decode cX7_cross 28 = .ok (.aload_n 0, 1) := by decide +kernel
theorem dX7_cross_29 : decode cX7_cross 29 = .ok (.getfield 12, 3) := by decide +kernel
theorem dX7_cross_32 : decode cX7_cross 32 = .ok (.getfield 80, 3) := by decide +kernel
theorem dX7_cross_35 : decode cX7_cross 35 = .ok (.iload_n 1, 1) := by decide +kernel
theorem dX7_cross_36 : decode cX7_cross 36 = .ok (.iaload, 1) := by decide +kernel
theorem dX7_cross_37 : decode cX7_cross 37 = .ok (.istore_n 2, 1) := by decide +kernel
theorem dX7_cross_38 : decode cX7_cross 38 = .ok (.aload_n 0, 1) := by decide +kernel
theorem dX7_cross_39 : decode cX7_cross 39 = .ok (.getfield 12, 3) := by decide +kernel
theorem dX7_cross_42 : decode cX7_cross 42 = .ok (.getfield 80, 3) := by decide +kernel
theorem dX7_cross_45 : decode cX7_cross 45 = .ok (.iload_n 1, 1) := by decide +kernel
theorem dX7_cross_46 : decode cX7_cross 46 = .ok (.aload_n 0, 1) := by decide +kernel
theorem dX7_cross_47 : decode cX7_cross 47 = .ok (.getfield 12, 3) := by decide +kernel
theorem dX7_cross_50 : decode cX7_cross 50 = .ok (.getfield 83, 3) := by decide +kernel
theorem dX7_cross_53 : decode cX7_cross 53 = .ok (.iload_n 1, 1) := by decide +kernel
theorem dX7_cross_54 : decode cX7_cross 54 = .ok (.iaload, 1) := by decide +kernel
theorem dX7_cross_55 : decode cX7_cross 55 = .ok (.iastore, 1) := by decide +kernel
theorem dX7_cross_56 : decode cX7_cross 56 = .ok (.aload_n 0, 1) := by decide +kernel
theorem dX7_cross_57 : decode cX7_cross 57 = .ok (.getfield 12, 3) := by decide +kernel
theorem dX7_cross_60 : decode cX7_cross 60 = .ok (.getfield 83, 3) := by decide +kernel
theorem dX7_cross_63 : decode cX7_cross 63 = .ok (.iload_n 1, 1) := by decide +kernel
theorem dX7_cross_64 : decode cX7_cross 64 = .ok (.iload_n 2, 1) := by decide +kernel
theorem dX7_cross_65 : decode cX7_cross 65 = .ok (.iastore, 1) := by decide +kernel
theorem dX7_cross_66 : decode cX7_cross 66 = .ok (.aload_n 0, 1) := by decide +kernel
theorem dX7_cross_67 : decode cX7_cross 67 = .ok (.invokevirtual 66, 3) := by decide +kernel
theorem dX7_cross_70 : decode cX7_cross 70 = .ok (.iload_n 1, 1) := by decide +kernel
theorem dX7_cross_71 : decode cX7_cross 71 = .ok (.ireturn, 1) := by decide +kernel
theorem dX7_told_0 : decode cX7_told 0 = .ok (.aload_n 0, 1) := by decide +kernel
theorem dX7_told_1 : decode cX7_told 1 = .ok (.getfield 12, 3) := by decide +kernel
theorem dX7_told_4 : decode cX7_told 4 = .ok (.iload_n 1, 1) := by decide +kernel
theorem dX7_told_5 : decode cX7_told 5 = .ok (.invokevirtual 69, 3) := by decide +kernel
theorem dX7_told_8 : decode cX7_told 8 = .ok (.ifCond .ne 5, 3) := by decide +kernel
theorem dX7_told_11 : decode cX7_told 11 = .ok (.iconst (-1), 1) := by decide +kernel
theorem dX7_told_12 : decode cX7_told 12 = .ok (.ireturn, 1) := by decide +kernel
theorem dX7_told_13 : decode cX7_told 13 = .ok (.iload_n 2, 1) := by decide +kernel
theorem dX7_told_14 : decode cX7_told 14 = .ok (.tableswitch 87 0 3 #[30, 40, 50, 60], 30) := by decide +kernel
theorem dX7_told_44 : decode cX7_told 44 = .ok (.aload_n 0, 1) := by decide +kernel
theorem dX7_told_45 : decode cX7_told 45 = .ok (.getfield 12, 3) := by decide +kernel
theorem dX7_told_48 : decode cX7_told 48 = .ok (.getfield 76, 3) := by decide +kernel
theorem dX7_told_51 : decode cX7_told 51 = .ok (.iload_n 1, 1) := by decide +kernel
theorem dX7_told_52 : decode cX7_told 52 = .ok (.iaload, 1) := by decide +kernel
theorem dX7_told_53 : decode cX7_told 53 = .ok (.ireturn, 1) := by decide +kernel
theorem dX7_told_54 : decode cX7_told 54 = .ok (.aload_n 0, 1) := by decide +kernel
theorem dX7_told_55 : decode cX7_told 55 = .ok (.getfield 12, 3) := by decide +kernel
theorem dX7_told_58 : decode cX7_told 58 = .ok (.getfield 86, 3) := by decide +kernel
theorem dX7_told_61 : decode cX7_told 61 = .ok (.iload_n 1, 1) := by decide +kernel
theorem dX7_told_62 : decode cX7_told 62 = .ok (.iaload, 1) := by decide +kernel
theorem dX7_told_63 : decode cX7_told 63 = .ok (.ireturn, 1) := by decide +kernel
theorem dX7_told_64 : decode cX7_told 64 = .ok (.aload_n 0, 1) := by decide +kernel
theorem dX7_told_65 : decode cX7_told 65 = .ok (.getfield 12, 3) := by decide +kernel
theorem dX7_told_68 : decode cX7_told 68 = .ok (.getfield 80, 3) := by decide +kernel
theorem dX7_told_71 : decode cX7_told 71 = .ok (.iload_n 1, 1) := by decide +kernel
theorem dX7_told_72 : decode cX7_told 72 = .ok (.iaload, 1) := by decide +kernel
theorem dX7_told_73 : decode cX7_told 73 = .ok (.ireturn, 1) := by decide +kernel
theorem dX7_told_74 : decode cX7_told 74 = .ok (.aload_n 0, 1) := by decide +kernel
theorem dX7_told_75 : decode cX7_told 75 = .ok (.getfield 12, 3) := by decide +kernel
theorem dX7_told_78 : decode cX7_told 78 = .ok (.getfield 76, 3) := by decide +kernel
theorem dX7_told_81 : decode cX7_told 81 = .ok (.iload_n 1, 1) := by decide +kernel
theorem dX7_told_82 : decode cX7_told 82 = .ok (.iaload, 1) := by decide +kernel
theorem dX7_told_83 : decode cX7_told 83 = .ok (.ifCond .ne 8, 3) := by decide +kernel
theorem dX7_told_86 : decode cX7_told 86 = .ok (.bipush (-6), 2) := by decide +kernel
theorem dX7_told_88 : decode cX7_told 88 = .ok (.goto 12, 3) := by decide +kernel
theorem dX7_told_91 : decode cX7_told 91 = .ok (.aload_n 0, 1) := by decide +kernel
theorem dX7_told_92 : decode cX7_told 92 = .ok (.getfield 12, 3) := by decide +kernel
theorem dX7_told_95 : decode cX7_told 95 = .ok (.getfield 83, 3) := by decide +kernel
theorem dX7_told_98 : decode cX7_told 98 = .ok (.iload_n 1, 1) := by decide +kernel
theorem dX7_told_99 : decode cX7_told 99 = .ok (.iaload, 1) := by decide +kernel
theorem dX7_told_100 : decode cX7_told 100 = .ok (.ireturn, 1) := by decide +kernel
theorem dX7_told_101 : decode cX7_told 101 = .ok (.bipush (-2), 2) := by decide +kernel
theorem dX7_told_103 : decode cX7_told 103 = .ok (.ireturn, 1) := by decide +kernel
theorem dX7_free_0 : decode cX7_free 0 = .ok (.iload_n 1, 1) := by decide +kernel
theorem dX7_free_1 : decode cX7_free 1 = .ok (.iconst 1, 1) := by decide +kernel
theorem dX7_free_2 : decode cX7_free 2 = .ok (.if_icmp .lt 18, 3) := by decide +kernel
theorem dX7_free_5 : decode cX7_free 5 = .ok (.iload_n 1, 1) := by decide +kernel
theorem dX7_free_6 : decode cX7_free 6 = .ok (.bipush 6, 2) := by decide +kernel
theorem dX7_free_8 : decode cX7_free 8 = .ok (.if_icmp .gt 12, 3) := by decide +kernel
theorem dX7_free_11 : decode cX7_free 11 = .ok (.iload_n 2, 1) := by decide +kernel
theorem dX7_free_12 : decode cX7_free 12 = .ok (.ifCond .lt 8, 3) := by decide +kernel
theorem dX7_free_15 : decode cX7_free 15 = .ok (.iload_n 2, 1) := by decide +kernel
theorem dX7_free_16 : decode cX7_free 16 = .ok (.iconst 1, 1) := by decide +kernel
theorem dX7_free_17 : decode cX7_free 17 = .ok (.if_icmp .le 6, 3) := by decide +kernel
theorem dX7_free_20 : decode cX7_free 20 = .ok (.bipush (-2), 2) := by decide +kernel
theorem dX7_free_22 : decode cX7_free 22 = .ok (.ireturn, 1) := by decide +kernel
theorem dX7_free_23 : decode cX7_free 23 = .ok (.aload_n 0, 1) := by decide +kernel
theorem dX7_free_24 : decode cX7_free 24 = .ok (.getfield 12, 3) := by decide +kernel
theorem dX7_free_27 : decode cX7_free 27 = .ok (.getfield 89, 3) := by decide +kernel
theorem dX7_free_30 : decode cX7_free 30 = .ok (.iconst 1, 1) := by decide +kernel
theorem dX7_free_31 : decode cX7_free 31 = .ok (.iload_n 1, 1) := by decide +kernel
theorem dX7_free_32 : decode cX7_free 32 = .ok (.ishl, 1) := by decide +kernel
theorem dX7_free_33 : decode cX7_free 33 = .ok (.iconst (-1), 1) := by decide +kernel
theorem dX7_free_34 : decode cX7_free 34 = .ok (.ixor, 1) := by decide +kernel
theorem dX7_free_35 : decode cX7_free 35 = .ok (.iand, 1) := by decide +kernel
theorem dX7_free_36 : decode cX7_free 36 = .ok (.istore_n 3, 1) := by decide +kernel
theorem dX7_free_37 : decode cX7_free 37 = .ok (.iload_n 3, 1) := by decide +kernel
theorem dX7_free_38 : decode cX7_free 38 = .ok (.iload_n 2, 1) := by decide +kernel
theorem dX7_free_39 : decode cX7_free 39 = .ok (.iload_n 1, 1) := by decide +kernel
theorem dX7_free_40 : decode cX7_free 40 = .ok (.ishl, 1) := by decide +kernel
theorem dX7_free_41 : decode cX7_free 41 = .ok (.ior, 1) := by decide +kernel
theorem dX7_free_42 : decode cX7_free 42 = .ok (.istore 4, 2) := by decide +kernel
theorem dX7_free_44 : decode cX7_free 44 = .ok (.iload 4, 2) := by decide +kernel
theorem dX7_free_46 : decode cX7_free 46 = .ok (.aload_n 0, 1) := by decide +kernel
theorem dX7_free_47 : decode cX7_free 47 = .ok (.getfield 12, 3) := by decide +kernel
theorem dX7_free_50 : decode cX7_free 50 = .ok (.getfield 89, 3) := by decide +kernel
theorem dX7_free_53 : decode cX7_free 53 = .ok (.if_icmp .eq 16, 3) := by decide +kernel
theorem dX7_free_56 : decode cX7_free 56 = .ok (.aload_n 0, 1) := by decide +kernel
theorem dX7_free_57 : decode cX7_free 57 = .ok (.getfield 12, 3) := by decide +kernel
theorem dX7_free_60 : decode cX7_free 60 = .ok (.iload 4, 2) := by decide +kernel
theorem dX7_free_62 : decode cX7_free 62 = .ok (.putfield 89, 3) := by decide +kernel
theorem dX7_free_65 : decode cX7_free 65 = .ok (.aload_n 0, 1) := by decide +kernel
theorem dX7_free_66 : decode cX7_free 66 = .ok (.invokevirtual 66, 3) := by decide +kernel
theorem dX7_free_69 : decode cX7_free 69 = .ok (.aload_n 0, 1) := by decide +kernel
theorem dX7_free_70 : decode cX7_free 70 = .ok (.getfield 12, 3) := by decide +kernel
theorem dX7_free_73 : decode cX7_free 73 = .ok (.getfield 89, 3) := by decide +kernel
theorem dX7_free_76 : decode cX7_free 76 = .ok (.ireturn, 1) := by decide +kernel
theorem dX7_set_0 : decode cX7_set 0 = .ok (.iload_n 1, 1) := by decide +kernel
theorem dX7_set_1 : decode cX7_set 1 = .ok (.invokestatic 54, 3) := by decide +kernel
theorem dX7_set_4 : decode cX7_set 4 = .ok (.ifCond .ne 5, 3) := by decide +kernel
theorem dX7_set_7 : decode cX7_set 7 = .ok (.iconst (-1), 1) := by decide +kernel
theorem dX7_set_8 : decode cX7_set 8 = .ok (.ireturn, 1) := by decide +kernel
theorem dX7_set_9 : decode cX7_set 9 = .ok (.aload_n 0, 1) := by decide +kernel
theorem dX7_set_10 : decode cX7_set 10 = .ok (.getfield 12, 3) := by decide +kernel
theorem dX7_set_13 : decode cX7_set 13 = .ok (.getfield 92, 3) := by decide +kernel
theorem dX7_set_16 : decode cX7_set 16 = .ok (.iload_n 1, 1) := by decide +kernel
theorem dX7_set_17 : decode cX7_set 17 = .ok (.iload_n 2, 1) := by decide +kernel
theorem dX7_set_18 : decode cX7_set 18 = .ok (.iastore, 1) := by decide +kernel
theorem dX7_set_19 : decode cX7_set 19 = .ok (.iconst 0, 1) := by decide +kernel
theorem dX7_set_20 : decode cX7_set 20 = .ok (.istore_n 3, 1) := by decide +kernel
theorem dX7_set_21 : decode cX7_set 21 = .ok (.iconst 0, 1) := by decide +kernel
theorem dX7_set_22 : decode cX7_set 22 = .ok (.istore 4, 2) := by decide +kernel
theorem dX7_set_24 : decode cX7_set 24 = .ok (.iload 4, 2) := by decide +kernel
theorem dX7_set_26 : decode cX7_set 26 = .ok (.bipush 7, 2) := by decide +kernel
theorem dX7_set_28 : decode cX7_set 28 = .ok (.if_icmp .ge 25, 3) := by decide +kernel
theorem dX7_set_31 : decode cX7_set 31 = .ok (.aload_n 0, 1) := by decide +kernel
theorem dX7_set_32 : decode cX7_set 32 = .ok (.getfield 12, 3) := by decide +kernel
theorem dX7_set_35 : decode cX7_set 35 = .ok (.getfield 92, 3) := by decide +kernel
theorem dX7_set_38 : decode cX7_set 38 = .ok (.iload 4, 2) := by decide +kernel
theorem dX7_set_40 : decode cX7_set 40 = .ok (.iaload, 1) := by decide +kernel
theorem dX7_set_41 : decode cX7_set 41 = .ok (.ifCond .eq 6, 3) := by decide +kernel
theorem dX7_set_44 : decode cX7_set 44 = .ok (.iinc 3 1, 3) := by decide +kernel
theorem dX7_set_47 : decode cX7_set 47 = .ok (.iinc 4 1, 3) := by decide +kernel
theorem dX7_set_50 : decode cX7_set 50 = .ok (.goto (-26), 3) := by decide +kernel
theorem dX7_set_53 : decode cX7_set 53 = .ok (.iload_n 3, 1) := by decide +kernel
theorem dX7_set_54 : decode cX7_set 54 = .ok (.ireturn, 1) := by decide +kernel
theorem dX7_value_0 : decode cX7_value 0 = .ok (.iload_n 1, 1) := by decide +kernel
theorem dX7_value_1 : decode cX7_value 1 = .ok (.invokestatic 54, 3) := by decide +kernel
theorem dX7_value_4 : decode cX7_value 4 = .ok (.ifCond .eq 16, 3) := by decide +kernel
theorem dX7_value_7 : decode cX7_value 7 = .ok (.aload_n 0, 1) := by decide +kernel
theorem dX7_value_8 : decode cX7_value 8 = .ok (.getfield 12, 3) := by decide +kernel
theorem dX7_value_11 : decode cX7_value 11 = .ok (.getfield 92, 3) := by decide +kernel
theorem dX7_value_14 : decode cX7_value 14 = .ok (.iload_n 1, 1) := by decide +kernel
theorem dX7_value_15 : decode cX7_value 15 = .ok (.iaload, 1) := by decide +kernel
theorem dX7_value_16 : decode cX7_value 16 = .ok (.i2l, 1) := by decide +kernel
theorem dX7_value_17 : decode cX7_value 17 = .ok (.goto 6, 3) := by decide +kernel
theorem dX7_value_20 : decode cX7_value 20 = .ok (.ldc2_w 95, 3) := by decide +kernel
theorem dX7_value_23 : decode cX7_value 23 = .ok (.lreturn, 1) := by decide +kernel
theorem dX7_sight_0 : decode cX7_sight 0 = .ok (.aload_n 0, 1) := by decide +kernel
theorem dX7_sight_1 : decode cX7_sight 1 = .ok (.getfield 23, 3) := by decide +kernel
theorem dX7_sight_4 : decode cX7_sight 4 = .ok (.aload_n 0, 1) := by decide +kernel
theorem dX7_sight_5 : decode cX7_sight 5 = .ok (.getfield 12, 3) := by decide +kernel
theorem dX7_sight_8 : decode cX7_sight 8 = .ok (.iconst 0, 1) := by decide +kernel
theorem dX7_sight_9 : decode cX7_sight 9 = .ok (.invokevirtual 97, 3) := by decide +kernel
theorem dX7_sight_12 : decode cX7_sight 12 = .ok (.aload_n 0, 1) := by decide +kernel
theorem dX7_sight_13 : decode cX7_sight 13 = .ok (.getfield 23, 3) := by decide +kernel
theorem dX7_sight_16 : decode cX7_sight 16 = .ok (.iload_n 1, 1) := by decide +kernel
theorem dX7_sight_17 : decode cX7_sight 17 = .ok (.invokevirtual 101, 3) := by decide +kernel
theorem dX7_sight_20 : decode cX7_sight 20 = .ok (.ifCond .eq 15, 3) := by decide +kernel
theorem dX7_sight_23 : decode cX7_sight 23 = .ok (.aload_n 0, 1) := by decide +kernel
theorem dX7_sight_24 : decode cX7_sight 24 = .ok (.getfield 23, 3) := by decide +kernel
theorem dX7_sight_27 : decode cX7_sight 27 = .ok (.getfield 102, 3) := by decide +kernel
theorem dX7_sight_30 : decode cX7_sight 30 = .ok (.iload_n 1, 1) := by decide +kernel
theorem dX7_sight_31 : decode cX7_sight 31 = .ok (.iaload, 1) := by decide +kernel
theorem dX7_sight_32 : decode cX7_sight 32 = .ok (.goto 5, 3) := by decide +kernel
theorem dX7_sight_35 : decode cX7_sight 35 = .ok (.bipush (-6), 2) := by decide +kernel
theorem dX7_sight_37 : decode cX7_sight 37 = .ok (.ireturn, 1) := by decide +kernel
theorem dX7_plan_0 : decode cX7_plan 0 = .ok (.iload_n 1, 1) := by decide +kernel
theorem dX7_plan_1 : decode cX7_plan 1 = .ok (.iload_n 2, 1) := by decide +kernel
theorem dX7_plan_2 : decode cX7_plan 2 = .ok (.invokestatic 105, 3) := by decide +kernel
theorem dX7_plan_5 : decode cX7_plan 5 = .ok (.ifCond .eq 12, 3) := by decide +kernel
theorem dX7_plan_8 : decode cX7_plan 8 = .ok (.iload_n 3, 1) := by decide +kernel
theorem dX7_plan_9 : decode cX7_plan 9 = .ok (.ifCond .lt 8, 3) := by decide +kernel
theorem dX7_plan_12 : decode cX7_plan 12 = .ok (.iload_n 3, 1) := by decide +kernel
theorem dX7_plan_13 : decode cX7_plan 13 = .ok (.iconst 2, 1) := by decide +kernel
theorem dX7_plan_14 : decode cX7_plan 14 = .ok (.if_icmp .le 6, 3) := by decide +kernel
theorem dX7_plan_17 : decode cX7_plan 17 = .ok (.bipush (-2), 2) := by decide +kernel
theorem dX7_plan_19 : decode cX7_plan 19 = .ok (.ireturn, 1) := by decide +kernel
theorem dX7_plan_20 : decode cX7_plan 20 = .ok (.aload_n 0, 1) := by decide +kernel
theorem dX7_plan_21 : decode cX7_plan 21 = .ok (.getfield 43, 3) := by decide +kernel
theorem dX7_plan_24 : decode cX7_plan 24 = .ok (.iload_n 1, 1) := by decide +kernel
theorem dX7_plan_25 : decode cX7_plan 25 = .ok (.iload_n 2, 1) := by decide +kernel
theorem dX7_plan_26 : decode cX7_plan 26 = .ok (.invokevirtual 109, 3) := by decide +kernel
theorem dX7_plan_29 : decode cX7_plan 29 = .ok (.astore 4, 2) := by decide +kernel
theorem dX7_plan_31 : decode cX7_plan 31 = .ok (.iload_n 3, 1) := by decide +kernel
theorem dX7_plan_32 : decode cX7_plan 32 = .ok (.ifCond .ne 9, 3) := by decide +kernel
theorem dX7_plan_35 : decode cX7_plan 35 = .ok (.aload 4, 2) := by decide +kernel
theorem dX7_plan_37 : decode cX7_plan 37 = .ok (.getfield 113, 3) := by decide +kernel
theorem dX7_plan_40 : decode cX7_plan 40 = .ok (.ireturn, 1) := by decide +kernel
theorem dX7_plan_41 : decode cX7_plan 41 = .ok (.iload_n 3, 1) := by decide +kernel
theorem dX7_plan_42 : decode cX7_plan 42 = .ok (.iconst 1, 1) := by decide +kernel
theorem dX7_plan_43 : decode cX7_plan 43 = .ok (.if_icmp .ne 11, 3) := by decide +kernel
theorem dX7_plan_46 : decode cX7_plan 46 = .ok (.aload 4, 2) := by decide +kernel
theorem dX7_plan_48 : decode cX7_plan 48 = .ok (.getfield 118, 3) := by decide +kernel
theorem dX7_plan_51 : decode cX7_plan 51 = .ok (.goto 8, 3) := by decide +kernel
theorem dX7_plan_54 : decode cX7_plan 54 = .ok (.aload 4, 2) := by decide +kernel
theorem dX7_plan_56 : decode cX7_plan 56 = .ok (.getfield 121, 3) := by decide +kernel
theorem dX7_plan_59 : decode cX7_plan 59 = .ok (.ireturn, 1) := by decide +kernel
theorem dX7_place_0 : decode cX7_place 0 = .ok (.iload_n 3, 1) := by decide +kernel
theorem dX7_place_1 : decode cX7_place 1 = .ok (.invokestatic 54, 3) := by decide +kernel
theorem dX7_place_4 : decode cX7_place 4 = .ok (.ifCond .eq 17, 3) := by decide +kernel
theorem dX7_place_7 : decode cX7_place 7 = .ok (.aload_n 0, 1) := by decide +kernel
theorem dX7_place_8 : decode cX7_place 8 = .ok (.getfield 12, 3) := by decide +kernel
theorem dX7_place_11 : decode cX7_place 11 = .ok (.invokevirtual 124, 3) := by decide +kernel
theorem dX7_place_14 : decode cX7_place 14 = .ok (.iload_n 3, 1) := by decide +kernel
theorem dX7_place_15 : decode cX7_place 15 = .ok (.ishr, 1) := by decide +kernel
theorem dX7_place_16 : decode cX7_place 16 = .ok (.iconst 1, 1) := by decide +kernel
theorem dX7_place_17 : decode cX7_place 17 = .ok (.iand, 1) := by decide +kernel
theorem dX7_place_18 : decode cX7_place 18 = .ok (.ifCond .ne 5, 3) := by decide +kernel
theorem dX7_place_21 : decode cX7_place 21 = .ok (.iconst (-1), 1) := by decide +kernel
theorem dX7_place_22 : decode cX7_place 22 = .ok (.ireturn, 1) := by decide +kernel
theorem dX7_place_23 : decode cX7_place 23 = .ok (.iload_n 1, 1) := by decide +kernel
theorem dX7_place_24 : decode cX7_place 24 = .ok (.iload_n 2, 1) := by decide +kernel
theorem dX7_place_25 : decode cX7_place 25 = .ok (.invokestatic 105, 3) := by decide +kernel
theorem dX7_place_28 : decode cX7_place 28 = .ok (.ifCond .eq 14, 3) := by decide +kernel
theorem dX7_place_31 : decode cX7_place 31 = .ok (.iload 4, 2) := by decide +kernel
theorem dX7_place_33 : decode cX7_place 33 = .ok (.ifCond .lt 9, 3) := by decide +kernel
theorem dX7_place_36 : decode cX7_place 36 = .ok (.iload 4, 2) := by decide +kernel
theorem dX7_place_38 : decode cX7_place 38 = .ok (.iconst 1, 1) := by decide +kernel
theorem dX7_place_39 : decode cX7_place 39 = .ok (.if_icmp .le 6, 3) := by decide +kernel
theorem dX7_place_42 : decode cX7_place 42 = .ok (.bipush (-2), 2) := by decide +kernel
theorem dX7_place_44 : decode cX7_place 44 = .ok (.ireturn, 1) := by decide +kernel
theorem dX7_place_45 : decode cX7_place 45 = .ok (.aload_n 0, 1) := by decide +kernel
theorem dX7_place_46 : decode cX7_place 46 = .ok (.getfield 43, 3) := by decide +kernel
theorem dX7_place_49 : decode cX7_place 49 = .ok (.iload_n 1, 1) := by decide +kernel
theorem dX7_place_50 : decode cX7_place 50 = .ok (.iload_n 2, 1) := by decide +kernel
theorem dX7_place_51 : decode cX7_place 51 = .ok (.invokevirtual 109, 3) := by decide +kernel
theorem dX7_place_54 : decode cX7_place 54 = .ok (.astore 5, 2) := by decide +kernel
theorem dX7_place_56 : decode cX7_place 56 = .ok (.iload 4, 2) := by decide +kernel
theorem dX7_place_58 : decode cX7_place 58 = .ok (.ifCond .ne 13, 3) := by decide +kernel
theorem dX7_place_61 : decode cX7_place 61 = .ok (.aload 5, 2) := by decide +kernel
theorem dX7_place_63 : decode cX7_place 63 = .ok (.getfield 128, 3) := by decide +kernel
theorem dX7_place_66 : decode cX7_place 66 = .ok (.iload_n 3, 1) := by decide +kernel
theorem dX7_place_67 : decode cX7_place 67 = .ok (.iaload, 1) := by decide +kernel
theorem dX7_place_68 : decode cX7_place 68 = .ok (.goto 10, 3) := by decide +kernel
theorem dX7_place_71 : decode cX7_place 71 = .ok (.aload 5, 2) := by decide +kernel
theorem dX7_place_73 : decode cX7_place 73 = .ok (.getfield 131, 3) := by decide +kernel
theorem dX7_place_76 : decode cX7_place 76 = .ok (.iload_n 3, 1) := by decide +kernel
theorem dX7_place_77 : decode cX7_place 77 = .ok (.iaload, 1) := by decide +kernel
theorem dX7_place_78 : decode cX7_place 78 = .ok (.ireturn, 1) := by decide +kernel
theorem dX7_step_0 : decode cX7_step 0 = .ok (.iload_n 1, 1) := by decide +kernel
theorem dX7_step_1 : decode cX7_step 1 = .ok (.iload_n 2, 1) := by decide +kernel
theorem dX7_step_2 : decode cX7_step 2 = .ok (.invokestatic 105, 3) := by decide +kernel
theorem dX7_step_5 : decode cX7_step 5 = .ok (.ifCond .eq 14, 3) := by decide +kernel
theorem dX7_step_8 : decode cX7_step 8 = .ok (.iload 4, 2) := by decide +kernel
theorem dX7_step_10 : decode cX7_step 10 = .ok (.ifCond .lt 9, 3) := by decide +kernel
theorem dX7_step_13 : decode cX7_step 13 = .ok (.iload 4, 2) := by decide +kernel
theorem dX7_step_15 : decode cX7_step 15 = .ok (.iconst 2, 1) := by decide +kernel
theorem dX7_step_16 : decode cX7_step 16 = .ok (.if_icmp .le 6, 3) := by decide +kernel
theorem dX7_step_19 : decode cX7_step 19 = .ok (.bipush (-2), 2) := by decide +kernel
theorem dX7_step_21 : decode cX7_step 21 = .ok (.ireturn, 1) := by decide +kernel
theorem dX7_step_22 : decode cX7_step 22 = .ok (.aload_n 0, 1) := by decide +kernel
theorem dX7_step_23 : decode cX7_step 23 = .ok (.getfield 43, 3) := by decide +kernel
theorem dX7_step_26 : decode cX7_step 26 = .ok (.iload_n 1, 1) := by decide +kernel
theorem dX7_step_27 : decode cX7_step 27 = .ok (.iload_n 2, 1) := by decide +kernel
theorem dX7_step_28 : decode cX7_step 28 = .ok (.invokevirtual 109, 3) := by decide +kernel
theorem dX7_step_31 : decode cX7_step 31 = .ok (.astore 5, 2) := by decide +kernel
theorem dX7_step_33 : decode cX7_step 33 = .ok (.aload_n 0, 1) := by decide +kernel
theorem dX7_step_34 : decode cX7_step 34 = .ok (.getfield 23, 3) := by decide +kernel
theorem dX7_step_37 : decode cX7_step 37 = .ok (.aload_n 0, 1) := by decide +kernel
theorem dX7_step_38 : decode cX7_step 38 = .ok (.getfield 12, 3) := by decide +kernel
theorem dX7_step_41 : decode cX7_step 41 = .ok (.aload 5, 2) := by decide +kernel
theorem dX7_step_43 : decode cX7_step 43 = .ok (.getfield 121, 3) := by decide +kernel
theorem dX7_step_46 : decode cX7_step 46 = .ok (.invokevirtual 97, 3) := by decide +kernel
theorem dX7_step_49 : decode cX7_step 49 = .ok (.aload_n 0, 1) := by decide +kernel
theorem dX7_step_50 : decode cX7_step 50 = .ok (.getfield 23, 3) := by decide +kernel
theorem dX7_step_53 : decode cX7_step 53 = .ok (.iload_n 3, 1) := by decide +kernel
theorem dX7_step_54 : decode cX7_step 54 = .ok (.invokevirtual 101, 3) := by decide +kernel
theorem dX7_step_57 : decode cX7_step 57 = .ok (.ifCond .ne 6, 3) := by decide +kernel
theorem dX7_step_60 : decode cX7_step 60 = .ok (.bipush (-6), 2) := by decide +kernel
theorem dX7_step_62 : decode cX7_step 62 = .ok (.ireturn, 1) := by decide +kernel
theorem dX7_step_63 : decode cX7_step 63 = .ok (.aload_n 0, 1) := by decide +kernel
theorem dX7_step_64 : decode cX7_step 64 = .ok (.getfield 23, 3) := by decide +kernel
theorem dX7_step_67 : decode cX7_step 67 = .ok (.getfield 102, 3) := by decide +kernel
theorem dX7_step_70 : decode cX7_step 70 = .ok (.iload_n 3, 1) := by decide +kernel
theorem dX7_step_71 : decode cX7_step 71 = .ok (.iaload, 1) := by decide +kernel
theorem dX7_step_72 : decode cX7_step 72 = .ok (.istore 6, 2) := by decide +kernel
theorem dX7_step_74 : decode cX7_step 74 = .ok (.iload 4, 2) := by decide +kernel
theorem dX7_step_76 : decode cX7_step 76 = .ok (.ifCond .ne 6, 3) := by decide +kernel
theorem dX7_step_79 : decode cX7_step 79 = .ok (.iload 6, 2) := by decide +kernel
theorem dX7_step_81 : decode cX7_step 81 = .ok (.ireturn, 1) := by decide +kernel
theorem dX7_step_82 : decode cX7_step 82 = .ok (.aload_n 0, 1) := by decide +kernel
theorem dX7_step_83 : decode cX7_step 83 = .ok (.getfield 23, 3) := by decide +kernel
theorem dX7_step_86 : decode cX7_step 86 = .ok (.iload_n 3, 1) := by decide +kernel
theorem dX7_step_87 : decode cX7_step 87 = .ok (.aload 5, 2) := by decide +kernel
theorem dX7_step_89 : decode cX7_step 89 = .ok (.getfield 128, 3) := by decide +kernel
theorem dX7_step_92 : decode cX7_step 92 = .ok (.invokevirtual 134, 3) := by decide +kernel
theorem dX7_step_95 : decode cX7_step 95 = .ok (.istore 7, 2) := by decide +kernel
theorem dX7_step_97 : decode cX7_step 97 = .ok (.iload 7, 2) := by decide +kernel
theorem dX7_step_99 : decode cX7_step 99 = .ok (.ifCond .lt 29, 3) := by decide +kernel
theorem dX7_step_102 : decode cX7_step 102 = .ok (.aload_n 0, 1) := by decide +kernel
theorem dX7_step_103 : decode cX7_step 103 = .ok (.getfield 12, 3) := by decide +kernel
theorem dX7_step_106 : decode cX7_step 106 = .ok (.aload 5, 2) := by decide +kernel
theorem dX7_step_108 : decode cX7_step 108 = .ok (.getfield 131, 3) := by decide +kernel
theorem dX7_step_111 : decode cX7_step 111 = .ok (.iload 7, 2) := by decide +kernel
theorem dX7_step_113 : decode cX7_step 113 = .ok (.iaload, 1) := by decide +kernel
theorem dX7_step_114 : decode cX7_step 114 = .ok (.aload 5, 2) := by decide +kernel
theorem dX7_step_116 : decode cX7_step 116 = .ok (.getfield 131, 3) := by decide +kernel
theorem dX7_step_119 : decode cX7_step 119 = .ok (.iload 6, 2) := by decide +kernel
theorem dX7_step_121 : decode cX7_step 121 = .ok (.iaload, 1) := by decide +kernel
theorem dX7_step_122 : decode cX7_step 122 = .ok (.invokevirtual 138, 3) := by decide +kernel
theorem dX7_step_125 : decode cX7_step 125 = .ok (.ifCond .eq 7, 3) := by decide +kernel
theorem dX7_step_128 : decode cX7_step 128 = .ok (.iconst 1, 1) := by decide +kernel
theorem dX7_step_129 : decode cX7_step 129 = .ok (.goto 4, 3) := by decide +kernel
theorem dX7_step_132 : decode cX7_step 132 = .ok (.iconst 0, 1) := by decide +kernel
theorem dX7_step_133 : decode cX7_step 133 = .ok (.istore 8, 2) := by decide +kernel
theorem dX7_step_135 : decode cX7_step 135 = .ok (.iload 4, 2) := by decide +kernel
theorem dX7_step_137 : decode cX7_step 137 = .ok (.iconst 1, 1) := by decide +kernel
theorem dX7_step_138 : decode cX7_step 138 = .ok (.if_icmp .ne 14, 3) := by decide +kernel
theorem dX7_step_141 : decode cX7_step 141 = .ok (.iload 8, 2) := by decide +kernel
theorem dX7_step_143 : decode cX7_step 143 = .ok (.ifCond .eq 7, 3) := by decide +kernel
theorem dX7_step_146 : decode cX7_step 146 = .ok (.iconst 1, 1) := by decide +kernel
theorem dX7_step_147 : decode cX7_step 147 = .ok (.goto 4, 3) := by decide +kernel
theorem dX7_step_150 : decode cX7_step 150 = .ok (.iconst 0, 1) := by decide +kernel
theorem dX7_step_151 : decode cX7_step 151 = .ok (.ireturn, 1) := by decide +kernel
theorem dX7_step_152 : decode cX7_step 152 = .ok (.iload 8, 2) := by decide +kernel
theorem dX7_step_154 : decode cX7_step 154 = .ok (.ifCond .eq 7, 3) := by decide +kernel
theorem dX7_step_157 : decode cX7_step 157 = .ok (.iconst 0, 1) := by decide +kernel
theorem dX7_step_158 : decode cX7_step 158 = .ok (.goto 20, 3) := by decide +kernel
theorem dX7_step_161 : decode cX7_step 161 = .ok (.aload 5, 2) := by decide +kernel
theorem dX7_step_163 : decode cX7_step 163 = .ok (.getfield 131, 3) := by decide +kernel
theorem dX7_step_166 : decode cX7_step 166 = .ok (.iload 6, 2) := by decide +kernel
theorem dX7_step_168 : decode cX7_step 168 = .ok (.iaload, 1) := by decide +kernel
theorem dX7_step_169 : decode cX7_step 169 = .ok (.aload 5, 2) := by decide +kernel
theorem dX7_step_171 : decode cX7_step 171 = .ok (.getfield 131, 3) := by decide +kernel
theorem dX7_step_174 : decode cX7_step 174 = .ok (.iload 7, 2) := by decide +kernel
theorem dX7_step_176 : decode cX7_step 176 = .ok (.iaload, 1) := by decide +kernel
theorem dX7_step_177 : decode cX7_step 177 = .ok (.isub, 1) := by decide +kernel
theorem dX7_step_178 : decode cX7_step 178 = .ok (.ireturn, 1) := by decide +kernel
theorem dX7_run_0 : decode cX7_run 0 = .ok (.iload_n 1, 1) := by decide +kernel
theorem dX7_run_1 : decode cX7_run 1 = .ok (.iload_n 2, 1) := by decide +kernel
theorem dX7_run_2 : decode cX7_run 2 = .ok (.invokestatic 105, 3) := by decide +kernel
theorem dX7_run_5 : decode cX7_run 5 = .ok (.ifCond .ne 6, 3) := by decide +kernel
theorem dX7_run_8 : decode cX7_run 8 = .ok (.bipush (-2), 2) := by decide +kernel
theorem dX7_run_10 : decode cX7_run 10 = .ok (.ireturn, 1) := by decide +kernel
theorem dX7_run_11 : decode cX7_run 11 = .ok (.aload_n 0, 1) := by decide +kernel
theorem dX7_run_12 : decode cX7_run 12 = .ok (.getfield 12, 3) := by decide +kernel
theorem dX7_run_15 : decode cX7_run 15 = .ok (.invokevirtual 141, 3) := by decide +kernel
theorem dX7_run_18 : decode cX7_run 18 = .ok (.aload_n 0, 1) := by decide +kernel
theorem dX7_run_19 : decode cX7_run 19 = .ok (.getfield 43, 3) := by decide +kernel
theorem dX7_run_22 : decode cX7_run 22 = .ok (.iload_n 1, 1) := by decide +kernel
theorem dX7_run_23 : decode cX7_run 23 = .ok (.iload_n 2, 1) := by decide +kernel
theorem dX7_run_24 : decode cX7_run 24 = .ok (.invokevirtual 109, 3) := by decide +kernel
theorem dX7_run_27 : decode cX7_run 27 = .ok (.getfield 113, 3) := by decide +kernel
theorem dX7_run_30 : decode cX7_run 30 = .ok (.ireturn, 1) := by decide +kernel
theorem dX7_weight_0 : decode cX7_weight 0 = .ok (.iload_n 1, 1) := by decide +kernel
theorem dX7_weight_1 : decode cX7_weight 1 = .ok (.invokestatic 54, 3) := by decide +kernel
theorem dX7_weight_4 : decode cX7_weight 4 = .ok (.ifCond .eq 10, 3) := by decide +kernel
theorem dX7_weight_7 : decode cX7_weight 7 = .ok (.iload_n 2, 1) := by decide +kernel
theorem dX7_weight_8 : decode cX7_weight 8 = .ok (.invokestatic 54, 3) := by decide +kernel
theorem dX7_weight_11 : decode cX7_weight 11 = .ok (.ifCond .ne 5, 3) := by decide +kernel
theorem dX7_weight_14 : decode cX7_weight 14 = .ok (.iconst (-1), 1) := by decide +kernel
theorem dX7_weight_15 : decode cX7_weight 15 = .ok (.ireturn, 1) := by decide +kernel
theorem dX7_weight_16 : decode cX7_weight 16 = .ok (.aload_n 0, 1) := by decide +kernel
theorem dX7_weight_17 : decode cX7_weight 17 = .ok (.invokevirtual 144, 3) := by decide +kernel
theorem dX7_weight_20 : decode cX7_weight 20 = .ok (.iload_n 1, 1) := by decide +kernel
theorem dX7_weight_21 : decode cX7_weight 21 = .ok (.bipush 7, 2) := by decide +kernel
theorem dX7_weight_23 : decode cX7_weight 23 = .ok (.imul, 1) := by decide +kernel
theorem dX7_weight_24 : decode cX7_weight 24 = .ok (.iload_n 2, 1) := by decide +kernel
theorem dX7_weight_25 : decode cX7_weight 25 = .ok (.iadd, 1) := by decide +kernel
theorem dX7_weight_26 : decode cX7_weight 26 = .ok (.iaload, 1) := by decide +kernel
theorem dX7_weight_27 : decode cX7_weight 27 = .ok (.ireturn, 1) := by decide +kernel
theorem dX7_taken_0 : decode cX7_taken 0 = .ok (.iload_n 1, 1) := by decide +kernel
theorem dX7_taken_1 : decode cX7_taken 1 = .ok (.invokestatic 54, 3) := by decide +kernel
theorem dX7_taken_4 : decode cX7_taken 4 = .ok (.ifCond .eq 10, 3) := by decide +kernel
theorem dX7_taken_7 : decode cX7_taken 7 = .ok (.iload_n 2, 1) := by decide +kernel
theorem dX7_taken_8 : decode cX7_taken 8 = .ok (.invokestatic 54, 3) := by decide +kernel
theorem dX7_taken_11 : decode cX7_taken 11 = .ok (.ifCond .ne 5, 3) := by decide +kernel
theorem dX7_taken_14 : decode cX7_taken 14 = .ok (.iconst (-1), 1) := by decide +kernel
theorem dX7_taken_15 : decode cX7_taken 15 = .ok (.ireturn, 1) := by decide +kernel
theorem dX7_taken_16 : decode cX7_taken 16 = .ok (.aload_n 0, 1) := by decide +kernel
theorem dX7_taken_17 : decode cX7_taken 17 = .ok (.getfield 50, 3) := by decide +kernel
theorem dX7_taken_20 : decode cX7_taken 20 = .ok (.aload_n 0, 1) := by decide +kernel
theorem dX7_taken_21 : decode cX7_taken 21 = .ok (.invokevirtual 144, 3) := by decide +kernel
theorem dX7_taken_24 : decode cX7_taken 24 = .ok (.invokevirtual 148, 3) := by decide +kernel
theorem dX7_taken_27 : decode cX7_taken 27 = .ok (.aload_n 0, 1) := by decide +kernel
theorem dX7_taken_28 : decode cX7_taken 28 = .ok (.getfield 50, 3) := by decide +kernel
theorem dX7_taken_31 : decode cX7_taken 31 = .ok (.iload_n 1, 1) := by decide +kernel
theorem dX7_taken_32 : decode cX7_taken 32 = .ok (.iload_n 2, 1) := by decide +kernel
theorem dX7_taken_33 : decode cX7_taken 33 = .ok (.invokevirtual 152, 3) := by decide +kernel
theorem dX7_taken_36 : decode cX7_taken 36 = .ok (.ifCond .eq 7, 3) := by decide +kernel
theorem dX7_taken_39 : decode cX7_taken 39 = .ok (.iconst 1, 1) := by decide +kernel
theorem dX7_taken_40 : decode cX7_taken 40 = .ok (.goto 4, 3) := by decide +kernel
theorem dX7_taken_43 : decode cX7_taken 43 = .ok (.iconst 0, 1) := by decide +kernel
theorem dX7_taken_44 : decode cX7_taken 44 = .ok (.ireturn, 1) := by decide +kernel
theorem dX7_exchange_0 : decode cX7_exchange 0 = .ok (.iload_n 1, 1) := by decide +kernel
theorem dX7_exchange_1 : decode cX7_exchange 1 = .ok (.invokestatic 54, 3) := by decide +kernel
theorem dX7_exchange_4 : decode cX7_exchange 4 = .ok (.ifCond .eq 10, 3) := by decide +kernel
theorem dX7_exchange_7 : decode cX7_exchange 7 = .ok (.iload_n 2, 1) := by decide +kernel
theorem dX7_exchange_8 : decode cX7_exchange 8 = .ok (.invokestatic 54, 3) := by decide +kernel
theorem dX7_exchange_11 : decode cX7_exchange 11 = .ok (.ifCond .ne 5, 3) := by decide +kernel
theorem dX7_exchange_14 : decode cX7_exchange 14 = .ok (.iconst (-1), 1) := by decide +kernel
theorem dX7_exchange_15 : decode cX7_exchange 15 = .ok (.ireturn, 1) := by decide +kernel
theorem dX7_exchange_16 : decode cX7_exchange 16 = .ok (.aload_n 0, 1) := by decide +kernel
theorem dX7_exchange_17 : decode cX7_exchange 17 = .ok (.getfield 12, 3) := by decide +kernel
theorem dX7_exchange_20 : decode cX7_exchange 20 = .ok (.getfield 154, 3) := by decide +kernel
theorem dX7_exchange_23 : decode cX7_exchange 23 = .ok (.iload_n 1, 1) := by decide +kernel
theorem dX7_exchange_24 : decode cX7_exchange 24 = .ok (.iaload, 1) := by decide +kernel
theorem dX7_exchange_25 : decode cX7_exchange 25 = .ok (.istore_n 3, 1) := by decide +kernel
theorem dX7_exchange_26 : decode cX7_exchange 26 = .ok (.aload_n 0, 1) := by decide +kernel
theorem dX7_exchange_27 : decode cX7_exchange 27 = .ok (.getfield 12, 3) := by decide +kernel
theorem dX7_exchange_30 : decode cX7_exchange 30 = .ok (.getfield 154, 3) := by decide +kernel
theorem dX7_exchange_33 : decode cX7_exchange 33 = .ok (.iload_n 1, 1) := by decide +kernel
theorem dX7_exchange_34 : decode cX7_exchange 34 = .ok (.aload_n 0, 1) := by decide +kernel
theorem dX7_exchange_35 : decode cX7_exchange 35 = .ok (.getfield 12, 3) := by decide +kernel
theorem dX7_exchange_38 : decode cX7_exchange 38 = .ok (.getfield 154, 3) := by decide +kernel
theorem dX7_exchange_41 : decode cX7_exchange 41 = .ok (.iload_n 2, 1) := by decide +kernel
theorem dX7_exchange_42 : decode cX7_exchange 42 = .ok (.iaload, 1) := by decide +kernel
theorem dX7_exchange_43 : decode cX7_exchange 43 = .ok (.iastore, 1) := by decide +kernel
theorem dX7_exchange_44 : decode cX7_exchange 44 = .ok (.aload_n 0, 1) := by decide +kernel
theorem dX7_exchange_45 : decode cX7_exchange 45 = .ok (.getfield 12, 3) := by decide +kernel
theorem dX7_exchange_48 : decode cX7_exchange 48 = .ok (.getfield 154, 3) := by decide +kernel
theorem dX7_exchange_51 : decode cX7_exchange 51 = .ok (.iload_n 2, 1) := by decide +kernel
theorem dX7_exchange_52 : decode cX7_exchange 52 = .ok (.iload_n 3, 1) := by decide +kernel
theorem dX7_exchange_53 : decode cX7_exchange 53 = .ok (.iastore, 1) := by decide +kernel
theorem dX7_exchange_54 : decode cX7_exchange 54 = .ok (.aload_n 0, 1) := by decide +kernel
theorem dX7_exchange_55 : decode cX7_exchange 55 = .ok (.getfield 12, 3) := by decide +kernel
theorem dX7_exchange_58 : decode cX7_exchange 58 = .ok (.getfield 154, 3) := by decide +kernel
theorem dX7_exchange_61 : decode cX7_exchange 61 = .ok (.iload_n 1, 1) := by decide +kernel
theorem dX7_exchange_62 : decode cX7_exchange 62 = .ok (.iaload, 1) := by decide +kernel
theorem dX7_exchange_63 : decode cX7_exchange 63 = .ok (.ireturn, 1) := by decide +kernel
theorem dX7_hand_0 : decode cX7_hand 0 = .ok (.iload_n 1, 1) := by decide +kernel
theorem dX7_hand_1 : decode cX7_hand 1 = .ok (.invokestatic 157, 3) := by decide +kernel
theorem dX7_hand_4 : decode cX7_hand 4 = .ok (.ifCond .ne 6, 3) := by decide +kernel
theorem dX7_hand_7 : decode cX7_hand 7 = .ok (.bipush (-2), 2) := by decide +kernel
theorem dX7_hand_9 : decode cX7_hand 9 = .ok (.ireturn, 1) := by decide +kernel
theorem dX7_hand_10 : decode cX7_hand 10 = .ok (.aload_n 0, 1) := by decide +kernel
theorem dX7_hand_11 : decode cX7_hand 11 = .ok (.getfield 30, 3) := by decide +kernel
theorem dX7_hand_14 : decode cX7_hand 14 = .ok (.aload_n 0, 1) := by decide +kernel
theorem dX7_hand_15 : decode cX7_hand 15 = .ok (.getfield 12, 3) := by decide +kernel
theorem dX7_hand_18 : decode cX7_hand 18 = .ok (.bipush 127, 2) := by decide +kernel
theorem dX7_hand_20 : decode cX7_hand 20 = .ok (.iload_n 1, 1) := by decide +kernel
theorem dX7_hand_21 : decode cX7_hand 21 = .ok (.ifCond .ne 7, 3) := by decide +kernel
theorem dX7_hand_24 : decode cX7_hand 24 = .ok (.iconst 0, 1) := by decide +kernel
theorem dX7_hand_25 : decode cX7_hand 25 = .ok (.goto 10, 3) := by decide +kernel
theorem dX7_hand_28 : decode cX7_hand 28 = .ok (.aload_n 0, 1) := by decide +kernel
theorem dX7_hand_29 : decode cX7_hand 29 = .ok (.getfield 12, 3) := by decide +kernel
theorem dX7_hand_32 : decode cX7_hand 32 = .ok (.invokevirtual 160, 3) := by decide +kernel
theorem dX7_hand_35 : decode cX7_hand 35 = .ok (.iconst 0, 1) := by decide +kernel
theorem dX7_hand_36 : decode cX7_hand 36 = .ok (.invokevirtual 163, 3) := by decide +kernel
theorem dX7_hand_39 : decode cX7_hand 39 = .ok (.aload_n 0, 1) := by decide +kernel
theorem dX7_hand_40 : decode cX7_hand 40 = .ok (.getfield 30, 3) := by decide +kernel
theorem dX7_hand_43 : decode cX7_hand 43 = .ok (.aload_n 0, 1) := by decide +kernel
theorem dX7_hand_44 : decode cX7_hand 44 = .ok (.getfield 12, 3) := by decide +kernel
theorem dX7_hand_47 : decode cX7_hand 47 = .ok (.getfield 154, 3) := by decide +kernel
theorem dX7_hand_50 : decode cX7_hand 50 = .ok (.invokevirtual 167, 3) := by decide +kernel
theorem dX7_hand_53 : decode cX7_hand 53 = .ok (.ireturn, 1) := by decide +kernel
theorem dX7_count_0 : decode cX7_count 0 = .ok (.iload_n 1, 1) := by decide +kernel
theorem dX7_count_1 : decode cX7_count 1 = .ok (.bipush 10, 2) := by decide +kernel
theorem dX7_count_3 : decode cX7_count 3 = .ok (.if_icmp .lt 22, 3) := by decide +kernel
theorem dX7_count_6 : decode cX7_count 6 = .ok (.iload_n 1, 1) := by decide +kernel
theorem dX7_count_7 : decode cX7_count 7 = .ok (.bipush 17, 2) := by decide +kernel
theorem dX7_count_9 : decode cX7_count 9 = .ok (.if_icmp .ge 16, 3) := by decide +kernel
theorem dX7_count_12 : decode cX7_count 12 = .ok (.aload_n 0, 1) := by decide +kernel
theorem dX7_count_13 : decode cX7_count 13 = .ok (.getfield 12, 3) := by decide +kernel
theorem dX7_count_16 : decode cX7_count 16 = .ok (.getfield 154, 3) := by decide +kernel
theorem dX7_count_19 : decode cX7_count 19 = .ok (.iload_n 1, 1) := by decide +kernel
theorem dX7_count_20 : decode cX7_count 20 = .ok (.bipush 10, 2) := by decide +kernel
theorem dX7_count_22 : decode cX7_count 22 = .ok (.isub, 1) := by decide +kernel
theorem dX7_count_23 : decode cX7_count 23 = .ok (.iaload, 1) := by decide +kernel
theorem dX7_count_24 : decode cX7_count 24 = .ok (.ireturn, 1) := by decide +kernel
theorem dX7_count_25 : decode cX7_count 25 = .ok (.iload_n 1, 1) := by decide +kernel
theorem dX7_count_26 : decode cX7_count 26 = .ok (.tableswitch 155 0 6 #[42, 50, 70, 78, 102, 121, 150], 42) := by decide +kernel
theorem dX7_count_68 : decode cX7_count 68 = .ok (.aload_n 0, 1) := by decide +kernel
theorem dX7_count_69 : decode cX7_count 69 = .ok (.getfield 12, 3) := by decide +kernel
theorem dX7_count_72 : decode cX7_count 72 = .ok (.getfield 58, 3) := by decide +kernel
theorem dX7_count_75 : decode cX7_count 75 = .ok (.ireturn, 1) := by decide +kernel
theorem dX7_count_76 : decode cX7_count 76 = .ok (.aload_n 0, 1) := by decide +kernel
theorem dX7_count_77 : decode cX7_count 77 = .ok (.getfield 23, 3) := by decide +kernel
theorem dX7_count_80 : decode cX7_count 80 = .ok (.aload_n 0, 1) := by decide +kernel
theorem dX7_count_81 : decode cX7_count 81 = .ok (.getfield 12, 3) := by decide +kernel
theorem dX7_count_84 : decode cX7_count 84 = .ok (.iconst 0, 1) := by decide +kernel
theorem dX7_count_85 : decode cX7_count 85 = .ok (.invokevirtual 97, 3) := by decide +kernel
theorem dX7_count_88 : decode cX7_count 88 = .ok (.aload_n 0, 1) := by decide +kernel
theorem dX7_count_89 : decode cX7_count 89 = .ok (.getfield 23, 3) := by decide +kernel
theorem dX7_count_92 : decode cX7_count 92 = .ok (.getfield 170, 3) := by decide +kernel
theorem dX7_count_95 : decode cX7_count 95 = .ok (.ireturn, 1) := by decide +kernel
theorem dX7_count_96 : decode cX7_count 96 = .ok (.aload_n 0, 1) := by decide +kernel
theorem dX7_count_97 : decode cX7_count 97 = .ok (.getfield 12, 3) := by decide +kernel
theorem dX7_count_100 : decode cX7_count 100 = .ok (.invokevirtual 124, 3) := by decide +kernel
theorem dX7_count_103 : decode cX7_count 103 = .ok (.ireturn, 1) := by decide +kernel
theorem dX7_count_104 : decode cX7_count 104 = .ok (.aload_n 0, 1) := by decide +kernel
theorem dX7_count_105 : decode cX7_count 105 = .ok (.getfield 50, 3) := by decide +kernel
theorem dX7_count_108 : decode cX7_count 108 = .ok (.aload_n 0, 1) := by decide +kernel
theorem dX7_count_109 : decode cX7_count 109 = .ok (.invokevirtual 144, 3) := by decide +kernel
theorem dX7_count_112 : decode cX7_count 112 = .ok (.invokevirtual 148, 3) := by decide +kernel
theorem dX7_count_115 : decode cX7_count 115 = .ok (.aload_n 0, 1) := by decide +kernel
theorem dX7_count_116 : decode cX7_count 116 = .ok (.invokevirtual 173, 3) := by decide +kernel
theorem dX7_count_119 : decode cX7_count 119 = .ok (.aload_n 0, 1) := by decide +kernel
theorem dX7_count_120 : decode cX7_count 120 = .ok (.getfield 50, 3) := by decide +kernel
theorem dX7_count_123 : decode cX7_count 123 = .ok (.getfield 176, 3) := by decide +kernel
theorem dX7_count_126 : decode cX7_count 126 = .ok (.iadd, 1) := by decide +kernel
theorem dX7_count_127 : decode cX7_count 127 = .ok (.ireturn, 1) := by decide +kernel
theorem dX7_count_128 : decode cX7_count 128 = .ok (.aload_n 0, 1) := by decide +kernel
theorem dX7_count_129 : decode cX7_count 129 = .ok (.getfield 50, 3) := by decide +kernel
theorem dX7_count_132 : decode cX7_count 132 = .ok (.aload_n 0, 1) := by decide +kernel
theorem dX7_count_133 : decode cX7_count 133 = .ok (.invokevirtual 144, 3) := by decide +kernel
theorem dX7_count_136 : decode cX7_count 136 = .ok (.invokevirtual 148, 3) := by decide +kernel
theorem dX7_count_139 : decode cX7_count 139 = .ok (.aload_n 0, 1) := by decide +kernel
theorem dX7_count_140 : decode cX7_count 140 = .ok (.getfield 50, 3) := by decide +kernel
theorem dX7_count_143 : decode cX7_count 143 = .ok (.getfield 179, 3) := by decide +kernel
theorem dX7_count_146 : decode cX7_count 146 = .ok (.ireturn, 1) := by decide +kernel
theorem dX7_count_147 : decode cX7_count 147 = .ok (.aload_n 0, 1) := by decide +kernel
theorem dX7_count_148 : decode cX7_count 148 = .ok (.invokevirtual 173, 3) := by decide +kernel
theorem dX7_count_151 : decode cX7_count 151 = .ok (.aload_n 0, 1) := by decide +kernel
theorem dX7_count_152 : decode cX7_count 152 = .ok (.getfield 50, 3) := by decide +kernel
theorem dX7_count_155 : decode cX7_count 155 = .ok (.aload_n 0, 1) := by decide +kernel
theorem dX7_count_156 : decode cX7_count 156 = .ok (.invokevirtual 144, 3) := by decide +kernel
theorem dX7_count_159 : decode cX7_count 159 = .ok (.aload_n 0, 1) := by decide +kernel
theorem dX7_count_160 : decode cX7_count 160 = .ok (.getfield 12, 3) := by decide +kernel
theorem dX7_count_163 : decode cX7_count 163 = .ok (.invokevirtual 124, 3) := by decide +kernel
theorem dX7_count_166 : decode cX7_count 166 = .ok (.invokestatic 182, 3) := by decide +kernel
theorem dX7_count_169 : decode cX7_count 169 = .ok (.iconst 1, 1) := by decide +kernel
theorem dX7_count_170 : decode cX7_count 170 = .ok (.isub, 1) := by decide +kernel
theorem dX7_count_171 : decode cX7_count 171 = .ok (.invokevirtual 188, 3) := by decide +kernel
theorem dX7_count_174 : decode cX7_count 174 = .ok (.iadd, 1) := by decide +kernel
theorem dX7_count_175 : decode cX7_count 175 = .ok (.ireturn, 1) := by decide +kernel
theorem dX7_count_176 : decode cX7_count 176 = .ok (.aload_n 0, 1) := by decide +kernel
theorem dX7_count_177 : decode cX7_count 177 = .ok (.getfield 192, 3) := by decide +kernel
theorem dX7_count_180 : decode cX7_count 180 = .ok (.ireturn, 1) := by decide +kernel
theorem dX7_count_181 : decode cX7_count 181 = .ok (.bipush (-2), 2) := by decide +kernel
theorem dX7_count_183 : decode cX7_count 183 = .ok (.ireturn, 1) := by decide +kernel
theorem dX7_image_0 : decode cX7_image 0 = .ok (.iload_n 1, 1) := by decide +kernel
theorem dX7_image_1 : decode cX7_image 1 = .ok (.ifCond .lt 8, 3) := by decide +kernel
theorem dX7_image_4 : decode cX7_image 4 = .ok (.iload_n 1, 1) := by decide +kernel
theorem dX7_image_5 : decode cX7_image 5 = .ok (.iconst 2, 1) := by decide +kernel
theorem dX7_image_6 : decode cX7_image 6 = .ok (.if_icmp .lt 6, 3) := by decide +kernel
theorem dX7_image_9 : decode cX7_image 9 = .ok (.bipush (-2), 2) := by decide +kernel
theorem dX7_image_11 : decode cX7_image 11 = .ok (.ireturn, 1) := by decide +kernel
theorem dX7_image_12 : decode cX7_image 12 = .ok (.aload_n 0, 1) := by decide +kernel
theorem dX7_image_13 : decode cX7_image 13 = .ok (.getfield 16, 3) := by decide +kernel
theorem dX7_image_16 : decode cX7_image 16 = .ok (.iload_n 1, 1) := by decide +kernel
theorem dX7_image_17 : decode cX7_image 17 = .ok (.aaload, 1) := by decide +kernel
theorem dX7_image_18 : decode cX7_image 18 = .ok (.aload_n 0, 1) := by decide +kernel
theorem dX7_image_19 : decode cX7_image 19 = .ok (.getfield 12, 3) := by decide +kernel
theorem dX7_image_22 : decode cX7_image 22 = .ok (.invokevirtual 195, 3) := by decide +kernel
theorem dX7_image_25 : decode cX7_image 25 = .ok (.aload_n 0, 1) := by decide +kernel
theorem dX7_image_26 : decode cX7_image 26 = .ok (.dup, 1) := by decide +kernel
theorem dX7_image_27 : decode cX7_image 27 = .ok (.getfield 192, 3) := by decide +kernel
theorem dX7_image_30 : decode cX7_image 30 = .ok (.iconst 1, 1) := by decide +kernel
theorem dX7_image_31 : decode cX7_image 31 = .ok (.iload_n 1, 1) := by decide +kernel
theorem dX7_image_32 : decode cX7_image 32 = .ok (.ishl, 1) := by decide +kernel
theorem dX7_image_33 : decode cX7_image 33 = .ok (.ior, 1) := by decide +kernel
theorem dX7_image_34 : decode cX7_image 34 = .ok (.putfield 192, 3) := by decide +kernel
theorem dX7_image_37 : decode cX7_image 37 = .ok (.iconst 1, 1) := by decide +kernel
theorem dX7_image_38 : decode cX7_image 38 = .ok (.ireturn, 1) := by decide +kernel
theorem dX7_restore_0 : decode cX7_restore 0 = .ok (.iload_n 1, 1) := by decide +kernel
theorem dX7_restore_1 : decode cX7_restore 1 = .ok (.ifCond .lt 8, 3) := by decide +kernel
theorem dX7_restore_4 : decode cX7_restore 4 = .ok (.iload_n 1, 1) := by decide +kernel
theorem dX7_restore_5 : decode cX7_restore 5 = .ok (.iconst 2, 1) := by decide +kernel
theorem dX7_restore_6 : decode cX7_restore 6 = .ok (.if_icmp .lt 6, 3) := by decide +kernel
theorem dX7_restore_9 : decode cX7_restore 9 = .ok (.bipush (-2), 2) := by decide +kernel
theorem dX7_restore_11 : decode cX7_restore 11 = .ok (.ireturn, 1) := by decide +kernel
theorem dX7_restore_12 : decode cX7_restore 12 = .ok (.aload_n 0, 1) := by decide +kernel
theorem dX7_restore_13 : decode cX7_restore 13 = .ok (.getfield 192, 3) := by decide +kernel
theorem dX7_restore_16 : decode cX7_restore 16 = .ok (.iload_n 1, 1) := by decide +kernel
theorem dX7_restore_17 : decode cX7_restore 17 = .ok (.ishr, 1) := by decide +kernel
theorem dX7_restore_18 : decode cX7_restore 18 = .ok (.iconst 1, 1) := by decide +kernel
theorem dX7_restore_19 : decode cX7_restore 19 = .ok (.iand, 1) := by decide +kernel
theorem dX7_restore_20 : decode cX7_restore 20 = .ok (.ifCond .ne 6, 3) := by decide +kernel
theorem dX7_restore_23 : decode cX7_restore 23 = .ok (.bipush (-3), 2) := by decide +kernel
theorem dX7_restore_25 : decode cX7_restore 25 = .ok (.ireturn, 1) := by decide +kernel
theorem dX7_restore_26 : decode cX7_restore 26 = .ok (.aload_n 0, 1) := by decide +kernel
theorem dX7_restore_27 : decode cX7_restore 27 = .ok (.getfield 12, 3) := by decide +kernel
theorem dX7_restore_30 : decode cX7_restore 30 = .ok (.aload_n 0, 1) := by decide +kernel
theorem dX7_restore_31 : decode cX7_restore 31 = .ok (.getfield 16, 3) := by decide +kernel
theorem dX7_restore_34 : decode cX7_restore 34 = .ok (.iload_n 1, 1) := by decide +kernel
theorem dX7_restore_35 : decode cX7_restore 35 = .ok (.aaload, 1) := by decide +kernel
theorem dX7_restore_36 : decode cX7_restore 36 = .ok (.invokevirtual 195, 3) := by decide +kernel
theorem dX7_restore_39 : decode cX7_restore 39 = .ok (.aload_n 0, 1) := by decide +kernel
theorem dX7_restore_40 : decode cX7_restore 40 = .ok (.invokevirtual 66, 3) := by decide +kernel
theorem dX7_restore_43 : decode cX7_restore 43 = .ok (.iconst 1, 1) := by decide +kernel
theorem dX7_restore_44 : decode cX7_restore 44 = .ok (.ireturn, 1) := by decide +kernel
theorem dX7_changed_0 : decode cX7_changed 0 = .ok (.aload_n 0, 1) := by decide +kernel
theorem dX7_changed_1 : decode cX7_changed 1 = .ok (.getfield 30, 3) := by decide +kernel
theorem dX7_changed_4 : decode cX7_changed 4 = .ok (.aload_n 0, 1) := by decide +kernel
theorem dX7_changed_5 : decode cX7_changed 5 = .ok (.getfield 12, 3) := by decide +kernel
theorem dX7_changed_8 : decode cX7_changed 8 = .ok (.invokevirtual 34, 3) := by decide +kernel
theorem dX7_changed_11 : decode cX7_changed 11 = .ok (.aload_n 0, 1) := by decide +kernel
theorem dX7_changed_12 : decode cX7_changed 12 = .ok (.getfield 43, 3) := by decide +kernel
theorem dX7_changed_15 : decode cX7_changed 15 = .ok (.invokevirtual 198, 3) := by decide +kernel
theorem dX7_changed_18 : decode cX7_changed 18 = .ok (.return_, 1) := by decide +kernel
theorem dX7_isVariable_0 : decode cX7_isVariable 0 = .ok (.iload_n 0, 1) := by decide +kernel
theorem dX7_isVariable_1 : decode cX7_isVariable 1 = .ok (.ifCond .lt 13, 3) := by decide +kernel
theorem dX7_isVariable_4 : decode cX7_isVariable 4 = .ok (.iload_n 0, 1) := by decide +kernel
theorem dX7_isVariable_5 : decode cX7_isVariable 5 = .ok (.bipush 7, 2) := by decide +kernel
theorem dX7_isVariable_7 : decode cX7_isVariable 7 = .ok (.if_icmp .ge 7, 3) := by decide +kernel
theorem dX7_isVariable_10 : decode cX7_isVariable 10 = .ok (.iconst 1, 1) := by decide +kernel
theorem dX7_isVariable_11 : decode cX7_isVariable 11 = .ok (.goto 4, 3) := by decide +kernel
theorem dX7_isVariable_14 : decode cX7_isVariable 14 = .ok (.iconst 0, 1) := by decide +kernel
theorem dX7_isVariable_15 : decode cX7_isVariable 15 = .ok (.ireturn, 1) := by decide +kernel
theorem dX7_isMode_0 : decode cX7_isMode 0 = .ok (.iload_n 0, 1) := by decide +kernel
theorem dX7_isMode_1 : decode cX7_isMode 1 = .ok (.ifCond .lt 12, 3) := by decide +kernel
theorem dX7_isMode_4 : decode cX7_isMode 4 = .ok (.iload_n 0, 1) := by decide +kernel
theorem dX7_isMode_5 : decode cX7_isMode 5 = .ok (.iconst 2, 1) := by decide +kernel
theorem dX7_isMode_6 : decode cX7_isMode 6 = .ok (.if_icmp .ge 7, 3) := by decide +kernel
theorem dX7_isMode_9 : decode cX7_isMode 9 = .ok (.iconst 1, 1) := by decide +kernel
theorem dX7_isMode_10 : decode cX7_isMode 10 = .ok (.goto 4, 3) := by decide +kernel
theorem dX7_isMode_13 : decode cX7_isMode 13 = .ok (.iconst 0, 1) := by decide +kernel
theorem dX7_isMode_14 : decode cX7_isMode 14 = .ok (.ireturn, 1) := by decide +kernel
theorem dX7_isPlan_0 : decode cX7_isPlan 0 = .ok (.iload_n 0, 1) := by decide +kernel
theorem dX7_isPlan_1 : decode cX7_isPlan 1 = .ok (.iconst 1, 1) := by decide +kernel
theorem dX7_isPlan_2 : decode cX7_isPlan 2 = .ok (.if_icmp .lt 19, 3) := by decide +kernel
theorem dX7_isPlan_5 : decode cX7_isPlan 5 = .ok (.iload_n 0, 1) := by decide +kernel
theorem dX7_isPlan_6 : decode cX7_isPlan 6 = .ok (.iconst 3, 1) := by decide +kernel
theorem dX7_isPlan_7 : decode cX7_isPlan 7 = .ok (.if_icmp .gt 14, 3) := by decide +kernel
theorem dX7_isPlan_10 : decode cX7_isPlan 10 = .ok (.iload_n 1, 1) := by decide +kernel
theorem dX7_isPlan_11 : decode cX7_isPlan 11 = .ok (.invokestatic 157, 3) := by decide +kernel
theorem dX7_isPlan_14 : decode cX7_isPlan 14 = .ok (.ifCond .eq 7, 3) := by decide +kernel
theorem dX7_isPlan_17 : decode cX7_isPlan 17 = .ok (.iconst 1, 1) := by decide +kernel
theorem dX7_isPlan_18 : decode cX7_isPlan 18 = .ok (.goto 4, 3) := by decide +kernel
theorem dX7_isPlan_21 : decode cX7_isPlan 21 = .ok (.iconst 0, 1) := by decide +kernel
theorem dX7_isPlan_22 : decode cX7_isPlan 22 = .ok (.ireturn, 1) := by decide +kernel
theorem dX7_weights_0 : decode cX7_weights 0 = .ok (.aload_n 0, 1) := by decide +kernel
theorem dX7_weights_1 : decode cX7_weights 1 = .ok (.getfield 30, 3) := by decide +kernel
theorem dX7_weights_4 : decode cX7_weights 4 = .ok (.aload_n 0, 1) := by decide +kernel
theorem dX7_weights_5 : decode cX7_weights 5 = .ok (.getfield 12, 3) := by decide +kernel
theorem dX7_weights_8 : decode cX7_weights 8 = .ok (.bipush 127, 2) := by decide +kernel
theorem dX7_weights_10 : decode cX7_weights 10 = .ok (.iconst 0, 1) := by decide +kernel
theorem dX7_weights_11 : decode cX7_weights 11 = .ok (.iconst 0, 1) := by decide +kernel
theorem dX7_weights_12 : decode cX7_weights 12 = .ok (.invokevirtual 163, 3) := by decide +kernel
theorem dX7_weights_15 : decode cX7_weights 15 = .ok (.aload_n 0, 1) := by decide +kernel
theorem dX7_weights_16 : decode cX7_weights 16 = .ok (.getfield 30, 3) := by decide +kernel
theorem dX7_weights_19 : decode cX7_weights 19 = .ok (.getfield 201, 3) := by decide +kernel
theorem dX7_weights_22 : decode cX7_weights 22 = .ok (.areturn, 1) := by decide +kernel
theorem dX7_first_0 : decode cX7_first 0 = .ok (.aload_n 0, 1) := by decide +kernel
theorem dX7_first_1 : decode cX7_first 1 = .ok (.getfield 12, 3) := by decide +kernel
theorem dX7_first_4 : decode cX7_first 4 = .ok (.getfield 58, 3) := by decide +kernel
theorem dX7_first_7 : decode cX7_first 7 = .ok (.ifCond .le 7, 3) := by decide +kernel
theorem dX7_first_10 : decode cX7_first 10 = .ok (.iconst 1, 1) := by decide +kernel
theorem dX7_first_11 : decode cX7_first 11 = .ok (.goto 4, 3) := by decide +kernel
theorem dX7_first_14 : decode cX7_first 14 = .ok (.iconst 0, 1) := by decide +kernel
theorem dX7_first_15 : decode cX7_first 15 = .ok (.ireturn, 1) := by decide +kernel
theorem dX8_init_0 : decode cX8_init 0 = .ok (.aload_n 0, 1) := by decide +kernel
theorem dX8_init_1 : decode cX8_init 1 = .ok (.invokespecial 1, 3) := by decide +kernel
theorem dX8_init_4 : decode cX8_init 4 = .ok (.aload_n 0, 1) := by decide +kernel
theorem dX8_init_5 : decode cX8_init 5 = .ok (.bipush 10, 2) := by decide +kernel
theorem dX8_init_7 : decode cX8_init 7 = .ok (.newarray .int, 2) := by decide +kernel
theorem dX8_init_9 : decode cX8_init 9 = .ok (.putfield 7, 3) := by decide +kernel
theorem dX8_init_12 : decode cX8_init 12 = .ok (.aload_n 0, 1) := by decide +kernel
theorem dX8_init_13 : decode cX8_init 13 = .ok (.bipush 10, 2) := by decide +kernel
theorem dX8_init_15 : decode cX8_init 15 = .ok (.newarray .int, 2) := by decide +kernel
theorem dX8_init_17 : decode cX8_init 17 = .ok (.putfield 13, 3) := by decide +kernel
theorem dX8_init_20 : decode cX8_init 20 = .ok (.aload_n 0, 1) := by decide +kernel
theorem dX8_init_21 : decode cX8_init 21 = .ok (.bipush 10, 2) := by decide +kernel
theorem dX8_init_23 : decode cX8_init 23 = .ok (.newarray .int, 2) := by decide +kernel
theorem dX8_init_25 : decode cX8_init 25 = .ok (.putfield 16, 3) := by decide +kernel
theorem dX8_init_28 : decode cX8_init 28 = .ok (.aload_n 0, 1) := by decide +kernel
theorem dX8_init_29 : decode cX8_init 29 = .ok (.bipush 10, 2) := by decide +kernel
theorem dX8_init_31 : decode cX8_init 31 = .ok (.newarray .int, 2) := by decide +kernel
theorem dX8_init_33 : decode cX8_init 33 = .ok (.putfield 19, 3) := by decide +kernel
theorem dX8_init_36 : decode cX8_init 36 = .ok (.aload_n 0, 1) := by decide +kernel
theorem dX8_init_37 : decode cX8_init 37 = .ok (.bipush 7, 2) := by decide +kernel
theorem dX8_init_39 : decode cX8_init 39 = .ok (.newarray .int, 2) := by decide +kernel
theorem dX8_init_41 : decode cX8_init 41 = .ok (.putfield 22, 3) := by decide +kernel
theorem dX8_init_44 : decode cX8_init 44 = .ok (.aload_n 0, 1) := by decide +kernel
theorem dX8_init_45 : decode cX8_init 45 = .ok (.bipush 7, 2) := by decide +kernel
theorem dX8_init_47 : decode cX8_init 47 = .ok (.newarray .int, 2) := by decide +kernel
theorem dX8_init_49 : decode cX8_init 49 = .ok (.putfield 25, 3) := by decide +kernel
theorem dX8_init_52 : decode cX8_init 52 = .ok (.aload_n 0, 1) := by decide +kernel
theorem dX8_init_53 : decode cX8_init 53 = .ok (.bipush 7, 2) := by decide +kernel
theorem dX8_init_55 : decode cX8_init 55 = .ok (.newarray .boolean, 2) := by decide +kernel
theorem dX8_init_57 : decode cX8_init 57 = .ok (.putfield 28, 3) := by decide +kernel
theorem dX8_init_60 : decode cX8_init 60 = .ok (.aload_n 0, 1) := by decide +kernel
theorem dX8_init_61 : decode cX8_init 61 = .ok (.iconst 2, 1) := by decide +kernel
theorem dX8_init_62 : decode cX8_init 62 = .ok (.newarray .boolean, 2) := by decide +kernel
theorem dX8_init_64 : decode cX8_init 64 = .ok (.putfield 32, 3) := by decide +kernel
theorem dX8_init_67 : decode cX8_init 67 = .ok (.aload_n 0, 1) := by decide +kernel
theorem dX8_init_68 : decode cX8_init 68 = .ok (.bipush 30, 2) := by decide +kernel
theorem dX8_init_70 : decode cX8_init 70 = .ok (.newarray .int, 2) := by decide +kernel
theorem dX8_init_72 : decode cX8_init 72 = .ok (.putfield 35, 3) := by decide +kernel
theorem dX8_init_75 : decode cX8_init 75 = .ok (.aload_n 0, 1) := by decide +kernel
theorem dX8_init_76 : decode cX8_init 76 = .ok (.bipush 7, 2) := by decide +kernel
theorem dX8_init_78 : decode cX8_init 78 = .ok (.newarray .int, 2) := by decide +kernel
theorem dX8_init_80 : decode cX8_init 80 = .ok (.putfield 38, 3) := by decide +kernel
theorem dX8_init_83 : decode cX8_init 83 = .ok (.aload_n 0, 1) := by decide +kernel
theorem dX8_init_84 : decode cX8_init 84 = .ok (.bipush 88, 2) := by decide +kernel
theorem dX8_init_86 : decode cX8_init 86 = .ok (.newarray .int, 2) := by decide +kernel
theorem dX8_init_88 : decode cX8_init 88 = .ok (.putfield 41, 3) := by decide +kernel
theorem dX8_init_91 : decode cX8_init 91 = .ok (.aload_n 0, 1) := by decide +kernel
theorem dX8_init_92 : decode cX8_init 92 = .ok (.sipush 256, 3) := by decide +kernel
theorem dX8_init_95 : decode cX8_init 95 = .ok (.newarray .int, 2) := by decide +kernel
theorem dX8_init_97 : decode cX8_init 97 = .ok (.putfield 44, 3) := by decide +kernel
theorem dX8_init_100 : decode cX8_init 100 = .ok (.aload_n 0, 1) := by decide +kernel
theorem dX8_init_101 : decode cX8_init 101 = .ok (.sipush 1792, 3) := by decide +kernel
theorem dX8_init_104 : decode cX8_init 104 = .ok (.newarray .int, 2) := by decide +kernel
theorem dX8_init_106 : decode cX8_init 106 = .ok (.putfield 47, 3) := by decide +kernel
theorem dX8_init_109 : decode cX8_init 109 = .ok (.aload_n 0, 1) := by decide +kernel
theorem dX8_init_110 : decode cX8_init 110 = .ok (.bipush 7, 2) := by decide +kernel
theorem dX8_init_112 : decode cX8_init 112 = .ok (.newarray .int, 2) := by decide +kernel
theorem dX8_init_114 : decode cX8_init 114 = .ok (.putfield 50, 3) := by decide +kernel
theorem dX8_init_117 : decode cX8_init 117 = .ok (.aload_n 0, 1) := by decide +kernel
theorem dX8_init_118 : decode cX8_init 118 = .ok (.bipush 7, 2) := by decide +kernel
theorem dX8_init_120 : decode cX8_init 120 = .ok (.newarray .int, 2) := by decide +kernel
theorem dX8_init_122 : decode cX8_init 122 = .ok (.putfield 53, 3) := by decide +kernel
theorem dX8_init_125 : decode cX8_init 125 = .ok (.aload_n 0, 1) := by decide +kernel
theorem dX8_init_126 : decode cX8_init 126 = .ok (.bipush 7, 2) := by decide +kernel
theorem dX8_init_128 : decode cX8_init 128 = .ok (.newarray .int, 2) := by decide +kernel
theorem dX8_init_130 : decode cX8_init 130 = .ok (.putfield 56, 3) := by decide +kernel
theorem dX8_init_133 : decode cX8_init 133 = .ok (.aload_n 0, 1) := by decide +kernel
theorem dX8_init_134 : decode cX8_init 134 = .ok (.iconst 3, 1) := by decide +kernel
theorem dX8_init_135 : decode cX8_init 135 = .ok (.newarray .int, 2) := by decide +kernel
theorem dX8_init_137 : decode cX8_init 137 = .ok (.putfield 59, 3) := by decide +kernel
theorem dX8_init_140 : decode cX8_init 140 = .ok (.aload_n 0, 1) := by decide +kernel
theorem dX8_init_141 : decode cX8_init 141 = .ok (.bipush 49, 2) := by decide +kernel
theorem dX8_init_143 : decode cX8_init 143 = .ok (.newarray .int, 2) := by decide +kernel
theorem dX8_init_145 : decode cX8_init 145 = .ok (.putfield 62, 3) := by decide +kernel
theorem dX8_init_148 : decode cX8_init 148 = .ok (.aload_n 0, 1) := by decide +kernel
theorem dX8_init_149 : decode cX8_init 149 = .ok (.bipush 49, 2) := by decide +kernel
theorem dX8_init_151 : decode cX8_init 151 = .ok (.newarray .boolean, 2) := by decide +kernel
theorem dX8_init_153 : decode cX8_init 153 = .ok (.putfield 65, 3) := by decide +kernel
theorem dX8_init_156 : decode cX8_init 156 = .ok (.aload_n 0, 1) := by decide +kernel
theorem dX8_init_157 : decode cX8_init 157 = .ok (.bipush 49, 2) := by decide +kernel
theorem dX8_init_159 : decode cX8_init 159 = .ok (.newarray .boolean, 2) := by decide +kernel
theorem dX8_init_161 : decode cX8_init 161 = .ok (.putfield 68, 3) := by decide +kernel
theorem dX8_init_164 : decode cX8_init 164 = .ok (.aload_n 0, 1) := by decide +kernel
theorem dX8_init_165 : decode cX8_init 165 = .ok (.bipush 7, 2) := by decide +kernel
theorem dX8_init_167 : decode cX8_init 167 = .ok (.newarray .int, 2) := by decide +kernel
theorem dX8_init_169 : decode cX8_init 169 = .ok (.putfield 71, 3) := by decide +kernel
theorem dX8_init_172 : decode cX8_init 172 = .ok (.aload_n 0, 1) := by decide +kernel
theorem dX8_init_173 : decode cX8_init 173 = .ok (.bipush 7, 2) := by decide +kernel
theorem dX8_init_175 : decode cX8_init 175 = .ok (.newarray .int, 2) := by decide +kernel
theorem dX8_init_177 : decode cX8_init 177 = .ok (.putfield 74, 3) := by decide +kernel
theorem dX8_init_180 : decode cX8_init 180 = .ok (.aload_n 0, 1) := by decide +kernel
theorem dX8_init_181 : decode cX8_init 181 = .ok (.bipush 124, 2) := by decide +kernel
theorem dX8_init_183 : decode cX8_init 183 = .ok (.newarray .int, 2) := by decide +kernel
theorem dX8_init_185 : decode cX8_init 185 = .ok (.putfield 77, 3) := by decide +kernel
theorem dX8_init_188 : decode cX8_init 188 = .ok (.aload_n 0, 1) := by decide +kernel
theorem dX8_init_189 : decode cX8_init 189 = .ok (.iconst 2, 1) := by decide +kernel
theorem dX8_init_190 : decode cX8_init 190 = .ok (.newarray .boolean, 2) := by decide +kernel
theorem dX8_init_192 : decode cX8_init 192 = .ok (.putfield 80, 3) := by decide +kernel
theorem dX8_init_195 : decode cX8_init 195 = .ok (.iconst 0, 1) := by decide +kernel
theorem dX8_init_196 : decode cX8_init 196 = .ok (.istore_n 1, 1) := by decide +kernel
theorem dX8_init_197 : decode cX8_init 197 = .ok (.iload_n 1, 1) := by decide +kernel
theorem dX8_init_198 : decode cX8_init 198 = .ok (.bipush 7, 2) := by decide +kernel
theorem dX8_init_200 : decode cX8_init 200 = .ok (.if_icmp .ge 16, 3) := by decide +kernel
theorem dX8_init_203 : decode cX8_init 203 = .ok (.aload_n 0, 1) := by decide +kernel
theorem dX8_init_204 : decode cX8_init 204 = .ok (.getfield 25, 3) := by decide +kernel
theorem dX8_init_207 : decode cX8_init 207 = .ok (.iload_n 1, 1) := by decide +kernel
theorem dX8_init_208 : decode cX8_init 208 = .ok (.iload_n 1, 1) := by decide +kernel
theorem dX8_init_209 : decode cX8_init 209 = .ok (.iastore, 1) := by decide +kernel
theorem dX8_init_210 : decode cX8_init 210 = .ok (.iinc 1 1, 3) := by decide +kernel
theorem dX8_init_213 : decode cX8_init 213 = .ok (.goto (-16), 3) := by decide +kernel
theorem dX8_init_216 : decode cX8_init 216 = .ok (.aload_n 0, 1) := by decide +kernel
theorem dX8_init_217 : decode cX8_init 217 = .ok (.getfield 28, 3) := by decide +kernel
theorem dX8_init_220 : decode cX8_init 220 = .ok (.iconst 1, 1) := by decide +kernel
theorem dX8_init_221 : decode cX8_init 221 = .ok (.iconst 1, 1) := by decide +kernel
theorem dX8_init_222 : decode cX8_init 222 = .ok (.bastore, 1) := by decide +kernel
theorem dX8_init_223 : decode cX8_init 223 = .ok (.return_, 1) := by decide +kernel
theorem dX8_in_0 : decode cX8_in 0 = .ok (.iload_n 0, 1) := by decide +kernel
theorem dX8_in_1 : decode cX8_in 1 = .ok (.iload_n 1, 1) := by decide +kernel
theorem dX8_in_2 : decode cX8_in 2 = .ok (.if_icmp .lt 12, 3) := by decide +kernel
theorem dX8_in_5 : decode cX8_in 5 = .ok (.iload_n 0, 1) := by decide +kernel
theorem dX8_in_6 : decode cX8_in 6 = .ok (.iload_n 2, 1) := by decide +kernel
theorem dX8_in_7 : decode cX8_in 7 = .ok (.if_icmp .gt 7, 3) := by decide +kernel
theorem dX8_in_10 : decode cX8_in 10 = .ok (.iconst 1, 1) := by decide +kernel
theorem dX8_in_11 : decode cX8_in 11 = .ok (.goto 4, 3) := by decide +kernel
theorem dX8_in_14 : decode cX8_in 14 = .ok (.iconst 0, 1) := by decide +kernel
theorem dX8_in_15 : decode cX8_in 15 = .ok (.ireturn, 1) := by decide +kernel
theorem dX8_isVariable_0 : decode cX8_isVariable 0 = .ok (.iload_n 0, 1) := by decide +kernel
theorem dX8_isVariable_1 : decode cX8_isVariable 1 = .ok (.iconst 0, 1) := by decide +kernel
theorem dX8_isVariable_2 : decode cX8_isVariable 2 = .ok (.bipush 6, 2) := by decide +kernel
theorem dX8_isVariable_4 : decode cX8_isVariable 4 = .ok (.invokestatic 83, 3) := by decide +kernel
theorem dX8_isVariable_7 : decode cX8_isVariable 7 = .ok (.ireturn, 1) := by decide +kernel
theorem dX8_has_0 : decode cX8_has 0 = .ok (.iload_n 0, 1) := by decide +kernel
theorem dX8_has_1 : decode cX8_has 1 = .ok (.iload_n 1, 1) := by decide +kernel
theorem dX8_has_2 : decode cX8_has 2 = .ok (.ishr, 1) := by decide +kernel
theorem dX8_has_3 : decode cX8_has 3 = .ok (.iconst 1, 1) := by decide +kernel
theorem dX8_has_4 : decode cX8_has 4 = .ok (.iand, 1) := by decide +kernel
theorem dX8_has_5 : decode cX8_has 5 = .ok (.iconst 1, 1) := by decide +kernel
theorem dX8_has_6 : decode cX8_has 6 = .ok (.if_icmp .ne 7, 3) := by decide +kernel
theorem dX8_has_9 : decode cX8_has 9 = .ok (.iconst 1, 1) := by decide +kernel
theorem dX8_has_10 : decode cX8_has 10 = .ok (.goto 4, 3) := by decide +kernel
theorem dX8_has_13 : decode cX8_has 13 = .ok (.iconst 0, 1) := by decide +kernel
theorem dX8_has_14 : decode cX8_has 14 = .ok (.ireturn, 1) := by decide +kernel
theorem dX8_isStatement_0 : decode cX8_isStatement 0 = .ok (.iload_n 1, 1) := by decide +kernel
theorem dX8_isStatement_1 : decode cX8_isStatement 1 = .ok (.iconst 0, 1) := by decide +kernel
theorem dX8_isStatement_2 : decode cX8_isStatement 2 = .ok (.aload_n 0, 1) := by decide +kernel
theorem dX8_isStatement_3 : decode cX8_isStatement 3 = .ok (.getfield 87, 3) := by decide +kernel
theorem dX8_isStatement_6 : decode cX8_isStatement 6 = .ok (.iconst 1, 1) := by decide +kernel
theorem dX8_isStatement_7 : decode cX8_isStatement 7 = .ok (.isub, 1) := by decide +kernel
theorem dX8_isStatement_8 : decode cX8_isStatement 8 = .ok (.invokestatic 83, 3) := by decide +kernel
theorem dX8_isStatement_11 : decode cX8_isStatement 11 = .ok (.ireturn, 1) := by decide +kernel
theorem dX8_change_0 : decode cX8_change 0 = .ok (.aload_n 0, 1) := by decide +kernel
theorem dX8_change_1 : decode cX8_change 1 = .ok (.getfield 32, 3) := by decide +kernel
theorem dX8_change_4 : decode cX8_change 4 = .ok (.iconst 0, 1) := by decide +kernel
theorem dX8_change_5 : decode cX8_change 5 = .ok (.iconst 1, 1) := by decide +kernel
theorem dX8_change_6 : decode cX8_change 6 = .ok (.bastore, 1) := by decide +kernel
theorem dX8_change_7 : decode cX8_change 7 = .ok (.aload_n 0, 1) := by decide +kernel
theorem dX8_change_8 : decode cX8_change 8 = .ok (.getfield 32, 3) := by decide +kernel
theorem dX8_change_11 : decode cX8_change 11 = .ok (.iconst 1, 1) := by decide +kernel
theorem dX8_change_12 : decode cX8_change 12 = .ok (.iconst 1, 1) := by decide +kernel
theorem dX8_change_13 : decode cX8_change 13 = .ok (.bastore, 1) := by decide +kernel
theorem dX8_change_14 : decode cX8_change 14 = .ok (.return_, 1) := by decide +kernel
theorem dX8_put_0 : decode cX8_put 0 = .ok (.iload_n 1, 1) := by decide +kernel
theorem dX8_put_1 : decode cX8_put 1 = .ok (.iconst 0, 1) := by decide +kernel
theorem dX8_put_2 : decode cX8_put 2 = .ok (.iconst 4, 1) := by decide +kernel
theorem dX8_put_3 : decode cX8_put 3 = .ok (.invokestatic 83, 3) := by decide +kernel
theorem dX8_put_6 : decode cX8_put 6 = .ok (.ifCond .ne 6, 3) := by decide +kernel
theorem dX8_put_9 : decode cX8_put 9 = .ok (.bipush (-2), 2) := by decide +kernel
theorem dX8_put_11 : decode cX8_put 11 = .ok (.ireturn, 1) := by decide +kernel
theorem dX8_put_12 : decode cX8_put 12 = .ok (.iload_n 2, 1) := by decide +kernel
theorem dX8_put_13 : decode cX8_put 13 = .ok (.invokestatic 91, 3) := by decide +kernel
theorem dX8_put_16 : decode cX8_put 16 = .ok (.ifCond .eq 22, 3) := by decide +kernel
theorem dX8_put_19 : decode cX8_put 19 = .ok (.iload_n 3, 1) := by decide +kernel
theorem dX8_put_20 : decode cX8_put 20 = .ok (.invokestatic 91, 3) := by decide +kernel
theorem dX8_put_23 : decode cX8_put 23 = .ok (.ifCond .eq 15, 3) := by decide +kernel
theorem dX8_put_26 : decode cX8_put 26 = .ok (.iload_n 1, 1) := by decide +kernel
theorem dX8_put_27 : decode cX8_put 27 = .ok (.ifCond .le 13, 3) := by decide +kernel
theorem dX8_put_30 : decode cX8_put 30 = .ok (.iload 4, 2) := by decide +kernel
theorem dX8_put_32 : decode cX8_put 32 = .ok (.invokestatic 91, 3) := by decide +kernel
theorem dX8_put_35 : decode cX8_put 35 = .ok (.ifCond .ne 5, 3) := by decide +kernel
theorem dX8_put_38 : decode cX8_put 38 = .ok (.iconst (-1), 1) := by decide +kernel
theorem dX8_put_39 : decode cX8_put 39 = .ok (.ireturn, 1) := by decide +kernel
theorem dX8_put_40 : decode cX8_put 40 = .ok (.aload_n 0, 1) := by decide +kernel
theorem dX8_put_41 : decode cX8_put 41 = .ok (.getfield 87, 3) := by decide +kernel
theorem dX8_put_44 : decode cX8_put 44 = .ok (.bipush 10, 2) := by decide +kernel
theorem dX8_put_46 : decode cX8_put 46 = .ok (.if_icmp .ne 6, 3) := by decide +kernel
theorem dX8_put_49 : decode cX8_put 49 = .ok (.bipush (-4), 2) := by decide +kernel
theorem dX8_put_51 : decode cX8_put 51 = .ok (.ireturn, 1) := by decide +kernel
theorem dX8_put_52 : decode cX8_put 52 = .ok (.aload_n 0, 1) := by decide +kernel
theorem dX8_put_53 : decode cX8_put 53 = .ok (.getfield 7, 3) := by decide +kernel
theorem dX8_put_56 : decode cX8_put 56 = .ok (.aload_n 0, 1) := by decide +kernel
theorem dX8_put_57 : decode cX8_put 57 = .ok (.getfield 87, 3) := by decide +kernel
theorem dX8_put_60 : decode cX8_put 60 = .ok (.iload_n 1, 1) := by decide +kernel
theorem dX8_put_61 : decode cX8_put 61 = .ok (.iastore, 1) := by decide +kernel
theorem dX8_put_62 : decode cX8_put 62 = .ok (.aload_n 0, 1) := by decide +kernel
theorem dX8_put_63 : decode cX8_put 63 = .ok (.getfield 13, 3) := by decide +kernel
theorem dX8_put_66 : decode cX8_put 66 = .ok (.aload_n 0, 1) := by decide +kernel
end
section
theorem dX8_put_67 : decode cX8_put 67 = .ok (.getfield 87, 3) := by decide +kernel
theorem dX8_put_70 : decode cX8_put 70 = .ok (.iload_n 2, 1) := by decide +kernel
theorem dX8_put_71 : decode cX8_put 71 = .ok (.iastore, 1) := by decide +kernel
theorem dX8_put_72 : decode cX8_put 72 = .ok (.aload_n 0, 1) := by decide +kernel
theorem dX8_put_73 : decode cX8_put 73 = .ok (.getfield 16, 3) := by decide +kernel
theorem dX8_put_76 : decode cX8_put 76 = .ok (.aload_n 0, 1) := by decide +kernel
theorem dX8_put_77 : decode cX8_put 77 = .ok (.getfield 87, 3) := by decide +kernel
theorem dX8_put_80 : decode cX8_put 80 = .ok (.iload_n 3, 1) := by decide +kernel
theorem dX8_put_81 : decode cX8_put 81 = .ok (.iastore, 1) := by decide +kernel
theorem dX8_put_82 : decode cX8_put 82 = .ok (.aload_n 0, 1) := by decide +kernel
theorem dX8_put_83 : decode cX8_put 83 = .ok (.getfield 19, 3) := by decide +kernel
theorem dX8_put_86 : decode cX8_put 86 = .ok (.aload_n 0, 1) := by decide +kernel
theorem dX8_put_87 : decode cX8_put 87 = .ok (.getfield 87, 3) := by decide +kernel
theorem dX8_put_90 : decode cX8_put 90 = .ok (.iload_n 1, 1) := by decide +kernel
theorem dX8_put_91 : decode cX8_put 91 = .ok (.ifCond .le 8, 3) := by decide +kernel
theorem dX8_put_94 : decode cX8_put 94 = .ok (.iload 4, 2) := by decide +kernel
theorem dX8_put_96 : decode cX8_put 96 = .ok (.goto 4, 3) := by decide +kernel
theorem dX8_put_99 : decode cX8_put 99 = .ok (.iload_n 3, 1) := by decide +kernel
theorem dX8_put_100 : decode cX8_put 100 = .ok (.iastore, 1) := by decide +kernel
theorem dX8_put_101 : decode cX8_put 101 = .ok (.aload_n 0, 1) := by decide +kernel
theorem dX8_put_102 : decode cX8_put 102 = .ok (.invokevirtual 95, 3) := by decide +kernel
theorem dX8_put_105 : decode cX8_put 105 = .ok (.aload_n 0, 1) := by decide +kernel
theorem dX8_put_106 : decode cX8_put 106 = .ok (.dup, 1) := by decide +kernel
theorem dX8_put_107 : decode cX8_put 107 = .ok (.getfield 87, 3) := by decide +kernel
theorem dX8_put_110 : decode cX8_put 110 = .ok (.dup_x1, 1) := by decide +kernel
theorem dX8_put_111 : decode cX8_put 111 = .ok (.iconst 1, 1) := by decide +kernel
theorem dX8_put_112 : decode cX8_put 112 = .ok (.iadd, 1) := by decide +kernel
theorem dX8_put_113 : decode cX8_put 113 = .ok (.putfield 87, 3) := by decide +kernel
theorem dX8_put_116 : decode cX8_put 116 = .ok (.ireturn, 1) := by decide +kernel
theorem dX8_drop_0 : decode cX8_drop 0 = .ok (.aload_n 0, 1) := by decide +kernel
theorem dX8_drop_1 : decode cX8_drop 1 = .ok (.iload_n 1, 1) := by decide +kernel
theorem dX8_drop_2 : decode cX8_drop 2 = .ok (.invokevirtual 98, 3) := by decide +kernel
theorem dX8_drop_5 : decode cX8_drop 5 = .ok (.ifCond .ne 5, 3) := by decide +kernel
theorem dX8_drop_8 : decode cX8_drop 8 = .ok (.iconst (-1), 1) := by decide +kernel
theorem dX8_drop_9 : decode cX8_drop 9 = .ok (.ireturn, 1) := by decide +kernel
theorem dX8_drop_10 : decode cX8_drop 10 = .ok (.aload_n 0, 1) := by decide +kernel
theorem dX8_drop_11 : decode cX8_drop 11 = .ok (.dup, 1) := by decide +kernel
theorem dX8_drop_12 : decode cX8_drop 12 = .ok (.getfield 87, 3) := by decide +kernel
theorem dX8_drop_15 : decode cX8_drop 15 = .ok (.iconst 1, 1) := by decide +kernel
theorem dX8_drop_16 : decode cX8_drop 16 = .ok (.isub, 1) := by decide +kernel
theorem dX8_drop_17 : decode cX8_drop 17 = .ok (.putfield 87, 3) := by decide +kernel
theorem dX8_drop_20 : decode cX8_drop 20 = .ok (.iload_n 1, 1) := by decide +kernel
theorem dX8_drop_21 : decode cX8_drop 21 = .ok (.istore_n 2, 1) := by decide +kernel
theorem dX8_drop_22 : decode cX8_drop 22 = .ok (.iload_n 2, 1) := by decide +kernel
theorem dX8_drop_23 : decode cX8_drop 23 = .ok (.aload_n 0, 1) := by decide +kernel
theorem dX8_drop_24 : decode cX8_drop 24 = .ok (.getfield 87, 3) := by decide +kernel
theorem dX8_drop_27 : decode cX8_drop 27 = .ok (.if_icmp .ge 65, 3) := by decide +kernel
theorem dX8_drop_30 : decode cX8_drop 30 = .ok (.aload_n 0, 1) := by decide +kernel
theorem dX8_drop_31 : decode cX8_drop 31 = .ok (.getfield 7, 3) := by decide +kernel
theorem dX8_drop_34 : decode cX8_drop 34 = .ok (.iload_n 2, 1) := by decide +kernel
theorem dX8_drop_35 : decode cX8_drop 35 = .ok (.aload_n 0, 1) := by decide +kernel
theorem dX8_drop_36 : decode cX8_drop 36 = .ok (.getfield 7, 3) := by decide +kernel
theorem dX8_drop_39 : decode cX8_drop 39 = .ok (.iload_n 2, 1) := by decide +kernel
theorem dX8_drop_40 : decode cX8_drop 40 = .ok (.iconst 1, 1) := by decide +kernel
theorem dX8_drop_41 : decode cX8_drop 41 = .ok (.iadd, 1) := by decide +kernel
theorem dX8_drop_42 : decode cX8_drop 42 = .ok (.iaload, 1) := by decide +kernel
theorem dX8_drop_43 : decode cX8_drop 43 = .ok (.iastore, 1) := by decide +kernel
theorem dX8_drop_44 : decode cX8_drop 44 = .ok (.aload_n 0, 1) := by decide +kernel
theorem dX8_drop_45 : decode cX8_drop 45 = .ok (.getfield 13, 3) := by decide +kernel
theorem dX8_drop_48 : decode cX8_drop 48 = .ok (.iload_n 2, 1) := by decide +kernel
theorem dX8_drop_49 : decode cX8_drop 49 = .ok (.aload_n 0, 1) := by decide +kernel
theorem dX8_drop_50 : decode cX8_drop 50 = .ok (.getfield 13, 3) := by decide +kernel
theorem dX8_drop_53 : decode cX8_drop 53 = .ok (.iload_n 2, 1) := by decide +kernel
theorem dX8_drop_54 : decode cX8_drop 54 = .ok (.iconst 1, 1) := by decide +kernel
theorem dX8_drop_55 : decode cX8_drop 55 = .ok (.iadd, 1) := by decide +kernel
theorem dX8_drop_56 : decode cX8_drop 56 = .ok (.iaload, 1) := by decide +kernel
theorem dX8_drop_57 : decode cX8_drop 57 = .ok (.iastore, 1) := by decide +kernel
theorem dX8_drop_58 : decode cX8_drop 58 = .ok (.aload_n 0, 1) := by decide +kernel
theorem dX8_drop_59 : decode cX8_drop 59 = .ok (.getfield 16, 3) := by decide +kernel
theorem dX8_drop_62 : decode cX8_drop 62 = .ok (.iload_n 2, 1) := by decide +kernel
theorem dX8_drop_63 : decode cX8_drop 63 = .ok (.aload_n 0, 1) := by decide +kernel
theorem dX8_drop_64 : decode cX8_drop 64 = .ok (.getfield 16, 3) := by decide +kernel
theorem dX8_drop_67 : decode cX8_drop 67 = .ok (.iload_n 2, 1) := by decide +kernel
theorem dX8_drop_68 : decode cX8_drop 68 = .ok (.iconst 1, 1) := by decide +kernel
theorem dX8_drop_69 : decode cX8_drop 69 = .ok (.iadd, 1) := by decide +kernel
theorem dX8_drop_70 : decode cX8_drop 70 = .ok (.iaload, 1) := by decide +kernel
theorem dX8_drop_71 : decode cX8_drop 71 = .ok (.iastore, 1) := by decide +kernel
theorem dX8_drop_72 : decode cX8_drop 72 = .ok (.aload_n 0, 1) := by decide +kernel
theorem dX8_drop_73 : decode cX8_drop 73 = .ok (.getfield 19, 3) := by decide +kernel
theorem dX8_drop_76 : decode cX8_drop 76 = .ok (.iload_n 2, 1) := by decide +kernel
theorem dX8_drop_77 : decode cX8_drop 77 = .ok (.aload_n 0, 1) := by decide +kernel
theorem dX8_drop_78 : decode cX8_drop 78 = .ok (.getfield 19, 3) := by decide +kernel
theorem dX8_drop_81 : decode cX8_drop 81 = .ok (.iload_n 2, 1) := by decide +kernel
theorem dX8_drop_82 : decode cX8_drop 82 = .ok (.iconst 1, 1) := by decide +kernel
theorem dX8_drop_83 : decode cX8_drop 83 = .ok (.iadd, 1) := by decide +kernel
theorem dX8_drop_84 : decode cX8_drop 84 = .ok (.iaload, 1) := by decide +kernel
theorem dX8_drop_85 : decode cX8_drop 85 = .ok (.iastore, 1) := by decide +kernel
theorem dX8_drop_86 : decode cX8_drop 86 = .ok (.iinc 2 1, 3) := by decide +kernel
theorem dX8_drop_89 : decode cX8_drop 89 = .ok (.goto (-67), 3) := by decide +kernel
theorem dX8_drop_92 : decode cX8_drop 92 = .ok (.aload_n 0, 1) := by decide +kernel
theorem dX8_drop_93 : decode cX8_drop 93 = .ok (.invokevirtual 95, 3) := by decide +kernel
theorem dX8_drop_96 : decode cX8_drop 96 = .ok (.aload_n 0, 1) := by decide +kernel
theorem dX8_drop_97 : decode cX8_drop 97 = .ok (.getfield 87, 3) := by decide +kernel
theorem dX8_drop_100 : decode cX8_drop 100 = .ok (.ireturn, 1) := by decide +kernel
theorem dX8_cross_0 : decode cX8_cross 0 = .ok (.aload_n 0, 1) := by decide +kernel
theorem dX8_cross_1 : decode cX8_cross 1 = .ok (.iload_n 1, 1) := by decide +kernel
theorem dX8_cross_2 : decode cX8_cross 2 = .ok (.invokevirtual 98, 3) := by decide +kernel
theorem dX8_cross_5 : decode cX8_cross 5 = .ok (.ifCond .ne 5, 3) := by decide +kernel
theorem dX8_cross_8 : decode cX8_cross 8 = .ok (.iconst (-1), 1) := by decide +kernel
theorem dX8_cross_9 : decode cX8_cross 9 = .ok (.ireturn, 1) := by decide +kernel
theorem dX8_cross_10 : decode cX8_cross 10 = .ok (.aload_n 0, 1) := by decide +kernel
theorem dX8_cross_11 : decode cX8_cross 11 = .ok (.getfield 7, 3) := by decide +kernel
theorem dX8_cross_14 : decode cX8_cross 14 = .ok (.iload_n 1, 1) := by decide +kernel
theorem dX8_cross_15 : decode cX8_cross 15 = .ok (.iaload, 1) := by decide +kernel
theorem dX8_cross_16 : decode cX8_cross 16 = .ok (.ifCond .ne 6, 3) := by decide +kernel
theorem dX8_cross_19 : decode cX8_cross 19 = .ok (.bipush (-5), 2) := by decide +kernel
theorem dX8_cross_21 : decode cX8_cross 21 = .ok (.ireturn, 1) := by decide +kernel
theorem dX8_cross_22 : decode cX8_cross 22 = .ok (.aload_n 0, 1) := by decide +kernel
theorem dX8_cross_23 : decode cX8_cross 23 = .ok (.getfield 16, 3) := by decide +kernel
theorem dX8_cross_26 : decode cX8_cross 26 = .ok (.iload_n 1, 1) := by decide +kernel
theorem dX8_cross_27 : decode cX8_cross 27 = .ok (.iaload, 1) := by decide +kernel
theorem dX8_cross_28 : decode cX8_cross 28 = .ok (.istore_n 2, 1) := by decide +kernel
theorem dX8_cross_29 : decode cX8_cross 29 = .ok (.aload_n 0, 1) := by decide +kernel
theorem dX8_cross_30 : decode cX8_cross 30 = .ok (.getfield 16, 3) := by decide +kernel
theorem dX8_cross_33 : decode cX8_cross 33 = .ok (.iload_n 1, 1) := by decide +kernel
theorem dX8_cross_34 : decode cX8_cross 34 = .ok (.aload_n 0, 1) := by decide +kernel
theorem dX8_cross_35 : decode cX8_cross 35 = .ok (.getfield 19, 3) := by decide +kernel
theorem dX8_cross_38 : decode cX8_cross 38 = .ok (.iload_n 1, 1) := by decide +kernel
theorem dX8_cross_39 : decode cX8_cross 39 = .ok (.iaload, 1) := by decide +kernel
theorem dX8_cross_40 : decode cX8_cross 40 = .ok (.iastore, 1) := by decide +kernel
theorem dX8_cross_41 : decode cX8_cross 41 = .ok (.aload_n 0, 1) := by decide +kernel
theorem dX8_cross_42 : decode cX8_cross 42 = .ok (.getfield 19, 3) := by decide +kernel
theorem dX8_cross_45 : decode cX8_cross 45 = .ok (.iload_n 1, 1) := by decide +kernel
theorem dX8_cross_46 : decode cX8_cross 46 = .ok (.iload_n 2, 1) := by decide +kernel
theorem dX8_cross_47 : decode cX8_cross 47 = .ok (.iastore, 1) := by decide +kernel
theorem dX8_cross_48 : decode cX8_cross 48 = .ok (.aload_n 0, 1) := by decide +kernel
theorem dX8_cross_49 : decode cX8_cross 49 = .ok (.invokevirtual 95, 3) := by decide +kernel
theorem dX8_cross_52 : decode cX8_cross 52 = .ok (.iload_n 1, 1) := by decide +kernel
theorem dX8_cross_53 : decode cX8_cross 53 = .ok (.ireturn, 1) := by decide +kernel
theorem dX8_told_0 : decode cX8_told 0 = .ok (.aload_n 0, 1) := by decide +kernel
theorem dX8_told_1 : decode cX8_told 1 = .ok (.iload_n 1, 1) := by decide +kernel
theorem dX8_told_2 : decode cX8_told 2 = .ok (.invokevirtual 98, 3) := by decide +kernel
theorem dX8_told_5 : decode cX8_told 5 = .ok (.ifCond .ne 5, 3) := by decide +kernel
theorem dX8_told_8 : decode cX8_told 8 = .ok (.iconst (-1), 1) := by decide +kernel
theorem dX8_told_9 : decode cX8_told 9 = .ok (.ireturn, 1) := by decide +kernel
theorem dX8_told_10 : decode cX8_told 10 = .ok (.iload_n 2, 1) := by decide +kernel
theorem dX8_told_11 : decode cX8_told 11 = .ok (.tableswitch 71 0 3 #[29, 36, 43, 50], 29) := by decide +kernel
theorem dX8_told_40 : decode cX8_told 40 = .ok (.aload_n 0, 1) := by decide +kernel
theorem dX8_told_41 : decode cX8_told 41 = .ok (.getfield 7, 3) := by decide +kernel
theorem dX8_told_44 : decode cX8_told 44 = .ok (.iload_n 1, 1) := by decide +kernel
theorem dX8_told_45 : decode cX8_told 45 = .ok (.iaload, 1) := by decide +kernel
theorem dX8_told_46 : decode cX8_told 46 = .ok (.ireturn, 1) := by decide +kernel
theorem dX8_told_47 : decode cX8_told 47 = .ok (.aload_n 0, 1) := by decide +kernel
theorem dX8_told_48 : decode cX8_told 48 = .ok (.getfield 13, 3) := by decide +kernel
theorem dX8_told_51 : decode cX8_told 51 = .ok (.iload_n 1, 1) := by decide +kernel
theorem dX8_told_52 : decode cX8_told 52 = .ok (.iaload, 1) := by decide +kernel
theorem dX8_told_53 : decode cX8_told 53 = .ok (.ireturn, 1) := by decide +kernel
theorem dX8_told_54 : decode cX8_told 54 = .ok (.aload_n 0, 1) := by decide +kernel
theorem dX8_told_55 : decode cX8_told 55 = .ok (.getfield 16, 3) := by decide +kernel
theorem dX8_told_58 : decode cX8_told 58 = .ok (.iload_n 1, 1) := by decide +kernel
theorem dX8_told_59 : decode cX8_told 59 = .ok (.iaload, 1) := by decide +kernel
theorem dX8_told_60 : decode cX8_told 60 = .ok (.ireturn, 1) := by decide +kernel
theorem dX8_told_61 : decode cX8_told 61 = .ok (.aload_n 0, 1) := by decide +kernel
theorem dX8_told_62 : decode cX8_told 62 = .ok (.getfield 7, 3) := by decide +kernel
theorem dX8_told_65 : decode cX8_told 65 = .ok (.iload_n 1, 1) := by decide +kernel
theorem dX8_told_66 : decode cX8_told 66 = .ok (.iaload, 1) := by decide +kernel
theorem dX8_told_67 : decode cX8_told 67 = .ok (.ifCond .ne 8, 3) := by decide +kernel
theorem dX8_told_70 : decode cX8_told 70 = .ok (.bipush (-6), 2) := by decide +kernel
theorem dX8_told_72 : decode cX8_told 72 = .ok (.goto 9, 3) := by decide +kernel
theorem dX8_told_75 : decode cX8_told 75 = .ok (.aload_n 0, 1) := by decide +kernel
theorem dX8_told_76 : decode cX8_told 76 = .ok (.getfield 19, 3) := by decide +kernel
theorem dX8_told_79 : decode cX8_told 79 = .ok (.iload_n 1, 1) := by decide +kernel
theorem dX8_told_80 : decode cX8_told 80 = .ok (.iaload, 1) := by decide +kernel
theorem dX8_told_81 : decode cX8_told 81 = .ok (.ireturn, 1) := by decide +kernel
theorem dX8_told_82 : decode cX8_told 82 = .ok (.bipush (-2), 2) := by decide +kernel
theorem dX8_told_84 : decode cX8_told 84 = .ok (.ireturn, 1) := by decide +kernel
theorem dX8_free_0 : decode cX8_free 0 = .ok (.iload_n 1, 1) := by decide +kernel
theorem dX8_free_1 : decode cX8_free 1 = .ok (.iconst 1, 1) := by decide +kernel
theorem dX8_free_2 : decode cX8_free 2 = .ok (.bipush 6, 2) := by decide +kernel
theorem dX8_free_4 : decode cX8_free 4 = .ok (.invokestatic 83, 3) := by decide +kernel
theorem dX8_free_7 : decode cX8_free 7 = .ok (.ifCond .eq 12, 3) := by decide +kernel
theorem dX8_free_10 : decode cX8_free 10 = .ok (.iload_n 2, 1) := by decide +kernel
theorem dX8_free_11 : decode cX8_free 11 = .ok (.iconst 0, 1) := by decide +kernel
theorem dX8_free_12 : decode cX8_free 12 = .ok (.iconst 1, 1) := by decide +kernel
theorem dX8_free_13 : decode cX8_free 13 = .ok (.invokestatic 83, 3) := by decide +kernel
theorem dX8_free_16 : decode cX8_free 16 = .ok (.ifCond .ne 6, 3) := by decide +kernel
theorem dX8_free_19 : decode cX8_free 19 = .ok (.bipush (-2), 2) := by decide +kernel
theorem dX8_free_21 : decode cX8_free 21 = .ok (.ireturn, 1) := by decide +kernel
theorem dX8_free_22 : decode cX8_free 22 = .ok (.aload_n 0, 1) := by decide +kernel
theorem dX8_free_23 : decode cX8_free 23 = .ok (.getfield 28, 3) := by decide +kernel
theorem dX8_free_26 : decode cX8_free 26 = .ok (.iload_n 1, 1) := by decide +kernel
theorem dX8_free_27 : decode cX8_free 27 = .ok (.iload_n 2, 1) := by decide +kernel
theorem dX8_free_28 : decode cX8_free 28 = .ok (.iconst 1, 1) := by decide +kernel
theorem dX8_free_29 : decode cX8_free 29 = .ok (.if_icmp .ne 7, 3) := by decide +kernel
theorem dX8_free_32 : decode cX8_free 32 = .ok (.iconst 1, 1) := by decide +kernel
theorem dX8_free_33 : decode cX8_free 33 = .ok (.goto 4, 3) := by decide +kernel
theorem dX8_free_36 : decode cX8_free 36 = .ok (.iconst 0, 1) := by decide +kernel
theorem dX8_free_37 : decode cX8_free 37 = .ok (.bastore, 1) := by decide +kernel
theorem dX8_free_38 : decode cX8_free 38 = .ok (.aload_n 0, 1) := by decide +kernel
theorem dX8_free_39 : decode cX8_free 39 = .ok (.invokevirtual 95, 3) := by decide +kernel
theorem dX8_free_42 : decode cX8_free 42 = .ok (.iconst 0, 1) := by decide +kernel
theorem dX8_free_43 : decode cX8_free 43 = .ok (.istore_n 3, 1) := by decide +kernel
theorem dX8_free_44 : decode cX8_free 44 = .ok (.iconst 1, 1) := by decide +kernel
theorem dX8_free_45 : decode cX8_free 45 = .ok (.istore 4, 2) := by decide +kernel
theorem dX8_free_47 : decode cX8_free 47 = .ok (.iload 4, 2) := by decide +kernel
theorem dX8_free_49 : decode cX8_free 49 = .ok (.bipush 7, 2) := by decide +kernel
theorem dX8_free_51 : decode cX8_free 51 = .ok (.if_icmp .ge 30, 3) := by decide +kernel
theorem dX8_free_54 : decode cX8_free 54 = .ok (.iload_n 3, 1) := by decide +kernel
theorem dX8_free_55 : decode cX8_free 55 = .ok (.aload_n 0, 1) := by decide +kernel
theorem dX8_free_56 : decode cX8_free 56 = .ok (.getfield 28, 3) := by decide +kernel
theorem dX8_free_59 : decode cX8_free 59 = .ok (.iload 4, 2) := by decide +kernel
theorem dX8_free_61 : decode cX8_free 61 = .ok (.baload, 1) := by decide +kernel
theorem dX8_free_62 : decode cX8_free 62 = .ok (.ifCond .eq 10, 3) := by decide +kernel
theorem dX8_free_65 : decode cX8_free 65 = .ok (.iconst 1, 1) := by decide +kernel
theorem dX8_free_66 : decode cX8_free 66 = .ok (.iload 4, 2) := by decide +kernel
theorem dX8_free_68 : decode cX8_free 68 = .ok (.ishl, 1) := by decide +kernel
theorem dX8_free_69 : decode cX8_free 69 = .ok (.goto 4, 3) := by decide +kernel
theorem dX8_free_72 : decode cX8_free 72 = .ok (.iconst 0, 1) := by decide +kernel
theorem dX8_free_73 : decode cX8_free 73 = .ok (.ior, 1) := by decide +kernel
theorem dX8_free_74 : decode cX8_free 74 = .ok (.istore_n 3, 1) := by decide +kernel
theorem dX8_free_75 : decode cX8_free 75 = .ok (.iinc 4 1, 3) := by decide +kernel
theorem dX8_free_78 : decode cX8_free 78 = .ok (.goto (-31), 3) := by decide +kernel
theorem dX8_free_81 : decode cX8_free 81 = .ok (.iload_n 3, 1) := by decide +kernel
theorem dX8_free_82 : decode cX8_free 82 = .ok (.ireturn, 1) := by decide +kernel
theorem dX8_set_0 : decode cX8_set 0 = .ok (.iload_n 1, 1) := by decide +kernel
theorem dX8_set_1 : decode cX8_set 1 = .ok (.invokestatic 91, 3) := by decide +kernel
theorem dX8_set_4 : decode cX8_set 4 = .ok (.ifCond .ne 5, 3) := by decide +kernel
theorem dX8_set_7 : decode cX8_set 7 = .ok (.iconst (-1), 1) := by decide +kernel
theorem dX8_set_8 : decode cX8_set 8 = .ok (.ireturn, 1) := by decide +kernel
theorem dX8_set_9 : decode cX8_set 9 = .ok (.aload_n 0, 1) := by decide +kernel
theorem dX8_set_10 : decode cX8_set 10 = .ok (.getfield 22, 3) := by decide +kernel
theorem dX8_set_13 : decode cX8_set 13 = .ok (.iload_n 1, 1) := by decide +kernel
theorem dX8_set_14 : decode cX8_set 14 = .ok (.iload_n 2, 1) := by decide +kernel
theorem dX8_set_15 : decode cX8_set 15 = .ok (.iastore, 1) := by decide +kernel
theorem dX8_set_16 : decode cX8_set 16 = .ok (.iconst 0, 1) := by decide +kernel
theorem dX8_set_17 : decode cX8_set 17 = .ok (.istore_n 3, 1) := by decide +kernel
theorem dX8_set_18 : decode cX8_set 18 = .ok (.iconst 0, 1) := by decide +kernel
theorem dX8_set_19 : decode cX8_set 19 = .ok (.istore 4, 2) := by decide +kernel
theorem dX8_set_21 : decode cX8_set 21 = .ok (.iload 4, 2) := by decide +kernel
theorem dX8_set_23 : decode cX8_set 23 = .ok (.bipush 7, 2) := by decide +kernel
theorem dX8_set_25 : decode cX8_set 25 = .ok (.if_icmp .ge 27, 3) := by decide +kernel
theorem dX8_set_28 : decode cX8_set 28 = .ok (.iload_n 3, 1) := by decide +kernel
theorem dX8_set_29 : decode cX8_set 29 = .ok (.aload_n 0, 1) := by decide +kernel
theorem dX8_set_30 : decode cX8_set 30 = .ok (.getfield 22, 3) := by decide +kernel
theorem dX8_set_33 : decode cX8_set 33 = .ok (.iload 4, 2) := by decide +kernel
theorem dX8_set_35 : decode cX8_set 35 = .ok (.iaload, 1) := by decide +kernel
theorem dX8_set_36 : decode cX8_set 36 = .ok (.ifCond .eq 7, 3) := by decide +kernel
theorem dX8_set_39 : decode cX8_set 39 = .ok (.iconst 1, 1) := by decide +kernel
theorem dX8_set_40 : decode cX8_set 40 = .ok (.goto 4, 3) := by decide +kernel
theorem dX8_set_43 : decode cX8_set 43 = .ok (.iconst 0, 1) := by decide +kernel
theorem dX8_set_44 : decode cX8_set 44 = .ok (.iadd, 1) := by decide +kernel
theorem dX8_set_45 : decode cX8_set 45 = .ok (.istore_n 3, 1) := by decide +kernel
theorem dX8_set_46 : decode cX8_set 46 = .ok (.iinc 4 1, 3) := by decide +kernel
theorem dX8_set_49 : decode cX8_set 49 = .ok (.goto (-28), 3) := by decide +kernel
theorem dX8_set_52 : decode cX8_set 52 = .ok (.iload_n 3, 1) := by decide +kernel
theorem dX8_set_53 : decode cX8_set 53 = .ok (.ireturn, 1) := by decide +kernel
theorem dX8_value_0 : decode cX8_value 0 = .ok (.iload_n 1, 1) := by decide +kernel
theorem dX8_value_1 : decode cX8_value 1 = .ok (.invokestatic 91, 3) := by decide +kernel
theorem dX8_value_4 : decode cX8_value 4 = .ok (.ifCond .eq 13, 3) := by decide +kernel
theorem dX8_value_7 : decode cX8_value 7 = .ok (.aload_n 0, 1) := by decide +kernel
theorem dX8_value_8 : decode cX8_value 8 = .ok (.getfield 22, 3) := by decide +kernel
theorem dX8_value_11 : decode cX8_value 11 = .ok (.iload_n 1, 1) := by decide +kernel
theorem dX8_value_12 : decode cX8_value 12 = .ok (.iaload, 1) := by decide +kernel
theorem dX8_value_13 : decode cX8_value 13 = .ok (.i2l, 1) := by decide +kernel
theorem dX8_value_14 : decode cX8_value 14 = .ok (.goto 6, 3) := by decide +kernel
theorem dX8_value_17 : decode cX8_value 17 = .ok (.ldc2_w 101, 3) := by decide +kernel
theorem dX8_value_20 : decode cX8_value 20 = .ok (.lreturn, 1) := by decide +kernel
theorem dX8_seen_0 : decode cX8_seen 0 = .ok (.iload_n 2, 1) := by decide +kernel
theorem dX8_seen_1 : decode cX8_seen 1 = .ok (.iconst 2, 1) := by decide +kernel
theorem dX8_seen_2 : decode cX8_seen 2 = .ok (.if_icmp .ne 10, 3) := by decide +kernel
theorem dX8_seen_5 : decode cX8_seen 5 = .ok (.aload_n 0, 1) := by decide +kernel
theorem dX8_seen_6 : decode cX8_seen 6 = .ok (.getfield 13, 3) := by decide +kernel
theorem dX8_seen_9 : decode cX8_seen 9 = .ok (.iload_n 1, 1) := by decide +kernel
theorem dX8_seen_10 : decode cX8_seen 10 = .ok (.iaload, 1) := by decide +kernel
theorem dX8_seen_11 : decode cX8_seen 11 = .ok (.ireturn, 1) := by decide +kernel
theorem dX8_seen_12 : decode cX8_seen 12 = .ok (.aload_n 0, 1) := by decide +kernel
theorem dX8_seen_13 : decode cX8_seen 13 = .ok (.getfield 7, 3) := by decide +kernel
theorem dX8_seen_16 : decode cX8_seen 16 = .ok (.iload_n 1, 1) := by decide +kernel
theorem dX8_seen_17 : decode cX8_seen 17 = .ok (.iaload, 1) := by decide +kernel
theorem dX8_seen_18 : decode cX8_seen 18 = .ok (.ifCond .ne 19, 3) := by decide +kernel
theorem dX8_seen_21 : decode cX8_seen 21 = .ok (.iload_n 2, 1) := by decide +kernel
theorem dX8_seen_22 : decode cX8_seen 22 = .ok (.ifCond .ne 12, 3) := by decide +kernel
theorem dX8_seen_25 : decode cX8_seen 25 = .ok (.aload_n 0, 1) := by decide +kernel
theorem dX8_seen_26 : decode cX8_seen 26 = .ok (.getfield 16, 3) := by decide +kernel
theorem dX8_seen_29 : decode cX8_seen 29 = .ok (.iload_n 1, 1) := by decide +kernel
theorem dX8_seen_30 : decode cX8_seen 30 = .ok (.iaload, 1) := by decide +kernel
theorem dX8_seen_31 : decode cX8_seen 31 = .ok (.goto 5, 3) := by decide +kernel
theorem dX8_seen_34 : decode cX8_seen 34 = .ok (.bipush (-6), 2) := by decide +kernel
theorem dX8_seen_36 : decode cX8_seen 36 = .ok (.ireturn, 1) := by decide +kernel
theorem dX8_seen_37 : decode cX8_seen 37 = .ok (.iload_n 2, 1) := by decide +kernel
theorem dX8_seen_38 : decode cX8_seen 38 = .ok (.ifCond .ne 7, 3) := by decide +kernel
theorem dX8_seen_41 : decode cX8_seen 41 = .ok (.iconst 1, 1) := by decide +kernel
theorem dX8_seen_42 : decode cX8_seen 42 = .ok (.goto 4, 3) := by decide +kernel
theorem dX8_seen_45 : decode cX8_seen 45 = .ok (.iconst 0, 1) := by decide +kernel
theorem dX8_seen_46 : decode cX8_seen 46 = .ok (.iload_n 3, 1) := by decide +kernel
theorem dX8_seen_47 : decode cX8_seen 47 = .ok (.if_icmp .eq 12, 3) := by decide +kernel
theorem dX8_seen_50 : decode cX8_seen 50 = .ok (.aload_n 0, 1) := by decide +kernel
theorem dX8_seen_51 : decode cX8_seen 51 = .ok (.getfield 16, 3) := by decide +kernel
theorem dX8_seen_54 : decode cX8_seen 54 = .ok (.iload_n 1, 1) := by decide +kernel
theorem dX8_seen_55 : decode cX8_seen 55 = .ok (.iaload, 1) := by decide +kernel
theorem dX8_seen_56 : decode cX8_seen 56 = .ok (.goto 9, 3) := by decide +kernel
theorem dX8_seen_59 : decode cX8_seen 59 = .ok (.aload_n 0, 1) := by decide +kernel
theorem dX8_seen_60 : decode cX8_seen 60 = .ok (.getfield 19, 3) := by decide +kernel
theorem dX8_seen_63 : decode cX8_seen 63 = .ok (.iload_n 1, 1) := by decide +kernel
theorem dX8_seen_64 : decode cX8_seen 64 = .ok (.iaload, 1) := by decide +kernel
theorem dX8_seen_65 : decode cX8_seen 65 = .ok (.ireturn, 1) := by decide +kernel
theorem dX8_canTurn_0 : decode cX8_canTurn 0 = .ok (.aload_n 0, 1) := by decide +kernel
theorem dX8_canTurn_1 : decode cX8_canTurn 1 = .ok (.getfield 7, 3) := by decide +kernel
theorem dX8_canTurn_4 : decode cX8_canTurn 4 = .ok (.iload_n 1, 1) := by decide +kernel
theorem dX8_canTurn_5 : decode cX8_canTurn 5 = .ok (.iaload, 1) := by decide +kernel
theorem dX8_canTurn_6 : decode cX8_canTurn 6 = .ok (.iconst 1, 1) := by decide +kernel
theorem dX8_canTurn_7 : decode cX8_canTurn 7 = .ok (.if_icmp .eq 23, 3) := by decide +kernel
theorem dX8_canTurn_10 : decode cX8_canTurn 10 = .ok (.aload_n 0, 1) := by decide +kernel
theorem dX8_canTurn_11 : decode cX8_canTurn 11 = .ok (.getfield 7, 3) := by decide +kernel
theorem dX8_canTurn_14 : decode cX8_canTurn 14 = .ok (.iload_n 1, 1) := by decide +kernel
theorem dX8_canTurn_15 : decode cX8_canTurn 15 = .ok (.iaload, 1) := by decide +kernel
theorem dX8_canTurn_16 : decode cX8_canTurn 16 = .ok (.iconst 3, 1) := by decide +kernel
theorem dX8_canTurn_17 : decode cX8_canTurn 17 = .ok (.if_icmp .eq 13, 3) := by decide +kernel
theorem dX8_canTurn_20 : decode cX8_canTurn 20 = .ok (.aload_n 0, 1) := by decide +kernel
theorem dX8_canTurn_21 : decode cX8_canTurn 21 = .ok (.getfield 7, 3) := by decide +kernel
theorem dX8_canTurn_24 : decode cX8_canTurn 24 = .ok (.iload_n 1, 1) := by decide +kernel
theorem dX8_canTurn_25 : decode cX8_canTurn 25 = .ok (.iaload, 1) := by decide +kernel
theorem dX8_canTurn_26 : decode cX8_canTurn 26 = .ok (.iconst 4, 1) := by decide +kernel
theorem dX8_canTurn_27 : decode cX8_canTurn 27 = .ok (.if_icmp .ne 22, 3) := by decide +kernel
theorem dX8_canTurn_30 : decode cX8_canTurn 30 = .ok (.aload_n 0, 1) := by decide +kernel
theorem dX8_canTurn_31 : decode cX8_canTurn 31 = .ok (.getfield 16, 3) := by decide +kernel
theorem dX8_canTurn_34 : decode cX8_canTurn 34 = .ok (.iload_n 1, 1) := by decide +kernel
theorem dX8_canTurn_35 : decode cX8_canTurn 35 = .ok (.iaload, 1) := by decide +kernel
theorem dX8_canTurn_36 : decode cX8_canTurn 36 = .ok (.aload_n 0, 1) := by decide +kernel
theorem dX8_canTurn_37 : decode cX8_canTurn 37 = .ok (.getfield 19, 3) := by decide +kernel
theorem dX8_canTurn_40 : decode cX8_canTurn 40 = .ok (.iload_n 1, 1) := by decide +kernel
theorem dX8_canTurn_41 : decode cX8_canTurn 41 = .ok (.iaload, 1) := by decide +kernel
theorem dX8_canTurn_42 : decode cX8_canTurn 42 = .ok (.if_icmp .eq 7, 3) := by decide +kernel
theorem dX8_canTurn_45 : decode cX8_canTurn 45 = .ok (.iconst 1, 1) := by decide +kernel
theorem dX8_canTurn_46 : decode cX8_canTurn 46 = .ok (.goto 4, 3) := by decide +kernel
theorem dX8_canTurn_49 : decode cX8_canTurn 49 = .ok (.iconst 0, 1) := by decide +kernel
theorem dX8_canTurn_50 : decode cX8_canTurn 50 = .ok (.ireturn, 1) := by decide +kernel
theorem dX8_layLine_0 : decode cX8_layLine 0 = .ok (.iconst 0, 1) := by decide +kernel
theorem dX8_layLine_1 : decode cX8_layLine 1 = .ok (.istore_n 2, 1) := by decide +kernel
theorem dX8_layLine_2 : decode cX8_layLine 2 = .ok (.iconst 0, 1) := by decide +kernel
theorem dX8_layLine_3 : decode cX8_layLine 3 = .ok (.istore_n 3, 1) := by decide +kernel
theorem dX8_layLine_4 : decode cX8_layLine 4 = .ok (.iload_n 3, 1) := by decide +kernel
theorem dX8_layLine_5 : decode cX8_layLine 5 = .ok (.iconst 3, 1) := by decide +kernel
theorem dX8_layLine_6 : decode cX8_layLine 6 = .ok (.aload_n 0, 1) := by decide +kernel
theorem dX8_layLine_7 : decode cX8_layLine 7 = .ok (.getfield 87, 3) := by decide +kernel
theorem dX8_layLine_10 : decode cX8_layLine 10 = .ok (.imul, 1) := by decide +kernel
theorem dX8_layLine_11 : decode cX8_layLine 11 = .ok (.if_icmp .ge 44, 3) := by decide +kernel
theorem dX8_layLine_14 : decode cX8_layLine 14 = .ok (.aload_n 0, 1) := by decide +kernel
theorem dX8_layLine_15 : decode cX8_layLine 15 = .ok (.iload_n 3, 1) := by decide +kernel
theorem dX8_layLine_16 : decode cX8_layLine 16 = .ok (.iconst 3, 1) := by decide +kernel
theorem dX8_layLine_17 : decode cX8_layLine 17 = .ok (.idiv, 1) := by decide +kernel
theorem dX8_layLine_18 : decode cX8_layLine 18 = .ok (.iload_n 3, 1) := by decide +kernel
theorem dX8_layLine_19 : decode cX8_layLine 19 = .ok (.iconst 3, 1) := by decide +kernel
theorem dX8_layLine_20 : decode cX8_layLine 20 = .ok (.irem, 1) := by decide +kernel
theorem dX8_layLine_21 : decode cX8_layLine 21 = .ok (.iload_n 1, 1) := by decide +kernel
theorem dX8_layLine_22 : decode cX8_layLine 22 = .ok (.iload_n 3, 1) := by decide +kernel
theorem dX8_layLine_23 : decode cX8_layLine 23 = .ok (.iconst 3, 1) := by decide +kernel
theorem dX8_layLine_24 : decode cX8_layLine 24 = .ok (.idiv, 1) := by decide +kernel
theorem dX8_layLine_25 : decode cX8_layLine 25 = .ok (.invokestatic 103, 3) := by decide +kernel
theorem dX8_layLine_28 : decode cX8_layLine 28 = .ok (.invokevirtual 107, 3) := by decide +kernel
theorem dX8_layLine_31 : decode cX8_layLine 31 = .ok (.istore 4, 2) := by decide +kernel
theorem dX8_layLine_33 : decode cX8_layLine 33 = .ok (.iload 4, 2) := by decide +kernel
theorem dX8_layLine_35 : decode cX8_layLine 35 = .ok (.ifCond .lt 14, 3) := by decide +kernel
theorem dX8_layLine_38 : decode cX8_layLine 38 = .ok (.aload_n 0, 1) := by decide +kernel
theorem dX8_layLine_39 : decode cX8_layLine 39 = .ok (.getfield 35, 3) := by decide +kernel
theorem dX8_layLine_42 : decode cX8_layLine 42 = .ok (.iload_n 2, 1) := by decide +kernel
theorem dX8_layLine_43 : decode cX8_layLine 43 = .ok (.iload 4, 2) := by decide +kernel
theorem dX8_layLine_45 : decode cX8_layLine 45 = .ok (.iastore, 1) := by decide +kernel
theorem dX8_layLine_46 : decode cX8_layLine 46 = .ok (.iinc 2 1, 3) := by decide +kernel
theorem dX8_layLine_49 : decode cX8_layLine 49 = .ok (.iinc 3 1, 3) := by decide +kernel
theorem dX8_layLine_52 : decode cX8_layLine 52 = .ok (.goto (-48), 3) := by decide +kernel
theorem dX8_layLine_55 : decode cX8_layLine 55 = .ok (.iload_n 2, 1) := by decide +kernel
theorem dX8_layLine_56 : decode cX8_layLine 56 = .ok (.ireturn, 1) := by decide +kernel
theorem dX8_sight_0 : decode cX8_sight 0 = .ok (.iload_n 1, 1) := by decide +kernel
theorem dX8_sight_1 : decode cX8_sight 1 = .ok (.iconst 0, 1) := by decide +kernel
theorem dX8_sight_2 : decode cX8_sight 2 = .ok (.aload_n 0, 1) := by decide +kernel
theorem dX8_sight_3 : decode cX8_sight 3 = .ok (.iconst 0, 1) := by decide +kernel
theorem dX8_sight_4 : decode cX8_sight 4 = .ok (.invokevirtual 111, 3) := by decide +kernel
theorem dX8_sight_7 : decode cX8_sight 7 = .ok (.iconst 1, 1) := by decide +kernel
theorem dX8_sight_8 : decode cX8_sight 8 = .ok (.isub, 1) := by decide +kernel
theorem dX8_sight_9 : decode cX8_sight 9 = .ok (.invokestatic 83, 3) := by decide +kernel
theorem dX8_sight_12 : decode cX8_sight 12 = .ok (.ifCond .eq 12, 3) := by decide +kernel
theorem dX8_sight_15 : decode cX8_sight 15 = .ok (.aload_n 0, 1) := by decide +kernel
theorem dX8_sight_16 : decode cX8_sight 16 = .ok (.getfield 35, 3) := by decide +kernel
theorem dX8_sight_19 : decode cX8_sight 19 = .ok (.iload_n 1, 1) := by decide +kernel
theorem dX8_sight_20 : decode cX8_sight 20 = .ok (.iaload, 1) := by decide +kernel
theorem dX8_sight_21 : decode cX8_sight 21 = .ok (.goto 5, 3) := by decide +kernel
theorem dX8_sight_24 : decode cX8_sight 24 = .ok (.bipush (-6), 2) := by decide +kernel
theorem dX8_sight_26 : decode cX8_sight 26 = .ok (.ireturn, 1) := by decide +kernel
theorem dX8_usedOnes_0 : decode cX8_usedOnes 0 = .ok (.iconst 0, 1) := by decide +kernel
theorem dX8_usedOnes_1 : decode cX8_usedOnes 1 = .ok (.istore_n 1, 1) := by decide +kernel
theorem dX8_usedOnes_2 : decode cX8_usedOnes 2 = .ok (.aload_n 0, 1) := by decide +kernel
theorem dX8_usedOnes_3 : decode cX8_usedOnes 3 = .ok (.iconst 0, 1) := by decide +kernel
theorem dX8_usedOnes_4 : decode cX8_usedOnes 4 = .ok (.invokevirtual 111, 3) := by decide +kernel
theorem dX8_usedOnes_7 : decode cX8_usedOnes 7 = .ok (.istore_n 2, 1) := by decide +kernel
theorem dX8_usedOnes_8 : decode cX8_usedOnes 8 = .ok (.iconst 0, 1) := by decide +kernel
theorem dX8_usedOnes_9 : decode cX8_usedOnes 9 = .ok (.istore_n 3, 1) := by decide +kernel
theorem dX8_usedOnes_10 : decode cX8_usedOnes 10 = .ok (.iload_n 3, 1) := by decide +kernel
theorem dX8_usedOnes_11 : decode cX8_usedOnes 11 = .ok (.iload_n 2, 1) := by decide +kernel
theorem dX8_usedOnes_12 : decode cX8_usedOnes 12 = .ok (.if_icmp .ge 20, 3) := by decide +kernel
theorem dX8_usedOnes_15 : decode cX8_usedOnes 15 = .ok (.iload_n 1, 1) := by decide +kernel
theorem dX8_usedOnes_16 : decode cX8_usedOnes 16 = .ok (.iconst 1, 1) := by decide +kernel
theorem dX8_usedOnes_17 : decode cX8_usedOnes 17 = .ok (.aload_n 0, 1) := by decide +kernel
theorem dX8_usedOnes_18 : decode cX8_usedOnes 18 = .ok (.getfield 35, 3) := by decide +kernel
theorem dX8_usedOnes_21 : decode cX8_usedOnes 21 = .ok (.iload_n 3, 1) := by decide +kernel
theorem dX8_usedOnes_22 : decode cX8_usedOnes 22 = .ok (.iaload, 1) := by decide +kernel
theorem dX8_usedOnes_23 : decode cX8_usedOnes 23 = .ok (.ishl, 1) := by decide +kernel
theorem dX8_usedOnes_24 : decode cX8_usedOnes 24 = .ok (.ior, 1) := by decide +kernel
theorem dX8_usedOnes_25 : decode cX8_usedOnes 25 = .ok (.istore_n 1, 1) := by decide +kernel
theorem dX8_usedOnes_26 : decode cX8_usedOnes 26 = .ok (.iinc 3 1, 3) := by decide +kernel
theorem dX8_usedOnes_29 : decode cX8_usedOnes 29 = .ok (.goto (-19), 3) := by decide +kernel
theorem dX8_usedOnes_32 : decode cX8_usedOnes 32 = .ok (.iload_n 1, 1) := by decide +kernel
theorem dX8_usedOnes_33 : decode cX8_usedOnes 33 = .ok (.ireturn, 1) := by decide +kernel
theorem dX8_isFar_0 : decode cX8_isFar 0 = .ok (.iload_n 1, 1) := by decide +kernel
theorem dX8_isFar_1 : decode cX8_isFar 1 = .ok (.iload_n 2, 1) := by decide +kernel
theorem dX8_isFar_2 : decode cX8_isFar 2 = .ok (.if_icmp .ge 9, 3) := by decide +kernel
theorem dX8_isFar_5 : decode cX8_isFar 5 = .ok (.iload_n 2, 1) := by decide +kernel
theorem dX8_isFar_6 : decode cX8_isFar 6 = .ok (.iload_n 1, 1) := by decide +kernel
theorem dX8_isFar_7 : decode cX8_isFar 7 = .ok (.isub, 1) := by decide +kernel
theorem dX8_isFar_8 : decode cX8_isFar 8 = .ok (.goto 6, 3) := by decide +kernel
theorem dX8_isFar_11 : decode cX8_isFar 11 = .ok (.iload_n 1, 1) := by decide +kernel
theorem dX8_isFar_12 : decode cX8_isFar 12 = .ok (.iload_n 2, 1) := by decide +kernel
theorem dX8_isFar_13 : decode cX8_isFar 13 = .ok (.isub, 1) := by decide +kernel
theorem dX8_isFar_14 : decode cX8_isFar 14 = .ok (.istore_n 3, 1) := by decide +kernel
theorem dX8_isFar_15 : decode cX8_isFar 15 = .ok (.iload_n 3, 1) := by decide +kernel
theorem dX8_isFar_16 : decode cX8_isFar 16 = .ok (.ifCond .le 16, 3) := by decide +kernel
theorem dX8_isFar_19 : decode cX8_isFar 19 = .ok (.aload_n 0, 1) := by decide +kernel
theorem dX8_isFar_20 : decode cX8_isFar 20 = .ok (.getfield 28, 3) := by decide +kernel
theorem dX8_isFar_23 : decode cX8_isFar 23 = .ok (.iload_n 3, 1) := by decide +kernel
theorem dX8_isFar_24 : decode cX8_isFar 24 = .ok (.baload, 1) := by decide +kernel
theorem dX8_isFar_25 : decode cX8_isFar 25 = .ok (.ifCond .ne 7, 3) := by decide +kernel
theorem dX8_isFar_28 : decode cX8_isFar 28 = .ok (.iconst 1, 1) := by decide +kernel
theorem dX8_isFar_29 : decode cX8_isFar 29 = .ok (.goto 4, 3) := by decide +kernel
theorem dX8_isFar_32 : decode cX8_isFar 32 = .ok (.iconst 0, 1) := by decide +kernel
theorem dX8_isFar_33 : decode cX8_isFar 33 = .ok (.ireturn, 1) := by decide +kernel
theorem dX8_costOf_0 : decode cX8_costOf 0 = .ok (.iconst 0, 1) := by decide +kernel
theorem dX8_costOf_1 : decode cX8_costOf 1 = .ok (.istore 5, 2) := by decide +kernel
theorem dX8_costOf_3 : decode cX8_costOf 3 = .ok (.aload_n 0, 1) := by decide +kernel
theorem dX8_costOf_4 : decode cX8_costOf 4 = .ok (.iload 4, 2) := by decide +kernel
theorem dX8_costOf_6 : decode cX8_costOf 6 = .ok (.putfield 115, 3) := by decide +kernel
theorem dX8_costOf_9 : decode cX8_costOf 9 = .ok (.iconst 0, 1) := by decide +kernel
theorem dX8_costOf_10 : decode cX8_costOf 10 = .ok (.istore 6, 2) := by decide +kernel
theorem dX8_costOf_12 : decode cX8_costOf 12 = .ok (.iload 6, 2) := by decide +kernel
theorem dX8_costOf_14 : decode cX8_costOf 14 = .ok (.iconst 3, 1) := by decide +kernel
theorem dX8_costOf_15 : decode cX8_costOf 15 = .ok (.if_icmp .ge 81, 3) := by decide +kernel
theorem dX8_costOf_18 : decode cX8_costOf 18 = .ok (.aload_n 0, 1) := by decide +kernel
theorem dX8_costOf_19 : decode cX8_costOf 19 = .ok (.iload_n 1, 1) := by decide +kernel
theorem dX8_costOf_20 : decode cX8_costOf 20 = .ok (.iload 6, 2) := by decide +kernel
theorem dX8_costOf_22 : decode cX8_costOf 22 = .ok (.iload_n 2, 1) := by decide +kernel
theorem dX8_costOf_23 : decode cX8_costOf 23 = .ok (.invokevirtual 107, 3) := by decide +kernel
theorem dX8_costOf_26 : decode cX8_costOf 26 = .ok (.istore 7, 2) := by decide +kernel
theorem dX8_costOf_28 : decode cX8_costOf 28 = .ok (.iload 7, 2) := by decide +kernel
theorem dX8_costOf_30 : decode cX8_costOf 30 = .ok (.ifCond .lt 60, 3) := by decide +kernel
theorem dX8_costOf_33 : decode cX8_costOf 33 = .ok (.iload_n 3, 1) := by decide +kernel
theorem dX8_costOf_34 : decode cX8_costOf 34 = .ok (.iload 7, 2) := by decide +kernel
theorem dX8_costOf_36 : decode cX8_costOf 36 = .ok (.invokestatic 103, 3) := by decide +kernel
theorem dX8_costOf_39 : decode cX8_costOf 39 = .ok (.ifCond .eq 51, 3) := by decide +kernel
theorem dX8_costOf_42 : decode cX8_costOf 42 = .ok (.iload 5, 2) := by decide +kernel
theorem dX8_costOf_44 : decode cX8_costOf 44 = .ok (.aload_n 0, 1) := by decide +kernel
theorem dX8_costOf_45 : decode cX8_costOf 45 = .ok (.getfield 115, 3) := by decide +kernel
theorem dX8_costOf_48 : decode cX8_costOf 48 = .ok (.bipush 7, 2) := by decide +kernel
theorem dX8_costOf_50 : decode cX8_costOf 50 = .ok (.if_icmp .eq 26, 3) := by decide +kernel
theorem dX8_costOf_53 : decode cX8_costOf 53 = .ok (.aload_n 0, 1) := by decide +kernel
theorem dX8_costOf_54 : decode cX8_costOf 54 = .ok (.aload_n 0, 1) := by decide +kernel
theorem dX8_costOf_55 : decode cX8_costOf 55 = .ok (.getfield 38, 3) := by decide +kernel
theorem dX8_costOf_58 : decode cX8_costOf 58 = .ok (.aload_n 0, 1) := by decide +kernel
theorem dX8_costOf_59 : decode cX8_costOf 59 = .ok (.getfield 115, 3) := by decide +kernel
theorem dX8_costOf_62 : decode cX8_costOf 62 = .ok (.iaload, 1) := by decide +kernel
theorem dX8_costOf_63 : decode cX8_costOf 63 = .ok (.aload_n 0, 1) := by decide +kernel
theorem dX8_costOf_64 : decode cX8_costOf 64 = .ok (.getfield 38, 3) := by decide +kernel
theorem dX8_costOf_67 : decode cX8_costOf 67 = .ok (.iload 7, 2) := by decide +kernel
theorem dX8_costOf_69 : decode cX8_costOf 69 = .ok (.iaload, 1) := by decide +kernel
theorem dX8_costOf_70 : decode cX8_costOf 70 = .ok (.invokevirtual 118, 3) := by decide +kernel
theorem dX8_costOf_73 : decode cX8_costOf 73 = .ok (.ifCond .eq 7, 3) := by decide +kernel
theorem dX8_costOf_76 : decode cX8_costOf 76 = .ok (.iconst 1, 1) := by decide +kernel
theorem dX8_costOf_77 : decode cX8_costOf 77 = .ok (.goto 4, 3) := by decide +kernel
theorem dX8_costOf_80 : decode cX8_costOf 80 = .ok (.iconst 0, 1) := by decide +kernel
theorem dX8_costOf_81 : decode cX8_costOf 81 = .ok (.iadd, 1) := by decide +kernel
theorem dX8_costOf_82 : decode cX8_costOf 82 = .ok (.istore 5, 2) := by decide +kernel
theorem dX8_costOf_84 : decode cX8_costOf 84 = .ok (.aload_n 0, 1) := by decide +kernel
theorem dX8_costOf_85 : decode cX8_costOf 85 = .ok (.iload 7, 2) := by decide +kernel
theorem dX8_costOf_87 : decode cX8_costOf 87 = .ok (.putfield 115, 3) := by decide +kernel
theorem dX8_costOf_90 : decode cX8_costOf 90 = .ok (.iinc 6 1, 3) := by decide +kernel
theorem dX8_costOf_93 : decode cX8_costOf 93 = .ok (.goto (-81), 3) := by decide +kernel
theorem dX8_costOf_96 : decode cX8_costOf 96 = .ok (.iload 5, 2) := by decide +kernel
theorem dX8_costOf_98 : decode cX8_costOf 98 = .ok (.ireturn, 1) := by decide +kernel
theorem dX8_payBehind_0 : decode cX8_payBehind 0 = .ok (.aload_n 0, 1) := by decide +kernel
theorem dX8_payBehind_1 : decode cX8_payBehind 1 = .ok (.iload_n 1, 1) := by decide +kernel
theorem dX8_payBehind_2 : decode cX8_payBehind 2 = .ok (.iload_n 2, 1) := by decide +kernel
theorem dX8_payBehind_3 : decode cX8_payBehind 3 = .ok (.iload_n 3, 1) := by decide +kernel
theorem dX8_payBehind_4 : decode cX8_payBehind 4 = .ok (.iload 4, 2) := by decide +kernel
theorem dX8_payBehind_6 : decode cX8_payBehind 6 = .ok (.invokevirtual 121, 3) := by decide +kernel
theorem dX8_payBehind_9 : decode cX8_payBehind 9 = .ok (.istore 5, 2) := by decide +kernel
theorem dX8_payBehind_11 : decode cX8_payBehind 11 = .ok (.iload 5, 2) := by decide +kernel
theorem dX8_payBehind_13 : decode cX8_payBehind 13 = .ok (.aload_n 0, 1) := by decide +kernel
theorem dX8_payBehind_14 : decode cX8_payBehind 14 = .ok (.getfield 41, 3) := by decide +kernel
theorem dX8_payBehind_17 : decode cX8_payBehind 17 = .ok (.bipush 8, 2) := by decide +kernel
theorem dX8_payBehind_19 : decode cX8_payBehind 19 = .ok (.iload_n 1, 1) := by decide +kernel
theorem dX8_payBehind_20 : decode cX8_payBehind 20 = .ok (.iconst 1, 1) := by decide +kernel
theorem dX8_payBehind_21 : decode cX8_payBehind 21 = .ok (.iadd, 1) := by decide +kernel
theorem dX8_payBehind_22 : decode cX8_payBehind 22 = .ok (.imul, 1) := by decide +kernel
theorem dX8_payBehind_23 : decode cX8_payBehind 23 = .ok (.aload_n 0, 1) := by decide +kernel
theorem dX8_payBehind_24 : decode cX8_payBehind 24 = .ok (.getfield 115, 3) := by decide +kernel
theorem dX8_payBehind_27 : decode cX8_payBehind 27 = .ok (.iadd, 1) := by decide +kernel
theorem dX8_payBehind_28 : decode cX8_payBehind 28 = .ok (.iaload, 1) := by decide +kernel
theorem dX8_payBehind_29 : decode cX8_payBehind 29 = .ok (.iadd, 1) := by decide +kernel
theorem dX8_payBehind_30 : decode cX8_payBehind 30 = .ok (.ireturn, 1) := by decide +kernel
theorem dX8_layPay_0 : decode cX8_layPay 0 = .ok (.iconst 0, 1) := by decide +kernel
theorem dX8_layPay_1 : decode cX8_layPay 1 = .ok (.istore_n 3, 1) := by decide +kernel
theorem dX8_layPay_2 : decode cX8_layPay 2 = .ok (.iload_n 3, 1) := by decide +kernel
theorem dX8_layPay_3 : decode cX8_layPay 3 = .ok (.bipush 8, 2) := by decide +kernel
theorem dX8_layPay_5 : decode cX8_layPay 5 = .ok (.if_icmp .ge 24, 3) := by decide +kernel
theorem dX8_layPay_8 : decode cX8_layPay 8 = .ok (.aload_n 0, 1) := by decide +kernel
theorem dX8_layPay_9 : decode cX8_layPay 9 = .ok (.getfield 41, 3) := by decide +kernel
theorem dX8_layPay_12 : decode cX8_layPay 12 = .ok (.bipush 8, 2) := by decide +kernel
theorem dX8_layPay_14 : decode cX8_layPay 14 = .ok (.aload_n 0, 1) := by decide +kernel
theorem dX8_layPay_15 : decode cX8_layPay 15 = .ok (.getfield 87, 3) := by decide +kernel
theorem dX8_layPay_18 : decode cX8_layPay 18 = .ok (.imul, 1) := by decide +kernel
theorem dX8_layPay_19 : decode cX8_layPay 19 = .ok (.iload_n 3, 1) := by decide +kernel
theorem dX8_layPay_20 : decode cX8_layPay 20 = .ok (.iadd, 1) := by decide +kernel
theorem dX8_layPay_21 : decode cX8_layPay 21 = .ok (.iconst 0, 1) := by decide +kernel
theorem dX8_layPay_22 : decode cX8_layPay 22 = .ok (.iastore, 1) := by decide +kernel
theorem dX8_layPay_23 : decode cX8_layPay 23 = .ok (.iinc 3 1, 3) := by decide +kernel
theorem dX8_layPay_26 : decode cX8_layPay 26 = .ok (.goto (-24), 3) := by decide +kernel
theorem dX8_layPay_29 : decode cX8_layPay 29 = .ok (.aload_n 0, 1) := by decide +kernel
theorem dX8_layPay_30 : decode cX8_layPay 30 = .ok (.getfield 87, 3) := by decide +kernel
theorem dX8_layPay_33 : decode cX8_layPay 33 = .ok (.iconst 1, 1) := by decide +kernel
theorem dX8_layPay_34 : decode cX8_layPay 34 = .ok (.isub, 1) := by decide +kernel
theorem dX8_layPay_35 : decode cX8_layPay 35 = .ok (.istore_n 3, 1) := by decide +kernel
theorem dX8_layPay_36 : decode cX8_layPay 36 = .ok (.iload_n 3, 1) := by decide +kernel
theorem dX8_layPay_37 : decode cX8_layPay 37 = .ok (.ifCond .lt 107, 3) := by decide +kernel
theorem dX8_layPay_40 : decode cX8_layPay 40 = .ok (.iconst 0, 1) := by decide +kernel
theorem dX8_layPay_41 : decode cX8_layPay 41 = .ok (.istore 4, 2) := by decide +kernel
theorem dX8_layPay_43 : decode cX8_layPay 43 = .ok (.iload 4, 2) := by decide +kernel
theorem dX8_layPay_45 : decode cX8_layPay 45 = .ok (.bipush 8, 2) := by decide +kernel
theorem dX8_layPay_47 : decode cX8_layPay 47 = .ok (.if_icmp .ge 91, 3) := by decide +kernel
theorem dX8_layPay_50 : decode cX8_layPay 50 = .ok (.iload 4, 2) := by decide +kernel
theorem dX8_layPay_52 : decode cX8_layPay 52 = .ok (.bipush 7, 2) := by decide +kernel
theorem dX8_layPay_54 : decode cX8_layPay 54 = .ok (.if_icmp .eq 12, 3) := by decide +kernel
theorem dX8_layPay_57 : decode cX8_layPay 57 = .ok (.iload_n 1, 1) := by decide +kernel
theorem dX8_layPay_58 : decode cX8_layPay 58 = .ok (.iload 4, 2) := by decide +kernel
theorem dX8_layPay_60 : decode cX8_layPay 60 = .ok (.invokestatic 103, 3) := by decide +kernel
theorem dX8_layPay_63 : decode cX8_layPay 63 = .ok (.ifCond .eq 69, 3) := by decide +kernel
theorem dX8_layPay_66 : decode cX8_layPay 66 = .ok (.aload_n 0, 1) := by decide +kernel
theorem dX8_layPay_67 : decode cX8_layPay 67 = .ok (.iload_n 3, 1) := by decide +kernel
theorem dX8_layPay_68 : decode cX8_layPay 68 = .ok (.iconst 0, 1) := by decide +kernel
theorem dX8_layPay_69 : decode cX8_layPay 69 = .ok (.iload_n 1, 1) := by decide +kernel
theorem dX8_layPay_70 : decode cX8_layPay 70 = .ok (.iload 4, 2) := by decide +kernel
theorem dX8_layPay_72 : decode cX8_layPay 72 = .ok (.invokevirtual 125, 3) := by decide +kernel
theorem dX8_layPay_75 : decode cX8_layPay 75 = .ok (.istore 5, 2) := by decide +kernel
theorem dX8_layPay_77 : decode cX8_layPay 77 = .ok (.iload_n 2, 1) := by decide +kernel
theorem dX8_layPay_78 : decode cX8_layPay 78 = .ok (.iconst 1, 1) := by decide +kernel
theorem dX8_layPay_79 : decode cX8_layPay 79 = .ok (.if_icmp .ne 23, 3) := by decide +kernel
theorem dX8_layPay_82 : decode cX8_layPay 82 = .ok (.aload_n 0, 1) := by decide +kernel
theorem dX8_layPay_83 : decode cX8_layPay 83 = .ok (.iload_n 3, 1) := by decide +kernel
theorem dX8_layPay_84 : decode cX8_layPay 84 = .ok (.invokevirtual 128, 3) := by decide +kernel
theorem dX8_layPay_87 : decode cX8_layPay 87 = .ok (.ifCond .eq 15, 3) := by decide +kernel
theorem dX8_layPay_90 : decode cX8_layPay 90 = .ok (.aload_n 0, 1) := by decide +kernel
theorem dX8_layPay_91 : decode cX8_layPay 91 = .ok (.iload_n 3, 1) := by decide +kernel
theorem dX8_layPay_92 : decode cX8_layPay 92 = .ok (.iconst 1, 1) := by decide +kernel
theorem dX8_layPay_93 : decode cX8_layPay 93 = .ok (.iload_n 1, 1) := by decide +kernel
theorem dX8_layPay_94 : decode cX8_layPay 94 = .ok (.iload 4, 2) := by decide +kernel
theorem dX8_layPay_96 : decode cX8_layPay 96 = .ok (.invokevirtual 125, 3) := by decide +kernel
theorem dX8_layPay_99 : decode cX8_layPay 99 = .ok (.goto 5, 3) := by decide +kernel
theorem dX8_layPay_102 : decode cX8_layPay 102 = .ok (.iload 5, 2) := by decide +kernel
theorem dX8_layPay_104 : decode cX8_layPay 104 = .ok (.istore 6, 2) := by decide +kernel
theorem dX8_layPay_106 : decode cX8_layPay 106 = .ok (.aload_n 0, 1) := by decide +kernel
theorem dX8_layPay_107 : decode cX8_layPay 107 = .ok (.getfield 41, 3) := by decide +kernel
theorem dX8_layPay_110 : decode cX8_layPay 110 = .ok (.bipush 8, 2) := by decide +kernel
theorem dX8_layPay_112 : decode cX8_layPay 112 = .ok (.iload_n 3, 1) := by decide +kernel
theorem dX8_layPay_113 : decode cX8_layPay 113 = .ok (.imul, 1) := by decide +kernel
theorem dX8_layPay_114 : decode cX8_layPay 114 = .ok (.iload 4, 2) := by decide +kernel
theorem dX8_layPay_116 : decode cX8_layPay 116 = .ok (.iadd, 1) := by decide +kernel
theorem dX8_layPay_117 : decode cX8_layPay 117 = .ok (.iload 5, 2) := by decide +kernel
theorem dX8_layPay_119 : decode cX8_layPay 119 = .ok (.iload 6, 2) := by decide +kernel
theorem dX8_layPay_121 : decode cX8_layPay 121 = .ok (.if_icmp .ge 8, 3) := by decide +kernel
theorem dX8_layPay_124 : decode cX8_layPay 124 = .ok (.iload 5, 2) := by decide +kernel
theorem dX8_layPay_126 : decode cX8_layPay 126 = .ok (.goto 5, 3) := by decide +kernel
theorem dX8_layPay_129 : decode cX8_layPay 129 = .ok (.iload 6, 2) := by decide +kernel
theorem dX8_layPay_131 : decode cX8_layPay 131 = .ok (.iastore, 1) := by decide +kernel
theorem dX8_layPay_132 : decode cX8_layPay 132 = .ok (.iinc 4 1, 3) := by decide +kernel
theorem dX8_layPay_135 : decode cX8_layPay 135 = .ok (.goto (-92), 3) := by decide +kernel
theorem dX8_layPay_138 : decode cX8_layPay 138 = .ok (.iinc 3 (-1), 3) := by decide +kernel
theorem dX8_layPay_141 : decode cX8_layPay 141 = .ok (.goto (-105), 3) := by decide +kernel
theorem dX8_layPay_144 : decode cX8_layPay 144 = .ok (.aload_n 0, 1) := by decide +kernel
theorem dX8_layPay_145 : decode cX8_layPay 145 = .ok (.getfield 41, 3) := by decide +kernel
theorem dX8_layPay_148 : decode cX8_layPay 148 = .ok (.bipush 7, 2) := by decide +kernel
theorem dX8_layPay_150 : decode cX8_layPay 150 = .ok (.iaload, 1) := by decide +kernel
theorem dX8_layPay_151 : decode cX8_layPay 151 = .ok (.ireturn, 1) := by decide +kernel
theorem dX8_turnedFor_0 : decode cX8_turnedFor 0 = .ok (.aload_n 0, 1) := by decide +kernel
theorem dX8_turnedFor_1 : decode cX8_turnedFor 1 = .ok (.iload_n 1, 1) := by decide +kernel
theorem dX8_turnedFor_2 : decode cX8_turnedFor 2 = .ok (.iload_n 2, 1) := by decide +kernel
theorem dX8_turnedFor_3 : decode cX8_turnedFor 3 = .ok (.invokevirtual 131, 3) := by decide +kernel
theorem dX8_turnedFor_6 : decode cX8_turnedFor 6 = .ok (.pop, 1) := by decide +kernel
theorem dX8_turnedFor_7 : decode cX8_turnedFor 7 = .ok (.iconst 0, 1) := by decide +kernel
theorem dX8_turnedFor_8 : decode cX8_turnedFor 8 = .ok (.istore_n 3, 1) := by decide +kernel
theorem dX8_turnedFor_9 : decode cX8_turnedFor 9 = .ok (.bipush 7, 2) := by decide +kernel
theorem dX8_turnedFor_11 : decode cX8_turnedFor 11 = .ok (.istore 4, 2) := by decide +kernel
theorem dX8_turnedFor_13 : decode cX8_turnedFor 13 = .ok (.iconst 0, 1) := by decide +kernel
theorem dX8_turnedFor_14 : decode cX8_turnedFor 14 = .ok (.istore 5, 2) := by decide +kernel
theorem dX8_turnedFor_16 : decode cX8_turnedFor 16 = .ok (.iload 5, 2) := by decide +kernel
theorem dX8_turnedFor_18 : decode cX8_turnedFor 18 = .ok (.aload_n 0, 1) := by decide +kernel
theorem dX8_turnedFor_19 : decode cX8_turnedFor 19 = .ok (.getfield 87, 3) := by decide +kernel
theorem dX8_turnedFor_22 : decode cX8_turnedFor 22 = .ok (.if_icmp .ge 84, 3) := by decide +kernel
theorem dX8_turnedFor_25 : decode cX8_turnedFor 25 = .ok (.aload_n 0, 1) := by decide +kernel
theorem dX8_turnedFor_26 : decode cX8_turnedFor 26 = .ok (.iload 5, 2) := by decide +kernel
theorem dX8_turnedFor_28 : decode cX8_turnedFor 28 = .ok (.iconst 0, 1) := by decide +kernel
theorem dX8_turnedFor_29 : decode cX8_turnedFor 29 = .ok (.iload_n 1, 1) := by decide +kernel
theorem dX8_turnedFor_30 : decode cX8_turnedFor 30 = .ok (.iload 4, 2) := by decide +kernel
theorem dX8_turnedFor_32 : decode cX8_turnedFor 32 = .ok (.invokevirtual 125, 3) := by decide +kernel
theorem dX8_turnedFor_35 : decode cX8_turnedFor 35 = .ok (.aload_n 0, 1) := by decide +kernel
theorem dX8_turnedFor_36 : decode cX8_turnedFor 36 = .ok (.getfield 41, 3) := by decide +kernel
theorem dX8_turnedFor_39 : decode cX8_turnedFor 39 = .ok (.bipush 8, 2) := by decide +kernel
theorem dX8_turnedFor_41 : decode cX8_turnedFor 41 = .ok (.iload 5, 2) := by decide +kernel
theorem dX8_turnedFor_43 : decode cX8_turnedFor 43 = .ok (.imul, 1) := by decide +kernel
theorem dX8_turnedFor_44 : decode cX8_turnedFor 44 = .ok (.iload 4, 2) := by decide +kernel
theorem dX8_turnedFor_46 : decode cX8_turnedFor 46 = .ok (.iadd, 1) := by decide +kernel
theorem dX8_turnedFor_47 : decode cX8_turnedFor 47 = .ok (.iaload, 1) := by decide +kernel
theorem dX8_turnedFor_48 : decode cX8_turnedFor 48 = .ok (.if_icmp .ne 7, 3) := by decide +kernel
theorem dX8_turnedFor_51 : decode cX8_turnedFor 51 = .ok (.iconst 1, 1) := by decide +kernel
theorem dX8_turnedFor_52 : decode cX8_turnedFor 52 = .ok (.goto 4, 3) := by decide +kernel
theorem dX8_turnedFor_55 : decode cX8_turnedFor 55 = .ok (.iconst 0, 1) := by decide +kernel
theorem dX8_turnedFor_56 : decode cX8_turnedFor 56 = .ok (.istore 6, 2) := by decide +kernel
theorem dX8_turnedFor_58 : decode cX8_turnedFor 58 = .ok (.iload_n 3, 1) := by decide +kernel
theorem dX8_turnedFor_59 : decode cX8_turnedFor 59 = .ok (.iload 6, 2) := by decide +kernel
theorem dX8_turnedFor_61 : decode cX8_turnedFor 61 = .ok (.ifCond .eq 7, 3) := by decide +kernel
theorem dX8_turnedFor_64 : decode cX8_turnedFor 64 = .ok (.iconst 0, 1) := by decide +kernel
theorem dX8_turnedFor_65 : decode cX8_turnedFor 65 = .ok (.goto 7, 3) := by decide +kernel
theorem dX8_turnedFor_68 : decode cX8_turnedFor 68 = .ok (.iconst 1, 1) := by decide +kernel
theorem dX8_turnedFor_69 : decode cX8_turnedFor 69 = .ok (.iload 5, 2) := by decide +kernel
theorem dX8_turnedFor_71 : decode cX8_turnedFor 71 = .ok (.ishl, 1) := by decide +kernel
theorem dX8_turnedFor_72 : decode cX8_turnedFor 72 = .ok (.ior, 1) := by decide +kernel
theorem dX8_turnedFor_73 : decode cX8_turnedFor 73 = .ok (.istore_n 3, 1) := by decide +kernel
theorem dX8_turnedFor_74 : decode cX8_turnedFor 74 = .ok (.aload_n 0, 1) := by decide +kernel
theorem dX8_turnedFor_75 : decode cX8_turnedFor 75 = .ok (.iload 5, 2) := by decide +kernel
theorem dX8_turnedFor_77 : decode cX8_turnedFor 77 = .ok (.iload 6, 2) := by decide +kernel
theorem dX8_turnedFor_79 : decode cX8_turnedFor 79 = .ok (.ifCond .ne 7, 3) := by decide +kernel
theorem dX8_turnedFor_82 : decode cX8_turnedFor 82 = .ok (.iconst 1, 1) := by decide +kernel
theorem dX8_turnedFor_83 : decode cX8_turnedFor 83 = .ok (.goto 4, 3) := by decide +kernel
theorem dX8_turnedFor_86 : decode cX8_turnedFor 86 = .ok (.iconst 0, 1) := by decide +kernel
theorem dX8_turnedFor_87 : decode cX8_turnedFor 87 = .ok (.iload_n 1, 1) := by decide +kernel
theorem dX8_turnedFor_88 : decode cX8_turnedFor 88 = .ok (.iload 4, 2) := by decide +kernel
theorem dX8_turnedFor_90 : decode cX8_turnedFor 90 = .ok (.invokevirtual 121, 3) := by decide +kernel
theorem dX8_turnedFor_93 : decode cX8_turnedFor 93 = .ok (.pop, 1) := by decide +kernel
theorem dX8_turnedFor_94 : decode cX8_turnedFor 94 = .ok (.aload_n 0, 1) := by decide +kernel
theorem dX8_turnedFor_95 : decode cX8_turnedFor 95 = .ok (.getfield 115, 3) := by decide +kernel
theorem dX8_turnedFor_98 : decode cX8_turnedFor 98 = .ok (.istore 4, 2) := by decide +kernel
theorem dX8_turnedFor_100 : decode cX8_turnedFor 100 = .ok (.iinc 5 1, 3) := by decide +kernel
theorem dX8_turnedFor_103 : decode cX8_turnedFor 103 = .ok (.goto (-87), 3) := by decide +kernel
theorem dX8_turnedFor_106 : decode cX8_turnedFor 106 = .ok (.iload_n 3, 1) := by decide +kernel
theorem dX8_turnedFor_107 : decode cX8_turnedFor 107 = .ok (.ireturn, 1) := by decide +kernel
theorem dX8_isNext_0 : decode cX8_isNext 0 = .ok (.iload_n 1, 1) := by decide +kernel
theorem dX8_isNext_1 : decode cX8_isNext 1 = .ok (.iconst 2, 1) := by decide +kernel
theorem dX8_isNext_2 : decode cX8_isNext 2 = .ok (.isub, 1) := by decide +kernel
theorem dX8_isNext_3 : decode cX8_isNext 3 = .ok (.istore_n 2, 1) := by decide +kernel
theorem dX8_isNext_4 : decode cX8_isNext 4 = .ok (.iload_n 2, 1) := by decide +kernel
theorem dX8_isNext_5 : decode cX8_isNext 5 = .ok (.ifCond .lt 26, 3) := by decide +kernel
theorem dX8_isNext_8 : decode cX8_isNext 8 = .ok (.aload_n 0, 1) := by decide +kernel
theorem dX8_isNext_9 : decode cX8_isNext 9 = .ok (.getfield 53, 3) := by decide +kernel
theorem dX8_isNext_12 : decode cX8_isNext 12 = .ok (.iload_n 2, 1) := by decide +kernel
theorem dX8_isNext_13 : decode cX8_isNext 13 = .ok (.iaload, 1) := by decide +kernel
theorem dX8_isNext_14 : decode cX8_isNext 14 = .ok (.aload_n 0, 1) := by decide +kernel
theorem dX8_isNext_15 : decode cX8_isNext 15 = .ok (.getfield 53, 3) := by decide +kernel
theorem dX8_isNext_18 : decode cX8_isNext 18 = .ok (.iload_n 2, 1) := by decide +kernel
theorem dX8_isNext_19 : decode cX8_isNext 19 = .ok (.iconst 1, 1) := by decide +kernel
theorem dX8_isNext_20 : decode cX8_isNext 20 = .ok (.iadd, 1) := by decide +kernel
theorem dX8_isNext_21 : decode cX8_isNext 21 = .ok (.iaload, 1) := by decide +kernel
theorem dX8_isNext_22 : decode cX8_isNext 22 = .ok (.if_icmp .le 9, 3) := by decide +kernel
theorem dX8_isNext_25 : decode cX8_isNext 25 = .ok (.iinc 2 (-1), 3) := by decide +kernel
theorem dX8_isNext_28 : decode cX8_isNext 28 = .ok (.goto (-24), 3) := by decide +kernel
theorem dX8_isNext_31 : decode cX8_isNext 31 = .ok (.iload_n 2, 1) := by decide +kernel
theorem dX8_isNext_32 : decode cX8_isNext 32 = .ok (.ifCond .ge 5, 3) := by decide +kernel
theorem dX8_isNext_35 : decode cX8_isNext 35 = .ok (.iconst 0, 1) := by decide +kernel
theorem dX8_isNext_36 : decode cX8_isNext 36 = .ok (.ireturn, 1) := by decide +kernel
theorem dX8_isNext_37 : decode cX8_isNext 37 = .ok (.iload_n 1, 1) := by decide +kernel
theorem dX8_isNext_38 : decode cX8_isNext 38 = .ok (.iconst 1, 1) := by decide +kernel
theorem dX8_isNext_39 : decode cX8_isNext 39 = .ok (.isub, 1) := by decide +kernel
theorem dX8_isNext_40 : decode cX8_isNext 40 = .ok (.istore_n 3, 1) := by decide +kernel
theorem dX8_isNext_41 : decode cX8_isNext 41 = .ok (.aload_n 0, 1) := by decide +kernel
theorem dX8_isNext_42 : decode cX8_isNext 42 = .ok (.getfield 53, 3) := by decide +kernel
theorem dX8_isNext_45 : decode cX8_isNext 45 = .ok (.iload_n 3, 1) := by decide +kernel
theorem dX8_isNext_46 : decode cX8_isNext 46 = .ok (.iaload, 1) := by decide +kernel
theorem dX8_isNext_47 : decode cX8_isNext 47 = .ok (.aload_n 0, 1) := by decide +kernel
theorem dX8_isNext_48 : decode cX8_isNext 48 = .ok (.getfield 53, 3) := by decide +kernel
theorem dX8_isNext_51 : decode cX8_isNext 51 = .ok (.iload_n 2, 1) := by decide +kernel
theorem dX8_isNext_52 : decode cX8_isNext 52 = .ok (.iaload, 1) := by decide +kernel
theorem dX8_isNext_53 : decode cX8_isNext 53 = .ok (.if_icmp .ge 9, 3) := by decide +kernel
theorem dX8_isNext_56 : decode cX8_isNext 56 = .ok (.iinc 3 (-1), 3) := by decide +kernel
theorem dX8_isNext_59 : decode cX8_isNext 59 = .ok (.goto (-18), 3) := by decide +kernel
theorem dX8_isNext_62 : decode cX8_isNext 62 = .ok (.aload_n 0, 1) := by decide +kernel
theorem dX8_isNext_63 : decode cX8_isNext 63 = .ok (.iload_n 2, 1) := by decide +kernel
theorem dX8_isNext_64 : decode cX8_isNext 64 = .ok (.iload_n 3, 1) := by decide +kernel
theorem dX8_isNext_65 : decode cX8_isNext 65 = .ok (.invokevirtual 135, 3) := by decide +kernel
theorem dX8_isNext_68 : decode cX8_isNext 68 = .ok (.iload_n 2, 1) := by decide +kernel
theorem dX8_isNext_69 : decode cX8_isNext 69 = .ok (.iconst 1, 1) := by decide +kernel
theorem dX8_isNext_70 : decode cX8_isNext 70 = .ok (.iadd, 1) := by decide +kernel
theorem dX8_isNext_71 : decode cX8_isNext 71 = .ok (.istore 4, 2) := by decide +kernel
theorem dX8_isNext_73 : decode cX8_isNext 73 = .ok (.iload_n 1, 1) := by decide +kernel
theorem dX8_isNext_74 : decode cX8_isNext 74 = .ok (.iconst 1, 1) := by decide +kernel
theorem dX8_isNext_75 : decode cX8_isNext 75 = .ok (.isub, 1) := by decide +kernel
theorem dX8_isNext_76 : decode cX8_isNext 76 = .ok (.istore 5, 2) := by decide +kernel
theorem dX8_isNext_78 : decode cX8_isNext 78 = .ok (.iload 4, 2) := by decide +kernel
theorem dX8_isNext_80 : decode cX8_isNext 80 = .ok (.iload 5, 2) := by decide +kernel
theorem dX8_isNext_82 : decode cX8_isNext 82 = .ok (.if_icmp .ge 20, 3) := by decide +kernel
theorem dX8_isNext_85 : decode cX8_isNext 85 = .ok (.aload_n 0, 1) := by decide +kernel
theorem dX8_isNext_86 : decode cX8_isNext 86 = .ok (.iload 4, 2) := by decide +kernel
theorem dX8_isNext_88 : decode cX8_isNext 88 = .ok (.iload 5, 2) := by decide +kernel
theorem dX8_isNext_90 : decode cX8_isNext 90 = .ok (.invokevirtual 135, 3) := by decide +kernel
theorem dX8_isNext_93 : decode cX8_isNext 93 = .ok (.iinc 4 1, 3) := by decide +kernel
theorem dX8_isNext_96 : decode cX8_isNext 96 = .ok (.iinc 5 (-1), 3) := by decide +kernel
theorem dX8_isNext_99 : decode cX8_isNext 99 = .ok (.goto (-21), 3) := by decide +kernel
theorem dX8_isNext_102 : decode cX8_isNext 102 = .ok (.iconst 1, 1) := by decide +kernel
theorem dX8_isNext_103 : decode cX8_isNext 103 = .ok (.ireturn, 1) := by decide +kernel
theorem dX8_swap_0 : decode cX8_swap 0 = .ok (.aload_n 0, 1) := by decide +kernel
theorem dX8_swap_1 : decode cX8_swap 1 = .ok (.getfield 53, 3) := by decide +kernel
theorem dX8_swap_4 : decode cX8_swap 4 = .ok (.iload_n 1, 1) := by decide +kernel
theorem dX8_swap_5 : decode cX8_swap 5 = .ok (.iaload, 1) := by decide +kernel
theorem dX8_swap_6 : decode cX8_swap 6 = .ok (.istore_n 3, 1) := by decide +kernel
theorem dX8_swap_7 : decode cX8_swap 7 = .ok (.aload_n 0, 1) := by decide +kernel
theorem dX8_swap_8 : decode cX8_swap 8 = .ok (.getfield 53, 3) := by decide +kernel
theorem dX8_swap_11 : decode cX8_swap 11 = .ok (.iload_n 1, 1) := by decide +kernel
theorem dX8_swap_12 : decode cX8_swap 12 = .ok (.aload_n 0, 1) := by decide +kernel
theorem dX8_swap_13 : decode cX8_swap 13 = .ok (.getfield 53, 3) := by decide +kernel
theorem dX8_swap_16 : decode cX8_swap 16 = .ok (.iload_n 2, 1) := by decide +kernel
theorem dX8_swap_17 : decode cX8_swap 17 = .ok (.iaload, 1) := by decide +kernel
theorem dX8_swap_18 : decode cX8_swap 18 = .ok (.iastore, 1) := by decide +kernel
theorem dX8_swap_19 : decode cX8_swap 19 = .ok (.aload_n 0, 1) := by decide +kernel
theorem dX8_swap_20 : decode cX8_swap 20 = .ok (.getfield 53, 3) := by decide +kernel
theorem dX8_swap_23 : decode cX8_swap 23 = .ok (.iload_n 2, 1) := by decide +kernel
theorem dX8_swap_24 : decode cX8_swap 24 = .ok (.iload_n 3, 1) := by decide +kernel
theorem dX8_swap_25 : decode cX8_swap 25 = .ok (.iastore, 1) := by decide +kernel
theorem dX8_swap_26 : decode cX8_swap 26 = .ok (.return_, 1) := by decide +kernel
theorem dX8_laySet_0 : decode cX8_laySet 0 = .ok (.iconst 0, 1) := by decide +kernel
theorem dX8_laySet_1 : decode cX8_laySet 1 = .ok (.istore_n 3, 1) := by decide +kernel
theorem dX8_laySet_2 : decode cX8_laySet 2 = .ok (.iconst 0, 1) := by decide +kernel
theorem dX8_laySet_3 : decode cX8_laySet 3 = .ok (.istore 4, 2) := by decide +kernel
theorem dX8_laySet_5 : decode cX8_laySet 5 = .ok (.iload 4, 2) := by decide +kernel
theorem dX8_laySet_7 : decode cX8_laySet 7 = .ok (.bipush 7, 2) := by decide +kernel
theorem dX8_laySet_9 : decode cX8_laySet 9 = .ok (.if_icmp .ge 36, 3) := by decide +kernel
theorem dX8_laySet_12 : decode cX8_laySet 12 = .ok (.iload_n 1, 1) := by decide +kernel
theorem dX8_laySet_13 : decode cX8_laySet 13 = .ok (.iload 4, 2) := by decide +kernel
theorem dX8_laySet_15 : decode cX8_laySet 15 = .ok (.invokestatic 103, 3) := by decide +kernel
theorem dX8_laySet_18 : decode cX8_laySet 18 = .ok (.ifCond .eq 21, 3) := by decide +kernel
theorem dX8_laySet_21 : decode cX8_laySet 21 = .ok (.aload_n 0, 1) := by decide +kernel
theorem dX8_laySet_22 : decode cX8_laySet 22 = .ok (.getfield 50, 3) := by decide +kernel
theorem dX8_laySet_25 : decode cX8_laySet 25 = .ok (.iload_n 3, 1) := by decide +kernel
theorem dX8_laySet_26 : decode cX8_laySet 26 = .ok (.iload 4, 2) := by decide +kernel
theorem dX8_laySet_28 : decode cX8_laySet 28 = .ok (.iastore, 1) := by decide +kernel
theorem dX8_laySet_29 : decode cX8_laySet 29 = .ok (.aload_n 0, 1) := by decide +kernel
theorem dX8_laySet_30 : decode cX8_laySet 30 = .ok (.getfield 53, 3) := by decide +kernel
theorem dX8_laySet_33 : decode cX8_laySet 33 = .ok (.iload_n 3, 1) := by decide +kernel
theorem dX8_laySet_34 : decode cX8_laySet 34 = .ok (.iload_n 3, 1) := by decide +kernel
theorem dX8_laySet_35 : decode cX8_laySet 35 = .ok (.iastore, 1) := by decide +kernel
theorem dX8_laySet_36 : decode cX8_laySet 36 = .ok (.iinc 3 1, 3) := by decide +kernel
theorem dX8_laySet_39 : decode cX8_laySet 39 = .ok (.iinc 4 1, 3) := by decide +kernel
theorem dX8_laySet_42 : decode cX8_laySet 42 = .ok (.goto (-37), 3) := by decide +kernel
theorem dX8_laySet_45 : decode cX8_laySet 45 = .ok (.sipush 128, 3) := by decide +kernel
theorem dX8_laySet_48 : decode cX8_laySet 48 = .ok (.iload_n 2, 1) := by decide +kernel
theorem dX8_laySet_49 : decode cX8_laySet 49 = .ok (.imul, 1) := by decide +kernel
theorem dX8_laySet_50 : decode cX8_laySet 50 = .ok (.iload_n 1, 1) := by decide +kernel
theorem dX8_laySet_51 : decode cX8_laySet 51 = .ok (.iadd, 1) := by decide +kernel
theorem dX8_laySet_52 : decode cX8_laySet 52 = .ok (.istore 4, 2) := by decide +kernel
theorem dX8_laySet_54 : decode cX8_laySet 54 = .ok (.aload_n 0, 1) := by decide +kernel
theorem dX8_laySet_55 : decode cX8_laySet 55 = .ok (.getfield 44, 3) := by decide +kernel
theorem dX8_laySet_58 : decode cX8_laySet 58 = .ok (.iload 4, 2) := by decide +kernel
theorem dX8_laySet_60 : decode cX8_laySet 60 = .ok (.bipush (-6), 2) := by decide +kernel
theorem dX8_laySet_62 : decode cX8_laySet 62 = .ok (.iastore, 1) := by decide +kernel
theorem dX8_laySet_63 : decode cX8_laySet 63 = .ok (.iconst 1, 1) := by decide +kernel
theorem dX8_laySet_64 : decode cX8_laySet 64 = .ok (.istore 5, 2) := by decide +kernel
theorem dX8_laySet_66 : decode cX8_laySet 66 = .ok (.iload 5, 2) := by decide +kernel
theorem dX8_laySet_68 : decode cX8_laySet 68 = .ok (.ifCond .eq 126, 3) := by decide +kernel
theorem dX8_laySet_71 : decode cX8_laySet 71 = .ok (.iconst 0, 1) := by decide +kernel
theorem dX8_laySet_72 : decode cX8_laySet 72 = .ok (.istore 6, 2) := by decide +kernel
theorem dX8_laySet_74 : decode cX8_laySet 74 = .ok (.iload 6, 2) := by decide +kernel
theorem dX8_laySet_76 : decode cX8_laySet 76 = .ok (.iload_n 3, 1) := by decide +kernel
theorem dX8_laySet_77 : decode cX8_laySet 77 = .ok (.if_icmp .ge 28, 3) := by decide +kernel
theorem dX8_laySet_80 : decode cX8_laySet 80 = .ok (.aload_n 0, 1) := by decide +kernel
theorem dX8_laySet_81 : decode cX8_laySet 81 = .ok (.getfield 38, 3) := by decide +kernel
theorem dX8_laySet_84 : decode cX8_laySet 84 = .ok (.aload_n 0, 1) := by decide +kernel
theorem dX8_laySet_85 : decode cX8_laySet 85 = .ok (.getfield 50, 3) := by decide +kernel
theorem dX8_laySet_88 : decode cX8_laySet 88 = .ok (.iload 6, 2) := by decide +kernel
theorem dX8_laySet_90 : decode cX8_laySet 90 = .ok (.iaload, 1) := by decide +kernel
theorem dX8_laySet_91 : decode cX8_laySet 91 = .ok (.aload_n 0, 1) := by decide +kernel
theorem dX8_laySet_92 : decode cX8_laySet 92 = .ok (.getfield 53, 3) := by decide +kernel
theorem dX8_laySet_95 : decode cX8_laySet 95 = .ok (.iload 6, 2) := by decide +kernel
theorem dX8_laySet_97 : decode cX8_laySet 97 = .ok (.iaload, 1) := by decide +kernel
theorem dX8_laySet_98 : decode cX8_laySet 98 = .ok (.iastore, 1) := by decide +kernel
theorem dX8_laySet_99 : decode cX8_laySet 99 = .ok (.iinc 6 1, 3) := by decide +kernel
theorem dX8_laySet_102 : decode cX8_laySet 102 = .ok (.goto (-28), 3) := by decide +kernel
theorem dX8_laySet_105 : decode cX8_laySet 105 = .ok (.aload_n 0, 1) := by decide +kernel
theorem dX8_laySet_106 : decode cX8_laySet 106 = .ok (.iload_n 1, 1) := by decide +kernel
theorem dX8_laySet_107 : decode cX8_laySet 107 = .ok (.iload_n 2, 1) := by decide +kernel
theorem dX8_laySet_108 : decode cX8_laySet 108 = .ok (.invokevirtual 131, 3) := by decide +kernel
theorem dX8_laySet_111 : decode cX8_laySet 111 = .ok (.istore 6, 2) := by decide +kernel
theorem dX8_laySet_113 : decode cX8_laySet 113 = .ok (.aload_n 0, 1) := by decide +kernel
theorem dX8_laySet_114 : decode cX8_laySet 114 = .ok (.getfield 44, 3) := by decide +kernel
theorem dX8_laySet_117 : decode cX8_laySet 117 = .ok (.iload 4, 2) := by decide +kernel
theorem dX8_laySet_119 : decode cX8_laySet 119 = .ok (.iaload, 1) := by decide +kernel
theorem dX8_laySet_120 : decode cX8_laySet 120 = .ok (.ifCond .lt 15, 3) := by decide +kernel
theorem dX8_laySet_123 : decode cX8_laySet 123 = .ok (.iload 6, 2) := by decide +kernel
theorem dX8_laySet_125 : decode cX8_laySet 125 = .ok (.aload_n 0, 1) := by decide +kernel
theorem dX8_laySet_126 : decode cX8_laySet 126 = .ok (.getfield 44, 3) := by decide +kernel
theorem dX8_laySet_129 : decode cX8_laySet 129 = .ok (.iload 4, 2) := by decide +kernel
theorem dX8_laySet_131 : decode cX8_laySet 131 = .ok (.iaload, 1) := by decide +kernel
theorem dX8_laySet_132 : decode cX8_laySet 132 = .ok (.if_icmp .ge 52, 3) := by decide +kernel
theorem dX8_laySet_135 : decode cX8_laySet 135 = .ok (.aload_n 0, 1) := by decide +kernel
theorem dX8_laySet_136 : decode cX8_laySet 136 = .ok (.getfield 44, 3) := by decide +kernel
theorem dX8_laySet_139 : decode cX8_laySet 139 = .ok (.iload 4, 2) := by decide +kernel
theorem dX8_laySet_141 : decode cX8_laySet 141 = .ok (.iload 6, 2) := by decide +kernel
theorem dX8_laySet_143 : decode cX8_laySet 143 = .ok (.iastore, 1) := by decide +kernel
theorem dX8_laySet_144 : decode cX8_laySet 144 = .ok (.iconst 0, 1) := by decide +kernel
theorem dX8_laySet_145 : decode cX8_laySet 145 = .ok (.istore 7, 2) := by decide +kernel
theorem dX8_laySet_147 : decode cX8_laySet 147 = .ok (.iload 7, 2) := by decide +kernel
theorem dX8_laySet_149 : decode cX8_laySet 149 = .ok (.iload_n 3, 1) := by decide +kernel
theorem dX8_laySet_150 : decode cX8_laySet 150 = .ok (.if_icmp .ge 34, 3) := by decide +kernel
theorem dX8_laySet_153 : decode cX8_laySet 153 = .ok (.aload_n 0, 1) := by decide +kernel
theorem dX8_laySet_154 : decode cX8_laySet 154 = .ok (.getfield 47, 3) := by decide +kernel
theorem dX8_laySet_157 : decode cX8_laySet 157 = .ok (.bipush 7, 2) := by decide +kernel
theorem dX8_laySet_159 : decode cX8_laySet 159 = .ok (.iload 4, 2) := by decide +kernel
theorem dX8_laySet_161 : decode cX8_laySet 161 = .ok (.imul, 1) := by decide +kernel
theorem dX8_laySet_162 : decode cX8_laySet 162 = .ok (.aload_n 0, 1) := by decide +kernel
theorem dX8_laySet_163 : decode cX8_laySet 163 = .ok (.getfield 50, 3) := by decide +kernel
theorem dX8_laySet_166 : decode cX8_laySet 166 = .ok (.iload 7, 2) := by decide +kernel
theorem dX8_laySet_168 : decode cX8_laySet 168 = .ok (.iaload, 1) := by decide +kernel
theorem dX8_laySet_169 : decode cX8_laySet 169 = .ok (.iadd, 1) := by decide +kernel
theorem dX8_laySet_170 : decode cX8_laySet 170 = .ok (.aload_n 0, 1) := by decide +kernel
theorem dX8_laySet_171 : decode cX8_laySet 171 = .ok (.getfield 53, 3) := by decide +kernel
theorem dX8_laySet_174 : decode cX8_laySet 174 = .ok (.iload 7, 2) := by decide +kernel
theorem dX8_laySet_176 : decode cX8_laySet 176 = .ok (.iaload, 1) := by decide +kernel
theorem dX8_laySet_177 : decode cX8_laySet 177 = .ok (.iastore, 1) := by decide +kernel
theorem dX8_laySet_178 : decode cX8_laySet 178 = .ok (.iinc 7 1, 3) := by decide +kernel
theorem dX8_laySet_181 : decode cX8_laySet 181 = .ok (.goto (-34), 3) := by decide +kernel
theorem dX8_laySet_184 : decode cX8_laySet 184 = .ok (.aload_n 0, 1) := by decide +kernel
theorem dX8_laySet_185 : decode cX8_laySet 185 = .ok (.iload_n 3, 1) := by decide +kernel
theorem dX8_laySet_186 : decode cX8_laySet 186 = .ok (.invokevirtual 139, 3) := by decide +kernel
theorem dX8_laySet_189 : decode cX8_laySet 189 = .ok (.istore 5, 2) := by decide +kernel
theorem dX8_laySet_191 : decode cX8_laySet 191 = .ok (.goto (-125), 3) := by decide +kernel
theorem dX8_laySet_194 : decode cX8_laySet 194 = .ok (.return_, 1) := by decide +kernel
theorem dX8_laySets_0 : decode cX8_laySets 0 = .ok (.aload_n 0, 1) := by decide +kernel
theorem dX8_laySets_1 : decode cX8_laySets 1 = .ok (.getfield 32, 3) := by decide +kernel
theorem dX8_laySets_4 : decode cX8_laySets 4 = .ok (.iload_n 1, 1) := by decide +kernel
theorem dX8_laySets_5 : decode cX8_laySets 5 = .ok (.baload, 1) := by decide +kernel
theorem dX8_laySets_6 : decode cX8_laySets 6 = .ok (.ifCond .eq 55, 3) := by decide +kernel
theorem dX8_laySets_9 : decode cX8_laySets 9 = .ok (.aload_n 0, 1) := by decide +kernel
theorem dX8_laySets_10 : decode cX8_laySets 10 = .ok (.getfield 32, 3) := by decide +kernel
theorem dX8_laySets_13 : decode cX8_laySets 13 = .ok (.iload_n 1, 1) := by decide +kernel
theorem dX8_laySets_14 : decode cX8_laySets 14 = .ok (.iconst 0, 1) := by decide +kernel
theorem dX8_laySets_15 : decode cX8_laySets 15 = .ok (.bastore, 1) := by decide +kernel
theorem dX8_laySets_16 : decode cX8_laySets 16 = .ok (.aload_n 0, 1) := by decide +kernel
theorem dX8_laySets_17 : decode cX8_laySets 17 = .ok (.invokevirtual 142, 3) := by decide +kernel
theorem dX8_laySets_20 : decode cX8_laySets 20 = .ok (.istore_n 2, 1) := by decide +kernel
theorem dX8_laySets_21 : decode cX8_laySets 21 = .ok (.aload_n 0, 1) := by decide +kernel
theorem dX8_laySets_22 : decode cX8_laySets 22 = .ok (.getfield 44, 3) := by decide +kernel
theorem dX8_laySets_25 : decode cX8_laySets 25 = .ok (.sipush 128, 3) := by decide +kernel
theorem dX8_laySets_28 : decode cX8_laySets 28 = .ok (.iload_n 1, 1) := by decide +kernel
theorem dX8_laySets_29 : decode cX8_laySets 29 = .ok (.imul, 1) := by decide +kernel
theorem dX8_laySets_30 : decode cX8_laySets 30 = .ok (.iconst 0, 1) := by decide +kernel
theorem dX8_laySets_31 : decode cX8_laySets 31 = .ok (.iastore, 1) := by decide +kernel
theorem dX8_laySets_32 : decode cX8_laySets 32 = .ok (.iconst 1, 1) := by decide +kernel
theorem dX8_laySets_33 : decode cX8_laySets 33 = .ok (.istore_n 3, 1) := by decide +kernel
theorem dX8_laySets_34 : decode cX8_laySets 34 = .ok (.iload_n 3, 1) := by decide +kernel
theorem dX8_laySets_35 : decode cX8_laySets 35 = .ok (.sipush 128, 3) := by decide +kernel
theorem dX8_laySets_38 : decode cX8_laySets 38 = .ok (.if_icmp .ge 23, 3) := by decide +kernel
theorem dX8_laySets_41 : decode cX8_laySets 41 = .ok (.iload_n 3, 1) := by decide +kernel
theorem dX8_laySets_42 : decode cX8_laySets 42 = .ok (.iload_n 2, 1) := by decide +kernel
theorem dX8_laySets_43 : decode cX8_laySets 43 = .ok (.iconst (-1), 1) := by decide +kernel
theorem dX8_laySets_44 : decode cX8_laySets 44 = .ok (.ixor, 1) := by decide +kernel
theorem dX8_laySets_45 : decode cX8_laySets 45 = .ok (.iand, 1) := by decide +kernel
theorem dX8_laySets_46 : decode cX8_laySets 46 = .ok (.ifCond .ne 9, 3) := by decide +kernel
theorem dX8_laySets_49 : decode cX8_laySets 49 = .ok (.aload_n 0, 1) := by decide +kernel
theorem dX8_laySets_50 : decode cX8_laySets 50 = .ok (.iload_n 3, 1) := by decide +kernel
theorem dX8_laySets_51 : decode cX8_laySets 51 = .ok (.iload_n 1, 1) := by decide +kernel
theorem dX8_laySets_52 : decode cX8_laySets 52 = .ok (.invokevirtual 146, 3) := by decide +kernel
theorem dX8_laySets_55 : decode cX8_laySets 55 = .ok (.iinc 3 1, 3) := by decide +kernel
theorem dX8_laySets_58 : decode cX8_laySets 58 = .ok (.goto (-24), 3) := by decide +kernel
theorem dX8_laySets_61 : decode cX8_laySets 61 = .ok (.return_, 1) := by decide +kernel
theorem dX8_power_0 : decode cX8_power 0 = .ok (.iconst 1, 1) := by decide +kernel
theorem dX8_power_1 : decode cX8_power 1 = .ok (.istore_n 2, 1) := by decide +kernel
theorem dX8_power_2 : decode cX8_power 2 = .ok (.iconst 0, 1) := by decide +kernel
theorem dX8_power_3 : decode cX8_power 3 = .ok (.istore_n 3, 1) := by decide +kernel
theorem dX8_power_4 : decode cX8_power 4 = .ok (.iload_n 3, 1) := by decide +kernel
theorem dX8_power_5 : decode cX8_power 5 = .ok (.iload_n 1, 1) := by decide +kernel
theorem dX8_power_6 : decode cX8_power 6 = .ok (.if_icmp .ge 13, 3) := by decide +kernel
theorem dX8_power_9 : decode cX8_power 9 = .ok (.iload_n 2, 1) := by decide +kernel
theorem dX8_power_10 : decode cX8_power 10 = .ok (.iload_n 0, 1) := by decide +kernel
theorem dX8_power_11 : decode cX8_power 11 = .ok (.imul, 1) := by decide +kernel
theorem dX8_power_12 : decode cX8_power 12 = .ok (.istore_n 2, 1) := by decide +kernel
theorem dX8_power_13 : decode cX8_power 13 = .ok (.iinc 3 1, 3) := by decide +kernel
theorem dX8_power_16 : decode cX8_power 16 = .ok (.goto (-12), 3) := by decide +kernel
theorem dX8_power_19 : decode cX8_power 19 = .ok (.iload_n 2, 1) := by decide +kernel
theorem dX8_power_20 : decode cX8_power 20 = .ok (.ireturn, 1) := by decide +kernel
theorem dX8_bits_0 : decode cX8_bits 0 = .ok (.iconst 0, 1) := by decide +kernel
theorem dX8_bits_1 : decode cX8_bits 1 = .ok (.istore_n 1, 1) := by decide +kernel
theorem dX8_bits_2 : decode cX8_bits 2 = .ok (.iconst 0, 1) := by decide +kernel
theorem dX8_bits_3 : decode cX8_bits 3 = .ok (.istore_n 2, 1) := by decide +kernel
theorem dX8_bits_4 : decode cX8_bits 4 = .ok (.iload_n 2, 1) := by decide +kernel
theorem dX8_bits_5 : decode cX8_bits 5 = .ok (.bipush 7, 2) := by decide +kernel
theorem dX8_bits_7 : decode cX8_bits 7 = .ok (.if_icmp .ge 17, 3) := by decide +kernel
theorem dX8_bits_10 : decode cX8_bits 10 = .ok (.iload_n 1, 1) := by decide +kernel
theorem dX8_bits_11 : decode cX8_bits 11 = .ok (.iload_n 0, 1) := by decide +kernel
theorem dX8_bits_12 : decode cX8_bits 12 = .ok (.iload_n 2, 1) := by decide +kernel
theorem dX8_bits_13 : decode cX8_bits 13 = .ok (.ishr, 1) := by decide +kernel
theorem dX8_bits_14 : decode cX8_bits 14 = .ok (.iconst 1, 1) := by decide +kernel
theorem dX8_bits_15 : decode cX8_bits 15 = .ok (.iand, 1) := by decide +kernel
theorem dX8_bits_16 : decode cX8_bits 16 = .ok (.iadd, 1) := by decide +kernel
theorem dX8_bits_17 : decode cX8_bits 17 = .ok (.istore_n 1, 1) := by decide +kernel
theorem dX8_bits_18 : decode cX8_bits 18 = .ok (.iinc 2 1, 3) := by decide +kernel
theorem dX8_bits_21 : decode cX8_bits 21 = .ok (.goto (-17), 3) := by decide +kernel
theorem dX8_bits_24 : decode cX8_bits 24 = .ok (.iload_n 1, 1) := by decide +kernel
theorem dX8_bits_25 : decode cX8_bits 25 = .ok (.ireturn, 1) := by decide +kernel
theorem dX8_part_0 : decode cX8_part 0 = .ok (.iload_n 3, 1) := by decide +kernel
theorem dX8_part_1 : decode cX8_part 1 = .ok (.istore 4, 2) := by decide +kernel
theorem dX8_part_3 : decode cX8_part 3 = .ok (.iconst 0, 1) := by decide +kernel
theorem dX8_part_4 : decode cX8_part 4 = .ok (.istore 5, 2) := by decide +kernel
theorem dX8_part_6 : decode cX8_part 6 = .ok (.iload 5, 2) := by decide +kernel
theorem dX8_part_8 : decode cX8_part 8 = .ok (.iconst 3, 1) := by decide +kernel
theorem dX8_part_9 : decode cX8_part 9 = .ok (.if_icmp .ge 17, 3) := by decide +kernel
theorem dX8_part_12 : decode cX8_part 12 = .ok (.aload_n 0, 1) := by decide +kernel
theorem dX8_part_13 : decode cX8_part 13 = .ok (.getfield 59, 3) := by decide +kernel
theorem dX8_part_16 : decode cX8_part 16 = .ok (.iload 5, 2) := by decide +kernel
theorem dX8_part_18 : decode cX8_part 18 = .ok (.iconst 0, 1) := by decide +kernel
theorem dX8_part_19 : decode cX8_part 19 = .ok (.iastore, 1) := by decide +kernel
theorem dX8_part_20 : decode cX8_part 20 = .ok (.iinc 5 1, 3) := by decide +kernel
theorem dX8_part_23 : decode cX8_part 23 = .ok (.goto (-17), 3) := by decide +kernel
theorem dX8_part_26 : decode cX8_part 26 = .ok (.bipush 6, 2) := by decide +kernel
theorem dX8_part_28 : decode cX8_part 28 = .ok (.istore 5, 2) := by decide +kernel
theorem dX8_part_30 : decode cX8_part 30 = .ok (.iload 5, 2) := by decide +kernel
theorem dX8_part_32 : decode cX8_part 32 = .ok (.ifCond .lt 51, 3) := by decide +kernel
theorem dX8_part_35 : decode cX8_part 35 = .ok (.iload_n 1, 1) := by decide +kernel
theorem dX8_part_36 : decode cX8_part 36 = .ok (.iload 5, 2) := by decide +kernel
theorem dX8_part_38 : decode cX8_part 38 = .ok (.invokestatic 103, 3) := by decide +kernel
theorem dX8_part_41 : decode cX8_part 41 = .ok (.ifCond .eq 36, 3) := by decide +kernel
theorem dX8_part_44 : decode cX8_part 44 = .ok (.aload_n 0, 1) := by decide +kernel
theorem dX8_part_45 : decode cX8_part 45 = .ok (.getfield 56, 3) := by decide +kernel
theorem dX8_part_48 : decode cX8_part 48 = .ok (.iload 5, 2) := by decide +kernel
theorem dX8_part_50 : decode cX8_part 50 = .ok (.iload 4, 2) := by decide +kernel
theorem dX8_part_52 : decode cX8_part 52 = .ok (.iload_n 2, 1) := by decide +kernel
theorem dX8_part_53 : decode cX8_part 53 = .ok (.irem, 1) := by decide +kernel
theorem dX8_part_54 : decode cX8_part 54 = .ok (.iastore, 1) := by decide +kernel
theorem dX8_part_55 : decode cX8_part 55 = .ok (.aload_n 0, 1) := by decide +kernel
theorem dX8_part_56 : decode cX8_part 56 = .ok (.getfield 59, 3) := by decide +kernel
theorem dX8_part_59 : decode cX8_part 59 = .ok (.iload 4, 2) := by decide +kernel
theorem dX8_part_61 : decode cX8_part 61 = .ok (.iload_n 2, 1) := by decide +kernel
theorem dX8_part_62 : decode cX8_part 62 = .ok (.irem, 1) := by decide +kernel
theorem dX8_part_63 : decode cX8_part 63 = .ok (.dup2, 1) := by decide +kernel
theorem dX8_part_64 : decode cX8_part 64 = .ok (.iaload, 1) := by decide +kernel
theorem dX8_part_65 : decode cX8_part 65 = .ok (.iconst 1, 1) := by decide +kernel
theorem dX8_part_66 : decode cX8_part 66 = .ok (.iload 5, 2) := by decide +kernel
theorem dX8_part_68 : decode cX8_part 68 = .ok (.ishl, 1) := by decide +kernel
theorem dX8_part_69 : decode cX8_part 69 = .ok (.ior, 1) := by decide +kernel
theorem dX8_part_70 : decode cX8_part 70 = .ok (.iastore, 1) := by decide +kernel
theorem dX8_part_71 : decode cX8_part 71 = .ok (.iload 4, 2) := by decide +kernel
theorem dX8_part_73 : decode cX8_part 73 = .ok (.iload_n 2, 1) := by decide +kernel
theorem dX8_part_74 : decode cX8_part 74 = .ok (.idiv, 1) := by decide +kernel
theorem dX8_part_75 : decode cX8_part 75 = .ok (.istore 4, 2) := by decide +kernel
theorem dX8_part_77 : decode cX8_part 77 = .ok (.iinc 5 (-1), 3) := by decide +kernel
theorem dX8_part_80 : decode cX8_part 80 = .ok (.goto (-50), 3) := by decide +kernel
theorem dX8_part_83 : decode cX8_part 83 = .ok (.return_, 1) := by decide +kernel
theorem dX8_costNow_0 : decode cX8_costNow 0 = .ok (.aload_n 0, 1) := by decide +kernel
theorem dX8_costNow_1 : decode cX8_costNow 1 = .ok (.getfield 44, 3) := by decide +kernel
theorem dX8_costNow_4 : decode cX8_costNow 4 = .ok (.sipush 128, 3) := by decide +kernel
theorem dX8_costNow_7 : decode cX8_costNow 7 = .ok (.iload_n 1, 1) := by decide +kernel
theorem dX8_costNow_8 : decode cX8_costNow 8 = .ok (.imul, 1) := by decide +kernel
theorem dX8_costNow_9 : decode cX8_costNow 9 = .ok (.aload_n 0, 1) := by decide +kernel
theorem dX8_costNow_10 : decode cX8_costNow 10 = .ok (.getfield 59, 3) := by decide +kernel
theorem dX8_costNow_13 : decode cX8_costNow 13 = .ok (.iconst 0, 1) := by decide +kernel
theorem dX8_costNow_14 : decode cX8_costNow 14 = .ok (.iaload, 1) := by decide +kernel
theorem dX8_costNow_15 : decode cX8_costNow 15 = .ok (.iadd, 1) := by decide +kernel
theorem dX8_costNow_16 : decode cX8_costNow 16 = .ok (.iaload, 1) := by decide +kernel
theorem dX8_costNow_17 : decode cX8_costNow 17 = .ok (.aload_n 0, 1) := by decide +kernel
theorem dX8_costNow_18 : decode cX8_costNow 18 = .ok (.getfield 44, 3) := by decide +kernel
theorem dX8_costNow_21 : decode cX8_costNow 21 = .ok (.sipush 128, 3) := by decide +kernel
theorem dX8_costNow_24 : decode cX8_costNow 24 = .ok (.iload_n 1, 1) := by decide +kernel
theorem dX8_costNow_25 : decode cX8_costNow 25 = .ok (.imul, 1) := by decide +kernel
theorem dX8_costNow_26 : decode cX8_costNow 26 = .ok (.aload_n 0, 1) := by decide +kernel
theorem dX8_costNow_27 : decode cX8_costNow 27 = .ok (.getfield 59, 3) := by decide +kernel
theorem dX8_costNow_30 : decode cX8_costNow 30 = .ok (.iconst 1, 1) := by decide +kernel
theorem dX8_costNow_31 : decode cX8_costNow 31 = .ok (.iaload, 1) := by decide +kernel
theorem dX8_costNow_32 : decode cX8_costNow 32 = .ok (.iadd, 1) := by decide +kernel
theorem dX8_costNow_33 : decode cX8_costNow 33 = .ok (.iaload, 1) := by decide +kernel
theorem dX8_costNow_34 : decode cX8_costNow 34 = .ok (.iadd, 1) := by decide +kernel
theorem dX8_costNow_35 : decode cX8_costNow 35 = .ok (.aload_n 0, 1) := by decide +kernel
theorem dX8_costNow_36 : decode cX8_costNow 36 = .ok (.getfield 44, 3) := by decide +kernel
theorem dX8_costNow_39 : decode cX8_costNow 39 = .ok (.sipush 128, 3) := by decide +kernel
theorem dX8_costNow_42 : decode cX8_costNow 42 = .ok (.iload_n 1, 1) := by decide +kernel
theorem dX8_costNow_43 : decode cX8_costNow 43 = .ok (.imul, 1) := by decide +kernel
theorem dX8_costNow_44 : decode cX8_costNow 44 = .ok (.aload_n 0, 1) := by decide +kernel
theorem dX8_costNow_45 : decode cX8_costNow 45 = .ok (.getfield 59, 3) := by decide +kernel
theorem dX8_costNow_48 : decode cX8_costNow 48 = .ok (.iconst 2, 1) := by decide +kernel
theorem dX8_costNow_49 : decode cX8_costNow 49 = .ok (.iaload, 1) := by decide +kernel
theorem dX8_costNow_50 : decode cX8_costNow 50 = .ok (.iadd, 1) := by decide +kernel
theorem dX8_costNow_51 : decode cX8_costNow 51 = .ok (.iaload, 1) := by decide +kernel
theorem dX8_costNow_52 : decode cX8_costNow 52 = .ok (.iadd, 1) := by decide +kernel
theorem dX8_costNow_53 : decode cX8_costNow 53 = .ok (.ireturn, 1) := by decide +kernel
theorem dX8_layPlan_0 : decode cX8_layPlan 0 = .ok (.aload_n 0, 1) := by decide +kernel
theorem dX8_layPlan_1 : decode cX8_layPlan 1 = .ok (.iload_n 2, 1) := by decide +kernel
theorem dX8_layPlan_2 : decode cX8_layPlan 2 = .ok (.invokevirtual 149, 3) := by decide +kernel
theorem dX8_layPlan_5 : decode cX8_layPlan 5 = .ok (.aload_n 0, 1) := by decide +kernel
theorem dX8_layPlan_6 : decode cX8_layPlan 6 = .ok (.invokevirtual 142, 3) := by decide +kernel
theorem dX8_layPlan_9 : decode cX8_layPlan 9 = .ok (.istore_n 3, 1) := by decide +kernel
theorem dX8_layPlan_10 : decode cX8_layPlan 10 = .ok (.iload_n 1, 1) := by decide +kernel
theorem dX8_layPlan_11 : decode cX8_layPlan 11 = .ok (.iload_n 3, 1) := by decide +kernel
theorem dX8_layPlan_12 : decode cX8_layPlan 12 = .ok (.invokestatic 153, 3) := by decide +kernel
theorem dX8_layPlan_15 : decode cX8_layPlan 15 = .ok (.invokestatic 156, 3) := by decide +kernel
theorem dX8_layPlan_18 : decode cX8_layPlan 18 = .ok (.istore 4, 2) := by decide +kernel
theorem dX8_layPlan_20 : decode cX8_layPlan 20 = .ok (.iconst 0, 1) := by decide +kernel
theorem dX8_layPlan_21 : decode cX8_layPlan 21 = .ok (.istore 5, 2) := by decide +kernel
theorem dX8_layPlan_23 : decode cX8_layPlan 23 = .ok (.aload_n 0, 1) := by decide +kernel
theorem dX8_layPlan_24 : decode cX8_layPlan 24 = .ok (.bipush (-6), 2) := by decide +kernel
theorem dX8_layPlan_26 : decode cX8_layPlan 26 = .ok (.putfield 159, 3) := by decide +kernel
theorem dX8_layPlan_29 : decode cX8_layPlan 29 = .ok (.iconst 0, 1) := by decide +kernel
theorem dX8_layPlan_30 : decode cX8_layPlan 30 = .ok (.istore 6, 2) := by decide +kernel
theorem dX8_layPlan_32 : decode cX8_layPlan 32 = .ok (.iload 6, 2) := by decide +kernel
theorem dX8_layPlan_34 : decode cX8_layPlan 34 = .ok (.iload 4, 2) := by decide +kernel
theorem dX8_layPlan_36 : decode cX8_layPlan 36 = .ok (.if_icmp .ge 49, 3) := by decide +kernel
theorem dX8_layPlan_39 : decode cX8_layPlan 39 = .ok (.aload_n 0, 1) := by decide +kernel
theorem dX8_layPlan_40 : decode cX8_layPlan 40 = .ok (.iload_n 3, 1) := by decide +kernel
theorem dX8_layPlan_41 : decode cX8_layPlan 41 = .ok (.iload_n 1, 1) := by decide +kernel
theorem dX8_layPlan_42 : decode cX8_layPlan 42 = .ok (.iload 6, 2) := by decide +kernel
theorem dX8_layPlan_44 : decode cX8_layPlan 44 = .ok (.invokevirtual 162, 3) := by decide +kernel
theorem dX8_layPlan_47 : decode cX8_layPlan 47 = .ok (.aload_n 0, 1) := by decide +kernel
theorem dX8_layPlan_48 : decode cX8_layPlan 48 = .ok (.getfield 159, 3) := by decide +kernel
theorem dX8_layPlan_51 : decode cX8_layPlan 51 = .ok (.ifCond .lt 15, 3) := by decide +kernel
theorem dX8_layPlan_54 : decode cX8_layPlan 54 = .ok (.aload_n 0, 1) := by decide +kernel
theorem dX8_layPlan_55 : decode cX8_layPlan 55 = .ok (.iload_n 2, 1) := by decide +kernel
theorem dX8_layPlan_56 : decode cX8_layPlan 56 = .ok (.invokevirtual 166, 3) := by decide +kernel
theorem dX8_layPlan_59 : decode cX8_layPlan 59 = .ok (.aload_n 0, 1) := by decide +kernel
theorem dX8_layPlan_60 : decode cX8_layPlan 60 = .ok (.getfield 159, 3) := by decide +kernel
theorem dX8_layPlan_63 : decode cX8_layPlan 63 = .ok (.if_icmp .ge 16, 3) := by decide +kernel
theorem dX8_layPlan_66 : decode cX8_layPlan 66 = .ok (.aload_n 0, 1) := by decide +kernel
theorem dX8_layPlan_67 : decode cX8_layPlan 67 = .ok (.aload_n 0, 1) := by decide +kernel
theorem dX8_layPlan_68 : decode cX8_layPlan 68 = .ok (.iload_n 2, 1) := by decide +kernel
theorem dX8_layPlan_69 : decode cX8_layPlan 69 = .ok (.invokevirtual 166, 3) := by decide +kernel
theorem dX8_layPlan_72 : decode cX8_layPlan 72 = .ok (.putfield 159, 3) := by decide +kernel
theorem dX8_layPlan_75 : decode cX8_layPlan 75 = .ok (.iload 6, 2) := by decide +kernel
theorem dX8_layPlan_77 : decode cX8_layPlan 77 = .ok (.istore 5, 2) := by decide +kernel
theorem dX8_layPlan_79 : decode cX8_layPlan 79 = .ok (.iinc 6 1, 3) := by decide +kernel
theorem dX8_layPlan_82 : decode cX8_layPlan 82 = .ok (.goto (-50), 3) := by decide +kernel
theorem dX8_layPlan_85 : decode cX8_layPlan 85 = .ok (.aload_n 0, 1) := by decide +kernel
theorem dX8_layPlan_86 : decode cX8_layPlan 86 = .ok (.iload_n 3, 1) := by decide +kernel
theorem dX8_layPlan_87 : decode cX8_layPlan 87 = .ok (.iload_n 1, 1) := by decide +kernel
theorem dX8_layPlan_88 : decode cX8_layPlan 88 = .ok (.iload 5, 2) := by decide +kernel
theorem dX8_layPlan_90 : decode cX8_layPlan 90 = .ok (.invokevirtual 162, 3) := by decide +kernel
theorem dX8_layPlan_93 : decode cX8_layPlan 93 = .ok (.aload_n 0, 1) := by decide +kernel
theorem dX8_layPlan_94 : decode cX8_layPlan 94 = .ok (.iconst 0, 1) := by decide +kernel
theorem dX8_layPlan_95 : decode cX8_layPlan 95 = .ok (.putfield 169, 3) := by decide +kernel
theorem dX8_layPlan_98 : decode cX8_layPlan 98 = .ok (.iconst 0, 1) := by decide +kernel
theorem dX8_layPlan_99 : decode cX8_layPlan 99 = .ok (.istore 6, 2) := by decide +kernel
theorem dX8_layPlan_101 : decode cX8_layPlan 101 = .ok (.iload 6, 2) := by decide +kernel
theorem dX8_layPlan_103 : decode cX8_layPlan 103 = .ok (.iconst 3, 1) := by decide +kernel
theorem dX8_layPlan_104 : decode cX8_layPlan 104 = .ok (.if_icmp .ge 102, 3) := by decide +kernel
theorem dX8_layPlan_107 : decode cX8_layPlan 107 = .ok (.iconst 0, 1) := by decide +kernel
theorem dX8_layPlan_108 : decode cX8_layPlan 108 = .ok (.istore 7, 2) := by decide +kernel
theorem dX8_layPlan_110 : decode cX8_layPlan 110 = .ok (.iload 7, 2) := by decide +kernel
theorem dX8_layPlan_112 : decode cX8_layPlan 112 = .ok (.bipush 7, 2) := by decide +kernel
theorem dX8_layPlan_114 : decode cX8_layPlan 114 = .ok (.if_icmp .ge 65, 3) := by decide +kernel
theorem dX8_layPlan_117 : decode cX8_layPlan 117 = .ok (.aload_n 0, 1) := by decide +kernel
theorem dX8_layPlan_118 : decode cX8_layPlan 118 = .ok (.getfield 38, 3) := by decide +kernel
theorem dX8_layPlan_121 : decode cX8_layPlan 121 = .ok (.iload 7, 2) := by decide +kernel
theorem dX8_layPlan_123 : decode cX8_layPlan 123 = .ok (.aload_n 0, 1) := by decide +kernel
theorem dX8_layPlan_124 : decode cX8_layPlan 124 = .ok (.getfield 59, 3) := by decide +kernel
theorem dX8_layPlan_127 : decode cX8_layPlan 127 = .ok (.iload 6, 2) := by decide +kernel
theorem dX8_layPlan_129 : decode cX8_layPlan 129 = .ok (.iaload, 1) := by decide +kernel
theorem dX8_layPlan_130 : decode cX8_layPlan 130 = .ok (.iload 7, 2) := by decide +kernel
theorem dX8_layPlan_132 : decode cX8_layPlan 132 = .ok (.invokestatic 103, 3) := by decide +kernel
theorem dX8_layPlan_135 : decode cX8_layPlan 135 = .ok (.ifCond .eq 30, 3) := by decide +kernel
theorem dX8_layPlan_138 : decode cX8_layPlan 138 = .ok (.aload_n 0, 1) := by decide +kernel
theorem dX8_layPlan_139 : decode cX8_layPlan 139 = .ok (.getfield 47, 3) := by decide +kernel
theorem dX8_layPlan_142 : decode cX8_layPlan 142 = .ok (.bipush 7, 2) := by decide +kernel
theorem dX8_layPlan_144 : decode cX8_layPlan 144 = .ok (.sipush 128, 3) := by decide +kernel
theorem dX8_layPlan_147 : decode cX8_layPlan 147 = .ok (.iload_n 2, 1) := by decide +kernel
theorem dX8_layPlan_148 : decode cX8_layPlan 148 = .ok (.imul, 1) := by decide +kernel
theorem dX8_layPlan_149 : decode cX8_layPlan 149 = .ok (.aload_n 0, 1) := by decide +kernel
theorem dX8_layPlan_150 : decode cX8_layPlan 150 = .ok (.getfield 59, 3) := by decide +kernel
theorem dX8_layPlan_153 : decode cX8_layPlan 153 = .ok (.iload 6, 2) := by decide +kernel
theorem dX8_layPlan_155 : decode cX8_layPlan 155 = .ok (.iaload, 1) := by decide +kernel
theorem dX8_layPlan_156 : decode cX8_layPlan 156 = .ok (.iadd, 1) := by decide +kernel
theorem dX8_layPlan_157 : decode cX8_layPlan 157 = .ok (.imul, 1) := by decide +kernel
theorem dX8_layPlan_158 : decode cX8_layPlan 158 = .ok (.iload 7, 2) := by decide +kernel
theorem dX8_layPlan_160 : decode cX8_layPlan 160 = .ok (.iadd, 1) := by decide +kernel
theorem dX8_layPlan_161 : decode cX8_layPlan 161 = .ok (.iaload, 1) := by decide +kernel
theorem dX8_layPlan_162 : decode cX8_layPlan 162 = .ok (.goto 10, 3) := by decide +kernel
theorem dX8_layPlan_165 : decode cX8_layPlan 165 = .ok (.aload_n 0, 1) := by decide +kernel
theorem dX8_layPlan_166 : decode cX8_layPlan 166 = .ok (.getfield 38, 3) := by decide +kernel
theorem dX8_layPlan_169 : decode cX8_layPlan 169 = .ok (.iload 7, 2) := by decide +kernel
theorem dX8_layPlan_171 : decode cX8_layPlan 171 = .ok (.iaload, 1) := by decide +kernel
theorem dX8_layPlan_172 : decode cX8_layPlan 172 = .ok (.iastore, 1) := by decide +kernel
theorem dX8_layPlan_173 : decode cX8_layPlan 173 = .ok (.iinc 7 1, 3) := by decide +kernel
theorem dX8_layPlan_176 : decode cX8_layPlan 176 = .ok (.goto (-66), 3) := by decide +kernel
theorem dX8_layPlan_179 : decode cX8_layPlan 179 = .ok (.aload_n 0, 1) := by decide +kernel
theorem dX8_layPlan_180 : decode cX8_layPlan 180 = .ok (.dup, 1) := by decide +kernel
theorem dX8_layPlan_181 : decode cX8_layPlan 181 = .ok (.getfield 169, 3) := by decide +kernel
theorem dX8_layPlan_184 : decode cX8_layPlan 184 = .ok (.aload_n 0, 1) := by decide +kernel
theorem dX8_layPlan_185 : decode cX8_layPlan 185 = .ok (.aload_n 0, 1) := by decide +kernel
theorem dX8_layPlan_186 : decode cX8_layPlan 186 = .ok (.getfield 59, 3) := by decide +kernel
theorem dX8_layPlan_189 : decode cX8_layPlan 189 = .ok (.iload 6, 2) := by decide +kernel
theorem dX8_layPlan_191 : decode cX8_layPlan 191 = .ok (.iaload, 1) := by decide +kernel
theorem dX8_layPlan_192 : decode cX8_layPlan 192 = .ok (.iload_n 2, 1) := by decide +kernel
theorem dX8_layPlan_193 : decode cX8_layPlan 193 = .ok (.invokevirtual 172, 3) := by decide +kernel
theorem dX8_layPlan_196 : decode cX8_layPlan 196 = .ok (.ior, 1) := by decide +kernel
theorem dX8_layPlan_197 : decode cX8_layPlan 197 = .ok (.putfield 169, 3) := by decide +kernel
theorem dX8_layPlan_200 : decode cX8_layPlan 200 = .ok (.iinc 6 1, 3) := by decide +kernel
theorem dX8_layPlan_203 : decode cX8_layPlan 203 = .ok (.goto (-102), 3) := by decide +kernel
theorem dX8_layPlan_206 : decode cX8_layPlan 206 = .ok (.return_, 1) := by decide +kernel
theorem dX8_isAsked_0 : decode cX8_isAsked 0 = .ok (.iload_n 0, 1) := by decide +kernel
theorem dX8_isAsked_1 : decode cX8_isAsked 1 = .ok (.iconst 1, 1) := by decide +kernel
theorem dX8_isAsked_2 : decode cX8_isAsked 2 = .ok (.iconst 3, 1) := by decide +kernel
theorem dX8_isAsked_3 : decode cX8_isAsked 3 = .ok (.invokestatic 83, 3) := by decide +kernel
theorem dX8_isAsked_6 : decode cX8_isAsked 6 = .ok (.ifCond .eq 16, 3) := by decide +kernel
theorem dX8_isAsked_9 : decode cX8_isAsked 9 = .ok (.iload_n 1, 1) := by decide +kernel
theorem dX8_isAsked_10 : decode cX8_isAsked 10 = .ok (.iconst 0, 1) := by decide +kernel
theorem dX8_isAsked_11 : decode cX8_isAsked 11 = .ok (.iconst 1, 1) := by decide +kernel
theorem dX8_isAsked_12 : decode cX8_isAsked 12 = .ok (.invokestatic 83, 3) := by decide +kernel
theorem dX8_isAsked_15 : decode cX8_isAsked 15 = .ok (.ifCond .eq 7, 3) := by decide +kernel
theorem dX8_isAsked_18 : decode cX8_isAsked 18 = .ok (.iconst 1, 1) := by decide +kernel
theorem dX8_isAsked_19 : decode cX8_isAsked 19 = .ok (.goto 4, 3) := by decide +kernel
theorem dX8_isAsked_22 : decode cX8_isAsked 22 = .ok (.iconst 0, 1) := by decide +kernel
theorem dX8_isAsked_23 : decode cX8_isAsked 23 = .ok (.ireturn, 1) := by decide +kernel
theorem dX8_plan_0 : decode cX8_plan 0 = .ok (.iload_n 1, 1) := by decide +kernel
theorem dX8_plan_1 : decode cX8_plan 1 = .ok (.iload_n 2, 1) := by decide +kernel
theorem dX8_plan_2 : decode cX8_plan 2 = .ok (.invokestatic 175, 3) := by decide +kernel
theorem dX8_plan_5 : decode cX8_plan 5 = .ok (.ifCond .eq 12, 3) := by decide +kernel
theorem dX8_plan_8 : decode cX8_plan 8 = .ok (.iload_n 3, 1) := by decide +kernel
theorem dX8_plan_9 : decode cX8_plan 9 = .ok (.iconst 0, 1) := by decide +kernel
theorem dX8_plan_10 : decode cX8_plan 10 = .ok (.iconst 2, 1) := by decide +kernel
theorem dX8_plan_11 : decode cX8_plan 11 = .ok (.invokestatic 83, 3) := by decide +kernel
theorem dX8_plan_14 : decode cX8_plan 14 = .ok (.ifCond .ne 6, 3) := by decide +kernel
theorem dX8_plan_17 : decode cX8_plan 17 = .ok (.bipush (-2), 2) := by decide +kernel
theorem dX8_plan_19 : decode cX8_plan 19 = .ok (.ireturn, 1) := by decide +kernel
theorem dX8_plan_20 : decode cX8_plan 20 = .ok (.aload_n 0, 1) := by decide +kernel
theorem dX8_plan_21 : decode cX8_plan 21 = .ok (.iload_n 1, 1) := by decide +kernel
theorem dX8_plan_22 : decode cX8_plan 22 = .ok (.iload_n 2, 1) := by decide +kernel
theorem dX8_plan_23 : decode cX8_plan 23 = .ok (.invokevirtual 178, 3) := by decide +kernel
theorem dX8_plan_26 : decode cX8_plan 26 = .ok (.aload_n 0, 1) := by decide +kernel
theorem dX8_plan_27 : decode cX8_plan 27 = .ok (.getfield 59, 3) := by decide +kernel
theorem dX8_plan_30 : decode cX8_plan 30 = .ok (.iconst 0, 1) := by decide +kernel
theorem dX8_plan_31 : decode cX8_plan 31 = .ok (.iaload, 1) := by decide +kernel
theorem dX8_plan_32 : decode cX8_plan 32 = .ok (.ifCond .eq 7, 3) := by decide +kernel
theorem dX8_plan_35 : decode cX8_plan 35 = .ok (.iconst 1, 1) := by decide +kernel
theorem dX8_plan_36 : decode cX8_plan 36 = .ok (.goto 4, 3) := by decide +kernel
theorem dX8_plan_39 : decode cX8_plan 39 = .ok (.iconst 0, 1) := by decide +kernel
theorem dX8_plan_40 : decode cX8_plan 40 = .ok (.aload_n 0, 1) := by decide +kernel
theorem dX8_plan_41 : decode cX8_plan 41 = .ok (.getfield 59, 3) := by decide +kernel
theorem dX8_plan_44 : decode cX8_plan 44 = .ok (.iconst 1, 1) := by decide +kernel
theorem dX8_plan_45 : decode cX8_plan 45 = .ok (.iaload, 1) := by decide +kernel
theorem dX8_plan_46 : decode cX8_plan 46 = .ok (.ifCond .eq 7, 3) := by decide +kernel
theorem dX8_plan_49 : decode cX8_plan 49 = .ok (.iconst 1, 1) := by decide +kernel
theorem dX8_plan_50 : decode cX8_plan 50 = .ok (.goto 4, 3) := by decide +kernel
theorem dX8_plan_53 : decode cX8_plan 53 = .ok (.iconst 0, 1) := by decide +kernel
theorem dX8_plan_54 : decode cX8_plan 54 = .ok (.iadd, 1) := by decide +kernel
theorem dX8_plan_55 : decode cX8_plan 55 = .ok (.aload_n 0, 1) := by decide +kernel
theorem dX8_plan_56 : decode cX8_plan 56 = .ok (.getfield 59, 3) := by decide +kernel
theorem dX8_plan_59 : decode cX8_plan 59 = .ok (.iconst 2, 1) := by decide +kernel
theorem dX8_plan_60 : decode cX8_plan 60 = .ok (.iaload, 1) := by decide +kernel
theorem dX8_plan_61 : decode cX8_plan 61 = .ok (.ifCond .eq 7, 3) := by decide +kernel
theorem dX8_plan_64 : decode cX8_plan 64 = .ok (.iconst 1, 1) := by decide +kernel
theorem dX8_plan_65 : decode cX8_plan 65 = .ok (.goto 4, 3) := by decide +kernel
theorem dX8_plan_68 : decode cX8_plan 68 = .ok (.iconst 0, 1) := by decide +kernel
theorem dX8_plan_69 : decode cX8_plan 69 = .ok (.iadd, 1) := by decide +kernel
theorem dX8_plan_70 : decode cX8_plan 70 = .ok (.istore 4, 2) := by decide +kernel
theorem dX8_plan_72 : decode cX8_plan 72 = .ok (.iload_n 3, 1) := by decide +kernel
theorem dX8_plan_73 : decode cX8_plan 73 = .ok (.ifCond .ne 10, 3) := by decide +kernel
theorem dX8_plan_76 : decode cX8_plan 76 = .ok (.aload_n 0, 1) := by decide +kernel
theorem dX8_plan_77 : decode cX8_plan 77 = .ok (.getfield 159, 3) := by decide +kernel
theorem dX8_plan_80 : decode cX8_plan 80 = .ok (.goto 17, 3) := by decide +kernel
theorem dX8_plan_83 : decode cX8_plan 83 = .ok (.iload_n 3, 1) := by decide +kernel
theorem dX8_plan_84 : decode cX8_plan 84 = .ok (.iconst 1, 1) := by decide +kernel
theorem dX8_plan_85 : decode cX8_plan 85 = .ok (.if_icmp .ne 8, 3) := by decide +kernel
theorem dX8_plan_88 : decode cX8_plan 88 = .ok (.iload 4, 2) := by decide +kernel
theorem dX8_plan_90 : decode cX8_plan 90 = .ok (.goto 7, 3) := by decide +kernel
theorem dX8_plan_93 : decode cX8_plan 93 = .ok (.aload_n 0, 1) := by decide +kernel
theorem dX8_plan_94 : decode cX8_plan 94 = .ok (.getfield 169, 3) := by decide +kernel
theorem dX8_plan_97 : decode cX8_plan 97 = .ok (.ireturn, 1) := by decide +kernel
theorem dX8_place_0 : decode cX8_place 0 = .ok (.iload_n 3, 1) := by decide +kernel
theorem dX8_place_1 : decode cX8_place 1 = .ok (.invokestatic 91, 3) := by decide +kernel
theorem dX8_place_4 : decode cX8_place 4 = .ok (.ifCond .eq 14, 3) := by decide +kernel
theorem dX8_place_7 : decode cX8_place 7 = .ok (.aload_n 0, 1) := by decide +kernel
theorem dX8_place_8 : decode cX8_place 8 = .ok (.invokevirtual 142, 3) := by decide +kernel
theorem dX8_place_11 : decode cX8_place 11 = .ok (.iload_n 3, 1) := by decide +kernel
theorem dX8_place_12 : decode cX8_place 12 = .ok (.invokestatic 103, 3) := by decide +kernel
theorem dX8_place_15 : decode cX8_place 15 = .ok (.ifCond .ne 5, 3) := by decide +kernel
theorem dX8_place_18 : decode cX8_place 18 = .ok (.iconst (-1), 1) := by decide +kernel
theorem dX8_place_19 : decode cX8_place 19 = .ok (.ireturn, 1) := by decide +kernel
theorem dX8_place_20 : decode cX8_place 20 = .ok (.iload_n 1, 1) := by decide +kernel
theorem dX8_place_21 : decode cX8_place 21 = .ok (.iload_n 2, 1) := by decide +kernel
theorem dX8_place_22 : decode cX8_place 22 = .ok (.invokestatic 175, 3) := by decide +kernel
theorem dX8_place_25 : decode cX8_place 25 = .ok (.ifCond .eq 13, 3) := by decide +kernel
theorem dX8_place_28 : decode cX8_place 28 = .ok (.iload 4, 2) := by decide +kernel
theorem dX8_place_30 : decode cX8_place 30 = .ok (.iconst 0, 1) := by decide +kernel
theorem dX8_place_31 : decode cX8_place 31 = .ok (.iconst 1, 1) := by decide +kernel
theorem dX8_place_32 : decode cX8_place 32 = .ok (.invokestatic 83, 3) := by decide +kernel
theorem dX8_place_35 : decode cX8_place 35 = .ok (.ifCond .ne 6, 3) := by decide +kernel
theorem dX8_place_38 : decode cX8_place 38 = .ok (.bipush (-2), 2) := by decide +kernel
theorem dX8_place_40 : decode cX8_place 40 = .ok (.ireturn, 1) := by decide +kernel
theorem dX8_place_41 : decode cX8_place 41 = .ok (.aload_n 0, 1) := by decide +kernel
theorem dX8_place_42 : decode cX8_place 42 = .ok (.iload_n 1, 1) := by decide +kernel
theorem dX8_place_43 : decode cX8_place 43 = .ok (.iload_n 2, 1) := by decide +kernel
theorem dX8_place_44 : decode cX8_place 44 = .ok (.invokevirtual 178, 3) := by decide +kernel
theorem dX8_place_47 : decode cX8_place 47 = .ok (.iload 4, 2) := by decide +kernel
theorem dX8_place_49 : decode cX8_place 49 = .ok (.ifCond .ne 12, 3) := by decide +kernel
theorem dX8_place_52 : decode cX8_place 52 = .ok (.aload_n 0, 1) := by decide +kernel
theorem dX8_place_53 : decode cX8_place 53 = .ok (.getfield 56, 3) := by decide +kernel
theorem dX8_place_56 : decode cX8_place 56 = .ok (.iload_n 3, 1) := by decide +kernel
theorem dX8_place_57 : decode cX8_place 57 = .ok (.iaload, 1) := by decide +kernel
theorem dX8_place_58 : decode cX8_place 58 = .ok (.goto 9, 3) := by decide +kernel
theorem dX8_place_61 : decode cX8_place 61 = .ok (.aload_n 0, 1) := by decide +kernel
theorem dX8_place_62 : decode cX8_place 62 = .ok (.getfield 38, 3) := by decide +kernel
theorem dX8_place_65 : decode cX8_place 65 = .ok (.iload_n 3, 1) := by decide +kernel
theorem dX8_place_66 : decode cX8_place 66 = .ok (.iaload, 1) := by decide +kernel
theorem dX8_place_67 : decode cX8_place 67 = .ok (.ireturn, 1) := by decide +kernel
theorem dX8_step_0 : decode cX8_step 0 = .ok (.iload_n 1, 1) := by decide +kernel
theorem dX8_step_1 : decode cX8_step 1 = .ok (.iload_n 2, 1) := by decide +kernel
theorem dX8_step_2 : decode cX8_step 2 = .ok (.invokestatic 175, 3) := by decide +kernel
theorem dX8_step_5 : decode cX8_step 5 = .ok (.ifCond .eq 13, 3) := by decide +kernel
theorem dX8_step_8 : decode cX8_step 8 = .ok (.iload 4, 2) := by decide +kernel
theorem dX8_step_10 : decode cX8_step 10 = .ok (.iconst 0, 1) := by decide +kernel
theorem dX8_step_11 : decode cX8_step 11 = .ok (.iconst 2, 1) := by decide +kernel
theorem dX8_step_12 : decode cX8_step 12 = .ok (.invokestatic 83, 3) := by decide +kernel
theorem dX8_step_15 : decode cX8_step 15 = .ok (.ifCond .ne 6, 3) := by decide +kernel
theorem dX8_step_18 : decode cX8_step 18 = .ok (.bipush (-2), 2) := by decide +kernel
theorem dX8_step_20 : decode cX8_step 20 = .ok (.ireturn, 1) := by decide +kernel
theorem dX8_step_21 : decode cX8_step 21 = .ok (.aload_n 0, 1) := by decide +kernel
theorem dX8_step_22 : decode cX8_step 22 = .ok (.iload_n 1, 1) := by decide +kernel
theorem dX8_step_23 : decode cX8_step 23 = .ok (.iload_n 2, 1) := by decide +kernel
theorem dX8_step_24 : decode cX8_step 24 = .ok (.invokevirtual 178, 3) := by decide +kernel
theorem dX8_step_27 : decode cX8_step 27 = .ok (.aload_n 0, 1) := by decide +kernel
theorem dX8_step_28 : decode cX8_step 28 = .ok (.aload_n 0, 1) := by decide +kernel
theorem dX8_step_29 : decode cX8_step 29 = .ok (.getfield 169, 3) := by decide +kernel
theorem dX8_step_32 : decode cX8_step 32 = .ok (.invokevirtual 111, 3) := by decide +kernel
theorem dX8_step_35 : decode cX8_step 35 = .ok (.istore 5, 2) := by decide +kernel
theorem dX8_step_37 : decode cX8_step 37 = .ok (.iload_n 3, 1) := by decide +kernel
theorem dX8_step_38 : decode cX8_step 38 = .ok (.iconst 0, 1) := by decide +kernel
theorem dX8_step_39 : decode cX8_step 39 = .ok (.iload 5, 2) := by decide +kernel
theorem dX8_step_41 : decode cX8_step 41 = .ok (.iconst 1, 1) := by decide +kernel
theorem dX8_step_42 : decode cX8_step 42 = .ok (.isub, 1) := by decide +kernel
theorem dX8_step_43 : decode cX8_step 43 = .ok (.invokestatic 83, 3) := by decide +kernel
theorem dX8_step_46 : decode cX8_step 46 = .ok (.ifCond .ne 6, 3) := by decide +kernel
theorem dX8_step_49 : decode cX8_step 49 = .ok (.bipush (-6), 2) := by decide +kernel
theorem dX8_step_51 : decode cX8_step 51 = .ok (.ireturn, 1) := by decide +kernel
theorem dX8_step_52 : decode cX8_step 52 = .ok (.iload 4, 2) := by decide +kernel
theorem dX8_step_54 : decode cX8_step 54 = .ok (.ifCond .ne 10, 3) := by decide +kernel
theorem dX8_step_57 : decode cX8_step 57 = .ok (.aload_n 0, 1) := by decide +kernel
theorem dX8_step_58 : decode cX8_step 58 = .ok (.getfield 35, 3) := by decide +kernel
theorem dX8_step_61 : decode cX8_step 61 = .ok (.iload_n 3, 1) := by decide +kernel
theorem dX8_step_62 : decode cX8_step 62 = .ok (.iaload, 1) := by decide +kernel
theorem dX8_step_63 : decode cX8_step 63 = .ok (.ireturn, 1) := by decide +kernel
theorem dX8_step_64 : decode cX8_step 64 = .ok (.iload_n 3, 1) := by decide +kernel
theorem dX8_step_65 : decode cX8_step 65 = .ok (.iconst 1, 1) := by decide +kernel
theorem dX8_step_66 : decode cX8_step 66 = .ok (.isub, 1) := by decide +kernel
theorem dX8_step_67 : decode cX8_step 67 = .ok (.istore 6, 2) := by decide +kernel
theorem dX8_step_69 : decode cX8_step 69 = .ok (.iload 6, 2) := by decide +kernel
theorem dX8_step_71 : decode cX8_step 71 = .ok (.ifCond .lt 35, 3) := by decide +kernel
theorem dX8_step_74 : decode cX8_step 74 = .ok (.aload_n 0, 1) := by decide +kernel
theorem dX8_step_75 : decode cX8_step 75 = .ok (.getfield 56, 3) := by decide +kernel
theorem dX8_step_78 : decode cX8_step 78 = .ok (.aload_n 0, 1) := by decide +kernel
theorem dX8_step_79 : decode cX8_step 79 = .ok (.getfield 35, 3) := by decide +kernel
theorem dX8_step_82 : decode cX8_step 82 = .ok (.iload 6, 2) := by decide +kernel
theorem dX8_step_84 : decode cX8_step 84 = .ok (.iaload, 1) := by decide +kernel
theorem dX8_step_85 : decode cX8_step 85 = .ok (.iaload, 1) := by decide +kernel
theorem dX8_step_86 : decode cX8_step 86 = .ok (.aload_n 0, 1) := by decide +kernel
theorem dX8_step_87 : decode cX8_step 87 = .ok (.getfield 56, 3) := by decide +kernel
theorem dX8_step_90 : decode cX8_step 90 = .ok (.aload_n 0, 1) := by decide +kernel
theorem dX8_step_91 : decode cX8_step 91 = .ok (.getfield 35, 3) := by decide +kernel
theorem dX8_step_94 : decode cX8_step 94 = .ok (.iload_n 3, 1) := by decide +kernel
theorem dX8_step_95 : decode cX8_step 95 = .ok (.iaload, 1) := by decide +kernel
theorem dX8_step_96 : decode cX8_step 96 = .ok (.iaload, 1) := by decide +kernel
theorem dX8_step_97 : decode cX8_step 97 = .ok (.if_icmp .eq 9, 3) := by decide +kernel
theorem dX8_step_100 : decode cX8_step 100 = .ok (.iinc 6 (-1), 3) := by decide +kernel
theorem dX8_step_103 : decode cX8_step 103 = .ok (.goto (-34), 3) := by decide +kernel
theorem dX8_step_106 : decode cX8_step 106 = .ok (.iload 6, 2) := by decide +kernel
theorem dX8_step_108 : decode cX8_step 108 = .ok (.ifCond .lt 33, 3) := by decide +kernel
theorem dX8_step_111 : decode cX8_step 111 = .ok (.aload_n 0, 1) := by decide +kernel
theorem dX8_step_112 : decode cX8_step 112 = .ok (.aload_n 0, 1) := by decide +kernel
theorem dX8_step_113 : decode cX8_step 113 = .ok (.getfield 38, 3) := by decide +kernel
theorem dX8_step_116 : decode cX8_step 116 = .ok (.aload_n 0, 1) := by decide +kernel
theorem dX8_step_117 : decode cX8_step 117 = .ok (.getfield 35, 3) := by decide +kernel
theorem dX8_step_120 : decode cX8_step 120 = .ok (.iload 6, 2) := by decide +kernel
theorem dX8_step_122 : decode cX8_step 122 = .ok (.iaload, 1) := by decide +kernel
theorem dX8_step_123 : decode cX8_step 123 = .ok (.iaload, 1) := by decide +kernel
theorem dX8_step_124 : decode cX8_step 124 = .ok (.aload_n 0, 1) := by decide +kernel
theorem dX8_step_125 : decode cX8_step 125 = .ok (.getfield 38, 3) := by decide +kernel
theorem dX8_step_128 : decode cX8_step 128 = .ok (.aload_n 0, 1) := by decide +kernel
theorem dX8_step_129 : decode cX8_step 129 = .ok (.getfield 35, 3) := by decide +kernel
theorem dX8_step_132 : decode cX8_step 132 = .ok (.iload_n 3, 1) := by decide +kernel
theorem dX8_step_133 : decode cX8_step 133 = .ok (.iaload, 1) := by decide +kernel
theorem dX8_step_134 : decode cX8_step 134 = .ok (.iaload, 1) := by decide +kernel
theorem dX8_step_135 : decode cX8_step 135 = .ok (.invokevirtual 118, 3) := by decide +kernel
theorem dX8_step_138 : decode cX8_step 138 = .ok (.ifCond .eq 7, 3) := by decide +kernel
theorem dX8_step_141 : decode cX8_step 141 = .ok (.iconst 1, 1) := by decide +kernel
theorem dX8_step_142 : decode cX8_step 142 = .ok (.goto 4, 3) := by decide +kernel
theorem dX8_step_145 : decode cX8_step 145 = .ok (.iconst 0, 1) := by decide +kernel
theorem dX8_step_146 : decode cX8_step 146 = .ok (.istore 7, 2) := by decide +kernel
theorem dX8_step_148 : decode cX8_step 148 = .ok (.iload 4, 2) := by decide +kernel
theorem dX8_step_150 : decode cX8_step 150 = .ok (.iconst 1, 1) := by decide +kernel
theorem dX8_step_151 : decode cX8_step 151 = .ok (.if_icmp .ne 16, 3) := by decide +kernel
theorem dX8_step_154 : decode cX8_step 154 = .ok (.iload 7, 2) := by decide +kernel
theorem dX8_step_156 : decode cX8_step 156 = .ok (.ifCond .eq 7, 3) := by decide +kernel
theorem dX8_step_159 : decode cX8_step 159 = .ok (.iconst 1, 1) := by decide +kernel
theorem dX8_step_160 : decode cX8_step 160 = .ok (.goto 40, 3) := by decide +kernel
theorem dX8_step_163 : decode cX8_step 163 = .ok (.iconst 0, 1) := by decide +kernel
theorem dX8_step_164 : decode cX8_step 164 = .ok (.goto 36, 3) := by decide +kernel
theorem dX8_step_167 : decode cX8_step 167 = .ok (.iload 7, 2) := by decide +kernel
theorem dX8_step_169 : decode cX8_step 169 = .ok (.ifCond .eq 7, 3) := by decide +kernel
theorem dX8_step_172 : decode cX8_step 172 = .ok (.iconst 0, 1) := by decide +kernel
theorem dX8_step_173 : decode cX8_step 173 = .ok (.goto 27, 3) := by decide +kernel
theorem dX8_step_176 : decode cX8_step 176 = .ok (.aload_n 0, 1) := by decide +kernel
theorem dX8_step_177 : decode cX8_step 177 = .ok (.getfield 38, 3) := by decide +kernel
theorem dX8_step_180 : decode cX8_step 180 = .ok (.aload_n 0, 1) := by decide +kernel
theorem dX8_step_181 : decode cX8_step 181 = .ok (.getfield 35, 3) := by decide +kernel
theorem dX8_step_184 : decode cX8_step 184 = .ok (.iload_n 3, 1) := by decide +kernel
theorem dX8_step_185 : decode cX8_step 185 = .ok (.iaload, 1) := by decide +kernel
theorem dX8_step_186 : decode cX8_step 186 = .ok (.iaload, 1) := by decide +kernel
theorem dX8_step_187 : decode cX8_step 187 = .ok (.aload_n 0, 1) := by decide +kernel
theorem dX8_step_188 : decode cX8_step 188 = .ok (.getfield 38, 3) := by decide +kernel
theorem dX8_step_191 : decode cX8_step 191 = .ok (.aload_n 0, 1) := by decide +kernel
theorem dX8_step_192 : decode cX8_step 192 = .ok (.getfield 35, 3) := by decide +kernel
theorem dX8_step_195 : decode cX8_step 195 = .ok (.iload 6, 2) := by decide +kernel
theorem dX8_step_197 : decode cX8_step 197 = .ok (.iaload, 1) := by decide +kernel
theorem dX8_step_198 : decode cX8_step 198 = .ok (.iaload, 1) := by decide +kernel
theorem dX8_step_199 : decode cX8_step 199 = .ok (.isub, 1) := by decide +kernel
theorem dX8_step_200 : decode cX8_step 200 = .ok (.ireturn, 1) := by decide +kernel
theorem dX8_run_0 : decode cX8_run 0 = .ok (.iload_n 1, 1) := by decide +kernel
theorem dX8_run_1 : decode cX8_run 1 = .ok (.iload_n 2, 1) := by decide +kernel
theorem dX8_run_2 : decode cX8_run 2 = .ok (.invokestatic 175, 3) := by decide +kernel
theorem dX8_run_5 : decode cX8_run 5 = .ok (.ifCond .ne 6, 3) := by decide +kernel
theorem dX8_run_8 : decode cX8_run 8 = .ok (.bipush (-2), 2) := by decide +kernel
theorem dX8_run_10 : decode cX8_run 10 = .ok (.ireturn, 1) := by decide +kernel
theorem dX8_run_11 : decode cX8_run 11 = .ok (.aload_n 0, 1) := by decide +kernel
theorem dX8_run_12 : decode cX8_run 12 = .ok (.iload_n 1, 1) := by decide +kernel
theorem dX8_run_13 : decode cX8_run 13 = .ok (.iload_n 2, 1) := by decide +kernel
theorem dX8_run_14 : decode cX8_run 14 = .ok (.invokevirtual 178, 3) := by decide +kernel
theorem dX8_run_17 : decode cX8_run 17 = .ok (.iconst 0, 1) := by decide +kernel
theorem dX8_run_18 : decode cX8_run 18 = .ok (.istore_n 3, 1) := by decide +kernel
theorem dX8_run_19 : decode cX8_run 19 = .ok (.iload_n 3, 1) := by decide +kernel
theorem dX8_run_20 : decode cX8_run 20 = .ok (.aload_n 0, 1) := by decide +kernel
theorem dX8_run_21 : decode cX8_run 21 = .ok (.getfield 87, 3) := by decide +kernel
theorem dX8_run_24 : decode cX8_run 24 = .ok (.if_icmp .ge 128, 3) := by decide +kernel
theorem dX8_run_27 : decode cX8_run 27 = .ok (.aload_n 0, 1) := by decide +kernel
theorem dX8_run_28 : decode cX8_run 28 = .ok (.getfield 22, 3) := by decide +kernel
theorem dX8_run_31 : decode cX8_run 31 = .ok (.aload_n 0, 1) := by decide +kernel
theorem dX8_run_32 : decode cX8_run 32 = .ok (.getfield 16, 3) := by decide +kernel
theorem dX8_run_35 : decode cX8_run 35 = .ok (.iload_n 3, 1) := by decide +kernel
theorem dX8_run_36 : decode cX8_run 36 = .ok (.iaload, 1) := by decide +kernel
theorem dX8_run_37 : decode cX8_run 37 = .ok (.iaload, 1) := by decide +kernel
theorem dX8_run_38 : decode cX8_run 38 = .ok (.istore 4, 2) := by decide +kernel
theorem dX8_run_40 : decode cX8_run 40 = .ok (.aload_n 0, 1) := by decide +kernel
theorem dX8_run_41 : decode cX8_run 41 = .ok (.getfield 22, 3) := by decide +kernel
theorem dX8_run_44 : decode cX8_run 44 = .ok (.aload_n 0, 1) := by decide +kernel
theorem dX8_run_45 : decode cX8_run 45 = .ok (.getfield 19, 3) := by decide +kernel
theorem dX8_run_48 : decode cX8_run 48 = .ok (.iload_n 3, 1) := by decide +kernel
theorem dX8_run_49 : decode cX8_run 49 = .ok (.iaload, 1) := by decide +kernel
theorem dX8_run_50 : decode cX8_run 50 = .ok (.iaload, 1) := by decide +kernel
theorem dX8_run_51 : decode cX8_run 51 = .ok (.istore 5, 2) := by decide +kernel
theorem dX8_run_53 : decode cX8_run 53 = .ok (.aload_n 0, 1) := by decide +kernel
theorem dX8_run_54 : decode cX8_run 54 = .ok (.getfield 22, 3) := by decide +kernel
theorem dX8_run_57 : decode cX8_run 57 = .ok (.aload_n 0, 1) := by decide +kernel
theorem dX8_run_58 : decode cX8_run 58 = .ok (.getfield 13, 3) := by decide +kernel
theorem dX8_run_61 : decode cX8_run 61 = .ok (.iload_n 3, 1) := by decide +kernel
theorem dX8_run_62 : decode cX8_run 62 = .ok (.iaload, 1) := by decide +kernel
theorem dX8_run_63 : decode cX8_run 63 = .ok (.aload_n 0, 1) := by decide +kernel
theorem dX8_run_64 : decode cX8_run 64 = .ok (.getfield 7, 3) := by decide +kernel
theorem dX8_run_67 : decode cX8_run 67 = .ok (.iload_n 3, 1) := by decide +kernel
theorem dX8_run_68 : decode cX8_run 68 = .ok (.iaload, 1) := by decide +kernel
theorem dX8_run_69 : decode cX8_run 69 = .ok (.ifCond .ne 8, 3) := by decide +kernel
theorem dX8_run_72 : decode cX8_run 72 = .ok (.iload 4, 2) := by decide +kernel
theorem dX8_run_74 : decode cX8_run 74 = .ok (.goto 71, 3) := by decide +kernel
theorem dX8_run_77 : decode cX8_run 77 = .ok (.aload_n 0, 1) := by decide +kernel
theorem dX8_run_78 : decode cX8_run 78 = .ok (.getfield 7, 3) := by decide +kernel
theorem dX8_run_81 : decode cX8_run 81 = .ok (.iload_n 3, 1) := by decide +kernel
theorem dX8_run_82 : decode cX8_run 82 = .ok (.iaload, 1) := by decide +kernel
theorem dX8_run_83 : decode cX8_run 83 = .ok (.iconst 1, 1) := by decide +kernel
theorem dX8_run_84 : decode cX8_run 84 = .ok (.if_icmp .ne 11, 3) := by decide +kernel
theorem dX8_run_87 : decode cX8_run 87 = .ok (.iload 4, 2) := by decide +kernel
theorem dX8_run_89 : decode cX8_run 89 = .ok (.iload 5, 2) := by decide +kernel
theorem dX8_run_91 : decode cX8_run 91 = .ok (.iadd, 1) := by decide +kernel
theorem dX8_run_92 : decode cX8_run 92 = .ok (.goto 53, 3) := by decide +kernel
theorem dX8_run_95 : decode cX8_run 95 = .ok (.aload_n 0, 1) := by decide +kernel
theorem dX8_run_96 : decode cX8_run 96 = .ok (.getfield 7, 3) := by decide +kernel
theorem dX8_run_99 : decode cX8_run 99 = .ok (.iload_n 3, 1) := by decide +kernel
theorem dX8_run_100 : decode cX8_run 100 = .ok (.iaload, 1) := by decide +kernel
theorem dX8_run_101 : decode cX8_run 101 = .ok (.iconst 2, 1) := by decide +kernel
theorem dX8_run_102 : decode cX8_run 102 = .ok (.if_icmp .ne 11, 3) := by decide +kernel
theorem dX8_run_105 : decode cX8_run 105 = .ok (.iload 4, 2) := by decide +kernel
theorem dX8_run_107 : decode cX8_run 107 = .ok (.iload 5, 2) := by decide +kernel
theorem dX8_run_109 : decode cX8_run 109 = .ok (.isub, 1) := by decide +kernel
theorem dX8_run_110 : decode cX8_run 110 = .ok (.goto 35, 3) := by decide +kernel
theorem dX8_run_113 : decode cX8_run 113 = .ok (.aload_n 0, 1) := by decide +kernel
theorem dX8_run_114 : decode cX8_run 114 = .ok (.getfield 7, 3) := by decide +kernel
theorem dX8_run_117 : decode cX8_run 117 = .ok (.iload_n 3, 1) := by decide +kernel
theorem dX8_run_118 : decode cX8_run 118 = .ok (.iaload, 1) := by decide +kernel
theorem dX8_run_119 : decode cX8_run 119 = .ok (.iconst 3, 1) := by decide +kernel
theorem dX8_run_120 : decode cX8_run 120 = .ok (.if_icmp .ne 11, 3) := by decide +kernel
theorem dX8_run_123 : decode cX8_run 123 = .ok (.iload 4, 2) := by decide +kernel
theorem dX8_run_125 : decode cX8_run 125 = .ok (.iload 5, 2) := by decide +kernel
theorem dX8_run_127 : decode cX8_run 127 = .ok (.imul, 1) := by decide +kernel
theorem dX8_run_128 : decode cX8_run 128 = .ok (.goto 17, 3) := by decide +kernel
theorem dX8_run_131 : decode cX8_run 131 = .ok (.iload 4, 2) := by decide +kernel
theorem dX8_run_133 : decode cX8_run 133 = .ok (.iload 5, 2) := by decide +kernel
theorem dX8_run_135 : decode cX8_run 135 = .ok (.if_icmp .ge 8, 3) := by decide +kernel
theorem dX8_run_138 : decode cX8_run 138 = .ok (.iload 4, 2) := by decide +kernel
theorem dX8_run_140 : decode cX8_run 140 = .ok (.goto 5, 3) := by decide +kernel
theorem dX8_run_143 : decode cX8_run 143 = .ok (.iload 5, 2) := by decide +kernel
theorem dX8_run_145 : decode cX8_run 145 = .ok (.iastore, 1) := by decide +kernel
theorem dX8_run_146 : decode cX8_run 146 = .ok (.iinc 3 1, 3) := by decide +kernel
theorem dX8_run_149 : decode cX8_run 149 = .ok (.goto (-130), 3) := by decide +kernel
theorem dX8_run_152 : decode cX8_run 152 = .ok (.aload_n 0, 1) := by decide +kernel
theorem dX8_run_153 : decode cX8_run 153 = .ok (.getfield 159, 3) := by decide +kernel
theorem dX8_run_156 : decode cX8_run 156 = .ok (.ireturn, 1) := by decide +kernel
theorem dX8_layWeights_0 : decode cX8_layWeights 0 = .ok (.iconst 0, 1) := by decide +kernel
theorem dX8_layWeights_1 : decode cX8_layWeights 1 = .ok (.istore_n 1, 1) := by decide +kernel
theorem dX8_layWeights_2 : decode cX8_layWeights 2 = .ok (.iload_n 1, 1) := by decide +kernel
theorem dX8_layWeights_3 : decode cX8_layWeights 3 = .ok (.bipush 49, 2) := by decide +kernel
theorem dX8_layWeights_5 : decode cX8_layWeights 5 = .ok (.if_icmp .ge 16, 3) := by decide +kernel
theorem dX8_layWeights_8 : decode cX8_layWeights 8 = .ok (.aload_n 0, 1) := by decide +kernel
theorem dX8_layWeights_9 : decode cX8_layWeights 9 = .ok (.getfield 62, 3) := by decide +kernel
theorem dX8_layWeights_12 : decode cX8_layWeights 12 = .ok (.iload_n 1, 1) := by decide +kernel
theorem dX8_layWeights_13 : decode cX8_layWeights 13 = .ok (.iconst 0, 1) := by decide +kernel
theorem dX8_layWeights_14 : decode cX8_layWeights 14 = .ok (.iastore, 1) := by decide +kernel
theorem dX8_layWeights_15 : decode cX8_layWeights 15 = .ok (.iinc 1 1, 3) := by decide +kernel
theorem dX8_layWeights_18 : decode cX8_layWeights 18 = .ok (.goto (-16), 3) := by decide +kernel
theorem dX8_layWeights_21 : decode cX8_layWeights 21 = .ok (.aload_n 0, 1) := by decide +kernel
theorem dX8_layWeights_22 : decode cX8_layWeights 22 = .ok (.iconst 0, 1) := by decide +kernel
theorem dX8_layWeights_23 : decode cX8_layWeights 23 = .ok (.invokevirtual 111, 3) := by decide +kernel
theorem dX8_layWeights_26 : decode cX8_layWeights 26 = .ok (.istore_n 1, 1) := by decide +kernel
theorem dX8_layWeights_27 : decode cX8_layWeights 27 = .ok (.iconst 1, 1) := by decide +kernel
theorem dX8_layWeights_28 : decode cX8_layWeights 28 = .ok (.istore_n 2, 1) := by decide +kernel
theorem dX8_layWeights_29 : decode cX8_layWeights 29 = .ok (.iload_n 2, 1) := by decide +kernel
theorem dX8_layWeights_30 : decode cX8_layWeights 30 = .ok (.iload_n 1, 1) := by decide +kernel
theorem dX8_layWeights_31 : decode cX8_layWeights 31 = .ok (.if_icmp .ge 80, 3) := by decide +kernel
theorem dX8_layWeights_34 : decode cX8_layWeights 34 = .ok (.aload_n 0, 1) := by decide +kernel
theorem dX8_layWeights_35 : decode cX8_layWeights 35 = .ok (.getfield 35, 3) := by decide +kernel
theorem dX8_layWeights_38 : decode cX8_layWeights 38 = .ok (.iload_n 2, 1) := by decide +kernel
theorem dX8_layWeights_39 : decode cX8_layWeights 39 = .ok (.iaload, 1) := by decide +kernel
theorem dX8_layWeights_40 : decode cX8_layWeights 40 = .ok (.aload_n 0, 1) := by decide +kernel
theorem dX8_layWeights_41 : decode cX8_layWeights 41 = .ok (.getfield 35, 3) := by decide +kernel
theorem dX8_layWeights_44 : decode cX8_layWeights 44 = .ok (.iload_n 2, 1) := by decide +kernel
theorem dX8_layWeights_45 : decode cX8_layWeights 45 = .ok (.iconst 1, 1) := by decide +kernel
theorem dX8_layWeights_46 : decode cX8_layWeights 46 = .ok (.isub, 1) := by decide +kernel
theorem dX8_layWeights_47 : decode cX8_layWeights 47 = .ok (.iaload, 1) := by decide +kernel
theorem dX8_layWeights_48 : decode cX8_layWeights 48 = .ok (.if_icmp .eq 57, 3) := by decide +kernel
theorem dX8_layWeights_51 : decode cX8_layWeights 51 = .ok (.aload_n 0, 1) := by decide +kernel
theorem dX8_layWeights_52 : decode cX8_layWeights 52 = .ok (.getfield 62, 3) := by decide +kernel
theorem dX8_layWeights_55 : decode cX8_layWeights 55 = .ok (.bipush 7, 2) := by decide +kernel
theorem dX8_layWeights_57 : decode cX8_layWeights 57 = .ok (.aload_n 0, 1) := by decide +kernel
theorem dX8_layWeights_58 : decode cX8_layWeights 58 = .ok (.getfield 35, 3) := by decide +kernel
theorem dX8_layWeights_61 : decode cX8_layWeights 61 = .ok (.iload_n 2, 1) := by decide +kernel
theorem dX8_layWeights_62 : decode cX8_layWeights 62 = .ok (.iaload, 1) := by decide +kernel
theorem dX8_layWeights_63 : decode cX8_layWeights 63 = .ok (.imul, 1) := by decide +kernel
theorem dX8_layWeights_64 : decode cX8_layWeights 64 = .ok (.aload_n 0, 1) := by decide +kernel
theorem dX8_layWeights_65 : decode cX8_layWeights 65 = .ok (.getfield 35, 3) := by decide +kernel
theorem dX8_layWeights_68 : decode cX8_layWeights 68 = .ok (.iload_n 2, 1) := by decide +kernel
theorem dX8_layWeights_69 : decode cX8_layWeights 69 = .ok (.iconst 1, 1) := by decide +kernel
theorem dX8_layWeights_70 : decode cX8_layWeights 70 = .ok (.isub, 1) := by decide +kernel
theorem dX8_layWeights_71 : decode cX8_layWeights 71 = .ok (.iaload, 1) := by decide +kernel
theorem dX8_layWeights_72 : decode cX8_layWeights 72 = .ok (.iadd, 1) := by decide +kernel
theorem dX8_layWeights_73 : decode cX8_layWeights 73 = .ok (.dup2, 1) := by decide +kernel
theorem dX8_layWeights_74 : decode cX8_layWeights 74 = .ok (.iaload, 1) := by decide +kernel
theorem dX8_layWeights_75 : decode cX8_layWeights 75 = .ok (.iconst 1, 1) := by decide +kernel
theorem dX8_layWeights_76 : decode cX8_layWeights 76 = .ok (.iadd, 1) := by decide +kernel
theorem dX8_layWeights_77 : decode cX8_layWeights 77 = .ok (.iastore, 1) := by decide +kernel
theorem dX8_layWeights_78 : decode cX8_layWeights 78 = .ok (.aload_n 0, 1) := by decide +kernel
theorem dX8_layWeights_79 : decode cX8_layWeights 79 = .ok (.getfield 62, 3) := by decide +kernel
theorem dX8_layWeights_82 : decode cX8_layWeights 82 = .ok (.bipush 7, 2) := by decide +kernel
theorem dX8_layWeights_84 : decode cX8_layWeights 84 = .ok (.aload_n 0, 1) := by decide +kernel
theorem dX8_layWeights_85 : decode cX8_layWeights 85 = .ok (.getfield 35, 3) := by decide +kernel
theorem dX8_layWeights_88 : decode cX8_layWeights 88 = .ok (.iload_n 2, 1) := by decide +kernel
theorem dX8_layWeights_89 : decode cX8_layWeights 89 = .ok (.iconst 1, 1) := by decide +kernel
theorem dX8_layWeights_90 : decode cX8_layWeights 90 = .ok (.isub, 1) := by decide +kernel
theorem dX8_layWeights_91 : decode cX8_layWeights 91 = .ok (.iaload, 1) := by decide +kernel
theorem dX8_layWeights_92 : decode cX8_layWeights 92 = .ok (.imul, 1) := by decide +kernel
theorem dX8_layWeights_93 : decode cX8_layWeights 93 = .ok (.aload_n 0, 1) := by decide +kernel
theorem dX8_layWeights_94 : decode cX8_layWeights 94 = .ok (.getfield 35, 3) := by decide +kernel
theorem dX8_layWeights_97 : decode cX8_layWeights 97 = .ok (.iload_n 2, 1) := by decide +kernel
theorem dX8_layWeights_98 : decode cX8_layWeights 98 = .ok (.iaload, 1) := by decide +kernel
theorem dX8_layWeights_99 : decode cX8_layWeights 99 = .ok (.iadd, 1) := by decide +kernel
theorem dX8_layWeights_100 : decode cX8_layWeights 100 = .ok (.dup2, 1) := by decide +kernel
theorem dX8_layWeights_101 : decode cX8_layWeights 101 = .ok (.iaload, 1) := by decide +kernel
theorem dX8_layWeights_102 : decode cX8_layWeights 102 = .ok (.iconst 1, 1) := by decide +kernel
theorem dX8_layWeights_103 : decode cX8_layWeights 103 = .ok (.iadd, 1) := by decide +kernel
theorem dX8_layWeights_104 : decode cX8_layWeights 104 = .ok (.iastore, 1) := by decide +kernel
theorem dX8_layWeights_105 : decode cX8_layWeights 105 = .ok (.iinc 2 1, 3) := by decide +kernel
theorem dX8_layWeights_108 : decode cX8_layWeights 108 = .ok (.goto (-79), 3) := by decide +kernel
theorem dX8_layWeights_111 : decode cX8_layWeights 111 = .ok (.return_, 1) := by decide +kernel
theorem dX8_weight_0 : decode cX8_weight 0 = .ok (.iload_n 1, 1) := by decide +kernel
theorem dX8_weight_1 : decode cX8_weight 1 = .ok (.invokestatic 91, 3) := by decide +kernel
theorem dX8_weight_4 : decode cX8_weight 4 = .ok (.ifCond .eq 10, 3) := by decide +kernel
theorem dX8_weight_7 : decode cX8_weight 7 = .ok (.iload_n 2, 1) := by decide +kernel
theorem dX8_weight_8 : decode cX8_weight 8 = .ok (.invokestatic 91, 3) := by decide +kernel
theorem dX8_weight_11 : decode cX8_weight 11 = .ok (.ifCond .ne 5, 3) := by decide +kernel
theorem dX8_weight_14 : decode cX8_weight 14 = .ok (.iconst (-1), 1) := by decide +kernel
theorem dX8_weight_15 : decode cX8_weight 15 = .ok (.ireturn, 1) := by decide +kernel
theorem dX8_weight_16 : decode cX8_weight 16 = .ok (.aload_n 0, 1) := by decide +kernel
theorem dX8_weight_17 : decode cX8_weight 17 = .ok (.invokevirtual 181, 3) := by decide +kernel
theorem dX8_weight_20 : decode cX8_weight 20 = .ok (.aload_n 0, 1) := by decide +kernel
theorem dX8_weight_21 : decode cX8_weight 21 = .ok (.getfield 62, 3) := by decide +kernel
theorem dX8_weight_24 : decode cX8_weight 24 = .ok (.bipush 7, 2) := by decide +kernel
theorem dX8_weight_26 : decode cX8_weight 26 = .ok (.iload_n 1, 1) := by decide +kernel
theorem dX8_weight_27 : decode cX8_weight 27 = .ok (.imul, 1) := by decide +kernel
theorem dX8_weight_28 : decode cX8_weight 28 = .ok (.iload_n 2, 1) := by decide +kernel
theorem dX8_weight_29 : decode cX8_weight 29 = .ok (.iadd, 1) := by decide +kernel
theorem dX8_weight_30 : decode cX8_weight 30 = .ok (.iaload, 1) := by decide +kernel
theorem dX8_weight_31 : decode cX8_weight 31 = .ok (.ireturn, 1) := by decide +kernel
theorem dX8_heaviest_0 : decode cX8_heaviest 0 = .ok (.bipush (-6), 2) := by decide +kernel
theorem dX8_heaviest_2 : decode cX8_heaviest 2 = .ok (.istore_n 1, 1) := by decide +kernel
theorem dX8_heaviest_3 : decode cX8_heaviest 3 = .ok (.iconst 0, 1) := by decide +kernel
theorem dX8_heaviest_4 : decode cX8_heaviest 4 = .ok (.istore_n 2, 1) := by decide +kernel
theorem dX8_heaviest_5 : decode cX8_heaviest 5 = .ok (.iload_n 2, 1) := by decide +kernel
theorem dX8_heaviest_6 : decode cX8_heaviest 6 = .ok (.bipush 49, 2) := by decide +kernel
theorem dX8_heaviest_8 : decode cX8_heaviest 8 = .ok (.if_icmp .ge 73, 3) := by decide +kernel
theorem dX8_heaviest_11 : decode cX8_heaviest 11 = .ok (.iload_n 2, 1) := by decide +kernel
end
section
theorem dX8_heaviest_12 : decode cX8_heaviest 12 = .ok (.bipush 7, 2) := by decide +kernel
theorem dX8_heaviest_14 : decode cX8_heaviest 14 = .ok (.idiv, 1) := by decide +kernel
theorem dX8_heaviest_15 : decode cX8_heaviest 15 = .ok (.iload_n 2, 1) := by decide +kernel
theorem dX8_heaviest_16 : decode cX8_heaviest 16 = .ok (.bipush 7, 2) := by decide +kernel
theorem dX8_heaviest_18 : decode cX8_heaviest 18 = .ok (.irem, 1) := by decide +kernel
theorem dX8_heaviest_19 : decode cX8_heaviest 19 = .ok (.if_icmp .ge 25, 3) := by decide +kernel
theorem dX8_heaviest_22 : decode cX8_heaviest 22 = .ok (.aload_n 0, 1) := by decide +kernel
theorem dX8_heaviest_23 : decode cX8_heaviest 23 = .ok (.getfield 68, 3) := by decide +kernel
theorem dX8_heaviest_26 : decode cX8_heaviest 26 = .ok (.iload_n 2, 1) := by decide +kernel
theorem dX8_heaviest_27 : decode cX8_heaviest 27 = .ok (.baload, 1) := by decide +kernel
theorem dX8_heaviest_28 : decode cX8_heaviest 28 = .ok (.ifCond .ne 16, 3) := by decide +kernel
theorem dX8_heaviest_31 : decode cX8_heaviest 31 = .ok (.aload_n 0, 1) := by decide +kernel
theorem dX8_heaviest_32 : decode cX8_heaviest 32 = .ok (.getfield 62, 3) := by decide +kernel
theorem dX8_heaviest_35 : decode cX8_heaviest 35 = .ok (.iload_n 2, 1) := by decide +kernel
theorem dX8_heaviest_36 : decode cX8_heaviest 36 = .ok (.iaload, 1) := by decide +kernel
theorem dX8_heaviest_37 : decode cX8_heaviest 37 = .ok (.ifCond .le 7, 3) := by decide +kernel
theorem dX8_heaviest_40 : decode cX8_heaviest 40 = .ok (.iconst 1, 1) := by decide +kernel
theorem dX8_heaviest_41 : decode cX8_heaviest 41 = .ok (.goto 4, 3) := by decide +kernel
theorem dX8_heaviest_44 : decode cX8_heaviest 44 = .ok (.iconst 0, 1) := by decide +kernel
theorem dX8_heaviest_45 : decode cX8_heaviest 45 = .ok (.istore_n 3, 1) := by decide +kernel
theorem dX8_heaviest_46 : decode cX8_heaviest 46 = .ok (.iload_n 3, 1) := by decide +kernel
theorem dX8_heaviest_47 : decode cX8_heaviest 47 = .ok (.ifCond .eq 26, 3) := by decide +kernel
theorem dX8_heaviest_50 : decode cX8_heaviest 50 = .ok (.iload_n 1, 1) := by decide +kernel
theorem dX8_heaviest_51 : decode cX8_heaviest 51 = .ok (.ifCond .lt 18, 3) := by decide +kernel
theorem dX8_heaviest_54 : decode cX8_heaviest 54 = .ok (.aload_n 0, 1) := by decide +kernel
theorem dX8_heaviest_55 : decode cX8_heaviest 55 = .ok (.getfield 62, 3) := by decide +kernel
theorem dX8_heaviest_58 : decode cX8_heaviest 58 = .ok (.iload_n 2, 1) := by decide +kernel
theorem dX8_heaviest_59 : decode cX8_heaviest 59 = .ok (.iaload, 1) := by decide +kernel
theorem dX8_heaviest_60 : decode cX8_heaviest 60 = .ok (.aload_n 0, 1) := by decide +kernel
theorem dX8_heaviest_61 : decode cX8_heaviest 61 = .ok (.getfield 62, 3) := by decide +kernel
theorem dX8_heaviest_64 : decode cX8_heaviest 64 = .ok (.iload_n 1, 1) := by decide +kernel
theorem dX8_heaviest_65 : decode cX8_heaviest 65 = .ok (.iaload, 1) := by decide +kernel
theorem dX8_heaviest_66 : decode cX8_heaviest 66 = .ok (.if_icmp .le 7, 3) := by decide +kernel
theorem dX8_heaviest_69 : decode cX8_heaviest 69 = .ok (.iload_n 2, 1) := by decide +kernel
theorem dX8_heaviest_70 : decode cX8_heaviest 70 = .ok (.goto 4, 3) := by decide +kernel
theorem dX8_heaviest_73 : decode cX8_heaviest 73 = .ok (.iload_n 1, 1) := by decide +kernel
theorem dX8_heaviest_74 : decode cX8_heaviest 74 = .ok (.istore_n 1, 1) := by decide +kernel
theorem dX8_heaviest_75 : decode cX8_heaviest 75 = .ok (.iinc 2 1, 3) := by decide +kernel
theorem dX8_heaviest_78 : decode cX8_heaviest 78 = .ok (.goto (-73), 3) := by decide +kernel
theorem dX8_heaviest_81 : decode cX8_heaviest 81 = .ok (.iload_n 1, 1) := by decide +kernel
theorem dX8_heaviest_82 : decode cX8_heaviest 82 = .ok (.ireturn, 1) := by decide +kernel
theorem dX8_layTaken_0 : decode cX8_layTaken 0 = .ok (.aload_n 0, 1) := by decide +kernel
theorem dX8_layTaken_1 : decode cX8_layTaken 1 = .ok (.invokevirtual 181, 3) := by decide +kernel
theorem dX8_layTaken_4 : decode cX8_layTaken 4 = .ok (.aload_n 0, 1) := by decide +kernel
theorem dX8_layTaken_5 : decode cX8_layTaken 5 = .ok (.iconst 0, 1) := by decide +kernel
theorem dX8_layTaken_6 : decode cX8_layTaken 6 = .ok (.putfield 184, 3) := by decide +kernel
theorem dX8_layTaken_9 : decode cX8_layTaken 9 = .ok (.iconst 0, 1) := by decide +kernel
theorem dX8_layTaken_10 : decode cX8_layTaken 10 = .ok (.istore_n 1, 1) := by decide +kernel
theorem dX8_layTaken_11 : decode cX8_layTaken 11 = .ok (.iload_n 1, 1) := by decide +kernel
theorem dX8_layTaken_12 : decode cX8_layTaken 12 = .ok (.bipush 49, 2) := by decide +kernel
theorem dX8_layTaken_14 : decode cX8_layTaken 14 = .ok (.if_icmp .ge 23, 3) := by decide +kernel
theorem dX8_layTaken_17 : decode cX8_layTaken 17 = .ok (.aload_n 0, 1) := by decide +kernel
theorem dX8_layTaken_18 : decode cX8_layTaken 18 = .ok (.getfield 65, 3) := by decide +kernel
theorem dX8_layTaken_21 : decode cX8_layTaken 21 = .ok (.iload_n 1, 1) := by decide +kernel
theorem dX8_layTaken_22 : decode cX8_layTaken 22 = .ok (.iconst 0, 1) := by decide +kernel
theorem dX8_layTaken_23 : decode cX8_layTaken 23 = .ok (.bastore, 1) := by decide +kernel
theorem dX8_layTaken_24 : decode cX8_layTaken 24 = .ok (.aload_n 0, 1) := by decide +kernel
theorem dX8_layTaken_25 : decode cX8_layTaken 25 = .ok (.getfield 68, 3) := by decide +kernel
theorem dX8_layTaken_28 : decode cX8_layTaken 28 = .ok (.iload_n 1, 1) := by decide +kernel
theorem dX8_layTaken_29 : decode cX8_layTaken 29 = .ok (.iconst 0, 1) := by decide +kernel
theorem dX8_layTaken_30 : decode cX8_layTaken 30 = .ok (.bastore, 1) := by decide +kernel
theorem dX8_layTaken_31 : decode cX8_layTaken 31 = .ok (.iinc 1 1, 3) := by decide +kernel
theorem dX8_layTaken_34 : decode cX8_layTaken 34 = .ok (.goto (-23), 3) := by decide +kernel
theorem dX8_layTaken_37 : decode cX8_layTaken 37 = .ok (.iconst 0, 1) := by decide +kernel
theorem dX8_layTaken_38 : decode cX8_layTaken 38 = .ok (.istore_n 1, 1) := by decide +kernel
theorem dX8_layTaken_39 : decode cX8_layTaken 39 = .ok (.iload_n 1, 1) := by decide +kernel
theorem dX8_layTaken_40 : decode cX8_layTaken 40 = .ok (.bipush 7, 2) := by decide +kernel
theorem dX8_layTaken_42 : decode cX8_layTaken 42 = .ok (.if_icmp .ge 23, 3) := by decide +kernel
theorem dX8_layTaken_45 : decode cX8_layTaken 45 = .ok (.aload_n 0, 1) := by decide +kernel
theorem dX8_layTaken_46 : decode cX8_layTaken 46 = .ok (.getfield 71, 3) := by decide +kernel
theorem dX8_layTaken_49 : decode cX8_layTaken 49 = .ok (.iload_n 1, 1) := by decide +kernel
theorem dX8_layTaken_50 : decode cX8_layTaken 50 = .ok (.iconst 0, 1) := by decide +kernel
theorem dX8_layTaken_51 : decode cX8_layTaken 51 = .ok (.iastore, 1) := by decide +kernel
theorem dX8_layTaken_52 : decode cX8_layTaken 52 = .ok (.aload_n 0, 1) := by decide +kernel
theorem dX8_layTaken_53 : decode cX8_layTaken 53 = .ok (.getfield 74, 3) := by decide +kernel
theorem dX8_layTaken_56 : decode cX8_layTaken 56 = .ok (.iload_n 1, 1) := by decide +kernel
theorem dX8_layTaken_57 : decode cX8_layTaken 57 = .ok (.iload_n 1, 1) := by decide +kernel
theorem dX8_layTaken_58 : decode cX8_layTaken 58 = .ok (.iastore, 1) := by decide +kernel
theorem dX8_layTaken_59 : decode cX8_layTaken 59 = .ok (.iinc 1 1, 3) := by decide +kernel
theorem dX8_layTaken_62 : decode cX8_layTaken 62 = .ok (.goto (-23), 3) := by decide +kernel
theorem dX8_layTaken_65 : decode cX8_layTaken 65 = .ok (.aload_n 0, 1) := by decide +kernel
theorem dX8_layTaken_66 : decode cX8_layTaken 66 = .ok (.invokevirtual 187, 3) := by decide +kernel
theorem dX8_layTaken_69 : decode cX8_layTaken 69 = .ok (.istore_n 1, 1) := by decide +kernel
theorem dX8_layTaken_70 : decode cX8_layTaken 70 = .ok (.iload_n 1, 1) := by decide +kernel
theorem dX8_layTaken_71 : decode cX8_layTaken 71 = .ok (.ifCond .lt 159, 3) := by decide +kernel
theorem dX8_layTaken_74 : decode cX8_layTaken 74 = .ok (.aload_n 0, 1) := by decide +kernel
theorem dX8_layTaken_75 : decode cX8_layTaken 75 = .ok (.getfield 68, 3) := by decide +kernel
theorem dX8_layTaken_78 : decode cX8_layTaken 78 = .ok (.iload_n 1, 1) := by decide +kernel
theorem dX8_layTaken_79 : decode cX8_layTaken 79 = .ok (.iconst 1, 1) := by decide +kernel
theorem dX8_layTaken_80 : decode cX8_layTaken 80 = .ok (.bastore, 1) := by decide +kernel
theorem dX8_layTaken_81 : decode cX8_layTaken 81 = .ok (.iload_n 1, 1) := by decide +kernel
theorem dX8_layTaken_82 : decode cX8_layTaken 82 = .ok (.bipush 7, 2) := by decide +kernel
theorem dX8_layTaken_84 : decode cX8_layTaken 84 = .ok (.idiv, 1) := by decide +kernel
theorem dX8_layTaken_85 : decode cX8_layTaken 85 = .ok (.istore_n 2, 1) := by decide +kernel
theorem dX8_layTaken_86 : decode cX8_layTaken 86 = .ok (.iload_n 1, 1) := by decide +kernel
theorem dX8_layTaken_87 : decode cX8_layTaken 87 = .ok (.bipush 7, 2) := by decide +kernel
theorem dX8_layTaken_89 : decode cX8_layTaken 89 = .ok (.irem, 1) := by decide +kernel
theorem dX8_layTaken_90 : decode cX8_layTaken 90 = .ok (.istore_n 3, 1) := by decide +kernel
theorem dX8_layTaken_91 : decode cX8_layTaken 91 = .ok (.aload_n 0, 1) := by decide +kernel
theorem dX8_layTaken_92 : decode cX8_layTaken 92 = .ok (.getfield 71, 3) := by decide +kernel
theorem dX8_layTaken_95 : decode cX8_layTaken 95 = .ok (.iload_n 2, 1) := by decide +kernel
theorem dX8_layTaken_96 : decode cX8_layTaken 96 = .ok (.iaload, 1) := by decide +kernel
theorem dX8_layTaken_97 : decode cX8_layTaken 97 = .ok (.iconst 2, 1) := by decide +kernel
theorem dX8_layTaken_98 : decode cX8_layTaken 98 = .ok (.if_icmp .ge 124, 3) := by decide +kernel
theorem dX8_layTaken_101 : decode cX8_layTaken 101 = .ok (.aload_n 0, 1) := by decide +kernel
theorem dX8_layTaken_102 : decode cX8_layTaken 102 = .ok (.getfield 71, 3) := by decide +kernel
theorem dX8_layTaken_105 : decode cX8_layTaken 105 = .ok (.iload_n 3, 1) := by decide +kernel
theorem dX8_layTaken_106 : decode cX8_layTaken 106 = .ok (.iaload, 1) := by decide +kernel
theorem dX8_layTaken_107 : decode cX8_layTaken 107 = .ok (.iconst 2, 1) := by decide +kernel
theorem dX8_layTaken_108 : decode cX8_layTaken 108 = .ok (.if_icmp .ge 114, 3) := by decide +kernel
theorem dX8_layTaken_111 : decode cX8_layTaken 111 = .ok (.aload_n 0, 1) := by decide +kernel
theorem dX8_layTaken_112 : decode cX8_layTaken 112 = .ok (.getfield 74, 3) := by decide +kernel
theorem dX8_layTaken_115 : decode cX8_layTaken 115 = .ok (.iload_n 2, 1) := by decide +kernel
theorem dX8_layTaken_116 : decode cX8_layTaken 116 = .ok (.iaload, 1) := by decide +kernel
theorem dX8_layTaken_117 : decode cX8_layTaken 117 = .ok (.aload_n 0, 1) := by decide +kernel
theorem dX8_layTaken_118 : decode cX8_layTaken 118 = .ok (.getfield 74, 3) := by decide +kernel
theorem dX8_layTaken_121 : decode cX8_layTaken 121 = .ok (.iload_n 3, 1) := by decide +kernel
theorem dX8_layTaken_122 : decode cX8_layTaken 122 = .ok (.iaload, 1) := by decide +kernel
theorem dX8_layTaken_123 : decode cX8_layTaken 123 = .ok (.if_icmp .eq 99, 3) := by decide +kernel
theorem dX8_layTaken_126 : decode cX8_layTaken 126 = .ok (.aload_n 0, 1) := by decide +kernel
theorem dX8_layTaken_127 : decode cX8_layTaken 127 = .ok (.getfield 65, 3) := by decide +kernel
theorem dX8_layTaken_130 : decode cX8_layTaken 130 = .ok (.iload_n 1, 1) := by decide +kernel
theorem dX8_layTaken_131 : decode cX8_layTaken 131 = .ok (.iconst 1, 1) := by decide +kernel
theorem dX8_layTaken_132 : decode cX8_layTaken 132 = .ok (.bastore, 1) := by decide +kernel
theorem dX8_layTaken_133 : decode cX8_layTaken 133 = .ok (.aload_n 0, 1) := by decide +kernel
theorem dX8_layTaken_134 : decode cX8_layTaken 134 = .ok (.dup, 1) := by decide +kernel
theorem dX8_layTaken_135 : decode cX8_layTaken 135 = .ok (.getfield 184, 3) := by decide +kernel
theorem dX8_layTaken_138 : decode cX8_layTaken 138 = .ok (.iconst 1, 1) := by decide +kernel
theorem dX8_layTaken_139 : decode cX8_layTaken 139 = .ok (.iadd, 1) := by decide +kernel
theorem dX8_layTaken_140 : decode cX8_layTaken 140 = .ok (.putfield 184, 3) := by decide +kernel
theorem dX8_layTaken_143 : decode cX8_layTaken 143 = .ok (.aload_n 0, 1) := by decide +kernel
theorem dX8_layTaken_144 : decode cX8_layTaken 144 = .ok (.getfield 71, 3) := by decide +kernel
theorem dX8_layTaken_147 : decode cX8_layTaken 147 = .ok (.iload_n 2, 1) := by decide +kernel
theorem dX8_layTaken_148 : decode cX8_layTaken 148 = .ok (.dup2, 1) := by decide +kernel
theorem dX8_layTaken_149 : decode cX8_layTaken 149 = .ok (.iaload, 1) := by decide +kernel
theorem dX8_layTaken_150 : decode cX8_layTaken 150 = .ok (.iconst 1, 1) := by decide +kernel
theorem dX8_layTaken_151 : decode cX8_layTaken 151 = .ok (.iadd, 1) := by decide +kernel
theorem dX8_layTaken_152 : decode cX8_layTaken 152 = .ok (.iastore, 1) := by decide +kernel
theorem dX8_layTaken_153 : decode cX8_layTaken 153 = .ok (.aload_n 0, 1) := by decide +kernel
theorem dX8_layTaken_154 : decode cX8_layTaken 154 = .ok (.getfield 71, 3) := by decide +kernel
theorem dX8_layTaken_157 : decode cX8_layTaken 157 = .ok (.iload_n 3, 1) := by decide +kernel
theorem dX8_layTaken_158 : decode cX8_layTaken 158 = .ok (.dup2, 1) := by decide +kernel
theorem dX8_layTaken_159 : decode cX8_layTaken 159 = .ok (.iaload, 1) := by decide +kernel
theorem dX8_layTaken_160 : decode cX8_layTaken 160 = .ok (.iconst 1, 1) := by decide +kernel
theorem dX8_layTaken_161 : decode cX8_layTaken 161 = .ok (.iadd, 1) := by decide +kernel
theorem dX8_layTaken_162 : decode cX8_layTaken 162 = .ok (.iastore, 1) := by decide +kernel
theorem dX8_layTaken_163 : decode cX8_layTaken 163 = .ok (.aload_n 0, 1) := by decide +kernel
theorem dX8_layTaken_164 : decode cX8_layTaken 164 = .ok (.getfield 74, 3) := by decide +kernel
theorem dX8_layTaken_167 : decode cX8_layTaken 167 = .ok (.iload_n 3, 1) := by decide +kernel
theorem dX8_layTaken_168 : decode cX8_layTaken 168 = .ok (.iaload, 1) := by decide +kernel
theorem dX8_layTaken_169 : decode cX8_layTaken 169 = .ok (.istore 4, 2) := by decide +kernel
theorem dX8_layTaken_171 : decode cX8_layTaken 171 = .ok (.iconst 0, 1) := by decide +kernel
theorem dX8_layTaken_172 : decode cX8_layTaken 172 = .ok (.istore 5, 2) := by decide +kernel
theorem dX8_layTaken_174 : decode cX8_layTaken 174 = .ok (.iload 5, 2) := by decide +kernel
theorem dX8_layTaken_176 : decode cX8_layTaken 176 = .ok (.bipush 7, 2) := by decide +kernel
theorem dX8_layTaken_178 : decode cX8_layTaken 178 = .ok (.if_icmp .ge 44, 3) := by decide +kernel
theorem dX8_layTaken_181 : decode cX8_layTaken 181 = .ok (.aload_n 0, 1) := by decide +kernel
theorem dX8_layTaken_182 : decode cX8_layTaken 182 = .ok (.getfield 74, 3) := by decide +kernel
theorem dX8_layTaken_185 : decode cX8_layTaken 185 = .ok (.iload 5, 2) := by decide +kernel
theorem dX8_layTaken_187 : decode cX8_layTaken 187 = .ok (.aload_n 0, 1) := by decide +kernel
theorem dX8_layTaken_188 : decode cX8_layTaken 188 = .ok (.getfield 74, 3) := by decide +kernel
theorem dX8_layTaken_191 : decode cX8_layTaken 191 = .ok (.iload 5, 2) := by decide +kernel
theorem dX8_layTaken_193 : decode cX8_layTaken 193 = .ok (.iaload, 1) := by decide +kernel
theorem dX8_layTaken_194 : decode cX8_layTaken 194 = .ok (.iload 4, 2) := by decide +kernel
theorem dX8_layTaken_196 : decode cX8_layTaken 196 = .ok (.if_icmp .ne 12, 3) := by decide +kernel
theorem dX8_layTaken_199 : decode cX8_layTaken 199 = .ok (.aload_n 0, 1) := by decide +kernel
theorem dX8_layTaken_200 : decode cX8_layTaken 200 = .ok (.getfield 74, 3) := by decide +kernel
theorem dX8_layTaken_203 : decode cX8_layTaken 203 = .ok (.iload_n 2, 1) := by decide +kernel
theorem dX8_layTaken_204 : decode cX8_layTaken 204 = .ok (.iaload, 1) := by decide +kernel
theorem dX8_layTaken_205 : decode cX8_layTaken 205 = .ok (.goto 10, 3) := by decide +kernel
theorem dX8_layTaken_208 : decode cX8_layTaken 208 = .ok (.aload_n 0, 1) := by decide +kernel
theorem dX8_layTaken_209 : decode cX8_layTaken 209 = .ok (.getfield 74, 3) := by decide +kernel
theorem dX8_layTaken_212 : decode cX8_layTaken 212 = .ok (.iload 5, 2) := by decide +kernel
theorem dX8_layTaken_214 : decode cX8_layTaken 214 = .ok (.iaload, 1) := by decide +kernel
theorem dX8_layTaken_215 : decode cX8_layTaken 215 = .ok (.iastore, 1) := by decide +kernel
theorem dX8_layTaken_216 : decode cX8_layTaken 216 = .ok (.iinc 5 1, 3) := by decide +kernel
theorem dX8_layTaken_219 : decode cX8_layTaken 219 = .ok (.goto (-45), 3) := by decide +kernel
theorem dX8_layTaken_222 : decode cX8_layTaken 222 = .ok (.aload_n 0, 1) := by decide +kernel
theorem dX8_layTaken_223 : decode cX8_layTaken 223 = .ok (.invokevirtual 187, 3) := by decide +kernel
theorem dX8_layTaken_226 : decode cX8_layTaken 226 = .ok (.istore_n 1, 1) := by decide +kernel
theorem dX8_layTaken_227 : decode cX8_layTaken 227 = .ok (.goto (-157), 3) := by decide +kernel
theorem dX8_layTaken_230 : decode cX8_layTaken 230 = .ok (.return_, 1) := by decide +kernel
theorem dX8_taken_0 : decode cX8_taken 0 = .ok (.iload_n 1, 1) := by decide +kernel
theorem dX8_taken_1 : decode cX8_taken 1 = .ok (.invokestatic 91, 3) := by decide +kernel
theorem dX8_taken_4 : decode cX8_taken 4 = .ok (.ifCond .eq 10, 3) := by decide +kernel
theorem dX8_taken_7 : decode cX8_taken 7 = .ok (.iload_n 2, 1) := by decide +kernel
theorem dX8_taken_8 : decode cX8_taken 8 = .ok (.invokestatic 91, 3) := by decide +kernel
theorem dX8_taken_11 : decode cX8_taken 11 = .ok (.ifCond .ne 5, 3) := by decide +kernel
theorem dX8_taken_14 : decode cX8_taken 14 = .ok (.iconst (-1), 1) := by decide +kernel
theorem dX8_taken_15 : decode cX8_taken 15 = .ok (.ireturn, 1) := by decide +kernel
theorem dX8_taken_16 : decode cX8_taken 16 = .ok (.aload_n 0, 1) := by decide +kernel
theorem dX8_taken_17 : decode cX8_taken 17 = .ok (.invokevirtual 190, 3) := by decide +kernel
theorem dX8_taken_20 : decode cX8_taken 20 = .ok (.aload_n 0, 1) := by decide +kernel
theorem dX8_taken_21 : decode cX8_taken 21 = .ok (.getfield 65, 3) := by decide +kernel
theorem dX8_taken_24 : decode cX8_taken 24 = .ok (.bipush 7, 2) := by decide +kernel
theorem dX8_taken_26 : decode cX8_taken 26 = .ok (.iload_n 1, 1) := by decide +kernel
theorem dX8_taken_27 : decode cX8_taken 27 = .ok (.imul, 1) := by decide +kernel
theorem dX8_taken_28 : decode cX8_taken 28 = .ok (.iload_n 2, 1) := by decide +kernel
theorem dX8_taken_29 : decode cX8_taken 29 = .ok (.iadd, 1) := by decide +kernel
theorem dX8_taken_30 : decode cX8_taken 30 = .ok (.baload, 1) := by decide +kernel
theorem dX8_taken_31 : decode cX8_taken 31 = .ok (.ifCond .ne 17, 3) := by decide +kernel
theorem dX8_taken_34 : decode cX8_taken 34 = .ok (.aload_n 0, 1) := by decide +kernel
theorem dX8_taken_35 : decode cX8_taken 35 = .ok (.getfield 65, 3) := by decide +kernel
theorem dX8_taken_38 : decode cX8_taken 38 = .ok (.bipush 7, 2) := by decide +kernel
theorem dX8_taken_40 : decode cX8_taken 40 = .ok (.iload_n 2, 1) := by decide +kernel
theorem dX8_taken_41 : decode cX8_taken 41 = .ok (.imul, 1) := by decide +kernel
theorem dX8_taken_42 : decode cX8_taken 42 = .ok (.iload_n 1, 1) := by decide +kernel
theorem dX8_taken_43 : decode cX8_taken 43 = .ok (.iadd, 1) := by decide +kernel
theorem dX8_taken_44 : decode cX8_taken 44 = .ok (.baload, 1) := by decide +kernel
theorem dX8_taken_45 : decode cX8_taken 45 = .ok (.ifCond .eq 7, 3) := by decide +kernel
theorem dX8_taken_48 : decode cX8_taken 48 = .ok (.iconst 1, 1) := by decide +kernel
theorem dX8_taken_49 : decode cX8_taken 49 = .ok (.goto 4, 3) := by decide +kernel
theorem dX8_taken_52 : decode cX8_taken 52 = .ok (.iconst 0, 1) := by decide +kernel
theorem dX8_taken_53 : decode cX8_taken 53 = .ok (.ireturn, 1) := by decide +kernel
theorem dX8_greedyCost_0 : decode cX8_greedyCost 0 = .ok (.aload_n 0, 1) := by decide +kernel
theorem dX8_greedyCost_1 : decode cX8_greedyCost 1 = .ok (.invokevirtual 190, 3) := by decide +kernel
theorem dX8_greedyCost_4 : decode cX8_greedyCost 4 = .ok (.aload_n 0, 1) := by decide +kernel
theorem dX8_greedyCost_5 : decode cX8_greedyCost 5 = .ok (.invokevirtual 142, 3) := by decide +kernel
theorem dX8_greedyCost_8 : decode cX8_greedyCost 8 = .ok (.ifCond .eq 7, 3) := by decide +kernel
theorem dX8_greedyCost_11 : decode cX8_greedyCost 11 = .ok (.iconst 1, 1) := by decide +kernel
theorem dX8_greedyCost_12 : decode cX8_greedyCost 12 = .ok (.goto 4, 3) := by decide +kernel
theorem dX8_greedyCost_15 : decode cX8_greedyCost 15 = .ok (.iconst 0, 1) := by decide +kernel
theorem dX8_greedyCost_16 : decode cX8_greedyCost 16 = .ok (.istore_n 1, 1) := by decide +kernel
theorem dX8_greedyCost_17 : decode cX8_greedyCost 17 = .ok (.iconst 0, 1) := by decide +kernel
theorem dX8_greedyCost_18 : decode cX8_greedyCost 18 = .ok (.istore_n 2, 1) := by decide +kernel
theorem dX8_greedyCost_19 : decode cX8_greedyCost 19 = .ok (.iload_n 2, 1) := by decide +kernel
theorem dX8_greedyCost_20 : decode cX8_greedyCost 20 = .ok (.bipush 49, 2) := by decide +kernel
theorem dX8_greedyCost_22 : decode cX8_greedyCost 22 = .ok (.if_icmp .ge 42, 3) := by decide +kernel
theorem dX8_greedyCost_25 : decode cX8_greedyCost 25 = .ok (.iload_n 1, 1) := by decide +kernel
theorem dX8_greedyCost_26 : decode cX8_greedyCost 26 = .ok (.iload_n 2, 1) := by decide +kernel
theorem dX8_greedyCost_27 : decode cX8_greedyCost 27 = .ok (.bipush 7, 2) := by decide +kernel
theorem dX8_greedyCost_29 : decode cX8_greedyCost 29 = .ok (.idiv, 1) := by decide +kernel
theorem dX8_greedyCost_30 : decode cX8_greedyCost 30 = .ok (.iload_n 2, 1) := by decide +kernel
theorem dX8_greedyCost_31 : decode cX8_greedyCost 31 = .ok (.bipush 7, 2) := by decide +kernel
theorem dX8_greedyCost_33 : decode cX8_greedyCost 33 = .ok (.irem, 1) := by decide +kernel
theorem dX8_greedyCost_34 : decode cX8_greedyCost 34 = .ok (.if_icmp .ge 21, 3) := by decide +kernel
theorem dX8_greedyCost_37 : decode cX8_greedyCost 37 = .ok (.aload_n 0, 1) := by decide +kernel
theorem dX8_greedyCost_38 : decode cX8_greedyCost 38 = .ok (.getfield 65, 3) := by decide +kernel
theorem dX8_greedyCost_41 : decode cX8_greedyCost 41 = .ok (.iload_n 2, 1) := by decide +kernel
theorem dX8_greedyCost_42 : decode cX8_greedyCost 42 = .ok (.baload, 1) := by decide +kernel
theorem dX8_greedyCost_43 : decode cX8_greedyCost 43 = .ok (.ifCond .ne 12, 3) := by decide +kernel
theorem dX8_greedyCost_46 : decode cX8_greedyCost 46 = .ok (.aload_n 0, 1) := by decide +kernel
theorem dX8_greedyCost_47 : decode cX8_greedyCost 47 = .ok (.getfield 62, 3) := by decide +kernel
theorem dX8_greedyCost_50 : decode cX8_greedyCost 50 = .ok (.iload_n 2, 1) := by decide +kernel
theorem dX8_greedyCost_51 : decode cX8_greedyCost 51 = .ok (.iaload, 1) := by decide +kernel
theorem dX8_greedyCost_52 : decode cX8_greedyCost 52 = .ok (.goto 4, 3) := by decide +kernel
theorem dX8_greedyCost_55 : decode cX8_greedyCost 55 = .ok (.iconst 0, 1) := by decide +kernel
theorem dX8_greedyCost_56 : decode cX8_greedyCost 56 = .ok (.iadd, 1) := by decide +kernel
theorem dX8_greedyCost_57 : decode cX8_greedyCost 57 = .ok (.istore_n 1, 1) := by decide +kernel
theorem dX8_greedyCost_58 : decode cX8_greedyCost 58 = .ok (.iinc 2 1, 3) := by decide +kernel
theorem dX8_greedyCost_61 : decode cX8_greedyCost 61 = .ok (.goto (-42), 3) := by decide +kernel
theorem dX8_greedyCost_64 : decode cX8_greedyCost 64 = .ok (.iload_n 1, 1) := by decide +kernel
theorem dX8_greedyCost_65 : decode cX8_greedyCost 65 = .ok (.ireturn, 1) := by decide +kernel
theorem dX8_bound_0 : decode cX8_bound 0 = .ok (.aload_n 0, 1) := by decide +kernel
theorem dX8_bound_1 : decode cX8_bound 1 = .ok (.invokevirtual 181, 3) := by decide +kernel
theorem dX8_bound_4 : decode cX8_bound 4 = .ok (.aload_n 0, 1) := by decide +kernel
theorem dX8_bound_5 : decode cX8_bound 5 = .ok (.invokevirtual 142, 3) := by decide +kernel
theorem dX8_bound_8 : decode cX8_bound 8 = .ok (.invokestatic 153, 3) := by decide +kernel
theorem dX8_bound_11 : decode cX8_bound 11 = .ok (.istore_n 1, 1) := by decide +kernel
theorem dX8_bound_12 : decode cX8_bound 12 = .ok (.iload_n 1, 1) := by decide +kernel
theorem dX8_bound_13 : decode cX8_bound 13 = .ok (.ifCond .le 7, 3) := by decide +kernel
theorem dX8_bound_16 : decode cX8_bound 16 = .ok (.iconst 1, 1) := by decide +kernel
theorem dX8_bound_17 : decode cX8_bound 17 = .ok (.goto 4, 3) := by decide +kernel
theorem dX8_bound_20 : decode cX8_bound 20 = .ok (.iconst 0, 1) := by decide +kernel
theorem dX8_bound_21 : decode cX8_bound 21 = .ok (.istore_n 2, 1) := by decide +kernel
theorem dX8_bound_22 : decode cX8_bound 22 = .ok (.iconst 0, 1) := by decide +kernel
theorem dX8_bound_23 : decode cX8_bound 23 = .ok (.istore_n 3, 1) := by decide +kernel
theorem dX8_bound_24 : decode cX8_bound 24 = .ok (.iload_n 3, 1) := by decide +kernel
theorem dX8_bound_25 : decode cX8_bound 25 = .ok (.bipush 49, 2) := by decide +kernel
theorem dX8_bound_27 : decode cX8_bound 27 = .ok (.if_icmp .ge 40, 3) := by decide +kernel
theorem dX8_bound_30 : decode cX8_bound 30 = .ok (.aload_n 0, 1) := by decide +kernel
theorem dX8_bound_31 : decode cX8_bound 31 = .ok (.getfield 68, 3) := by decide +kernel
theorem dX8_bound_34 : decode cX8_bound 34 = .ok (.iload_n 3, 1) := by decide +kernel
theorem dX8_bound_35 : decode cX8_bound 35 = .ok (.iconst 0, 1) := by decide +kernel
theorem dX8_bound_36 : decode cX8_bound 36 = .ok (.bastore, 1) := by decide +kernel
theorem dX8_bound_37 : decode cX8_bound 37 = .ok (.iload_n 2, 1) := by decide +kernel
theorem dX8_bound_38 : decode cX8_bound 38 = .ok (.iload_n 3, 1) := by decide +kernel
theorem dX8_bound_39 : decode cX8_bound 39 = .ok (.bipush 7, 2) := by decide +kernel
theorem dX8_bound_41 : decode cX8_bound 41 = .ok (.idiv, 1) := by decide +kernel
theorem dX8_bound_42 : decode cX8_bound 42 = .ok (.iload_n 3, 1) := by decide +kernel
theorem dX8_bound_43 : decode cX8_bound 43 = .ok (.bipush 7, 2) := by decide +kernel
theorem dX8_bound_45 : decode cX8_bound 45 = .ok (.irem, 1) := by decide +kernel
theorem dX8_bound_46 : decode cX8_bound 46 = .ok (.if_icmp .ge 12, 3) := by decide +kernel
theorem dX8_bound_49 : decode cX8_bound 49 = .ok (.aload_n 0, 1) := by decide +kernel
theorem dX8_bound_50 : decode cX8_bound 50 = .ok (.getfield 62, 3) := by decide +kernel
theorem dX8_bound_53 : decode cX8_bound 53 = .ok (.iload_n 3, 1) := by decide +kernel
theorem dX8_bound_54 : decode cX8_bound 54 = .ok (.iaload, 1) := by decide +kernel
theorem dX8_bound_55 : decode cX8_bound 55 = .ok (.goto 4, 3) := by decide +kernel
theorem dX8_bound_58 : decode cX8_bound 58 = .ok (.iconst 0, 1) := by decide +kernel
theorem dX8_bound_59 : decode cX8_bound 59 = .ok (.iadd, 1) := by decide +kernel
theorem dX8_bound_60 : decode cX8_bound 60 = .ok (.istore_n 2, 1) := by decide +kernel
theorem dX8_bound_61 : decode cX8_bound 61 = .ok (.iinc 3 1, 3) := by decide +kernel
theorem dX8_bound_64 : decode cX8_bound 64 = .ok (.goto (-40), 3) := by decide +kernel
theorem dX8_bound_67 : decode cX8_bound 67 = .ok (.iconst 1, 1) := by decide +kernel
theorem dX8_bound_68 : decode cX8_bound 68 = .ok (.istore_n 3, 1) := by decide +kernel
theorem dX8_bound_69 : decode cX8_bound 69 = .ok (.iload_n 3, 1) := by decide +kernel
theorem dX8_bound_70 : decode cX8_bound 70 = .ok (.iload_n 1, 1) := by decide +kernel
theorem dX8_bound_71 : decode cX8_bound 71 = .ok (.if_icmp .ge 38, 3) := by decide +kernel
theorem dX8_bound_74 : decode cX8_bound 74 = .ok (.aload_n 0, 1) := by decide +kernel
theorem dX8_bound_75 : decode cX8_bound 75 = .ok (.invokevirtual 187, 3) := by decide +kernel
theorem dX8_bound_78 : decode cX8_bound 78 = .ok (.istore 4, 2) := by decide +kernel
theorem dX8_bound_80 : decode cX8_bound 80 = .ok (.iload 4, 2) := by decide +kernel
theorem dX8_bound_82 : decode cX8_bound 82 = .ok (.ifCond .lt 21, 3) := by decide +kernel
theorem dX8_bound_85 : decode cX8_bound 85 = .ok (.aload_n 0, 1) := by decide +kernel
theorem dX8_bound_86 : decode cX8_bound 86 = .ok (.getfield 68, 3) := by decide +kernel
theorem dX8_bound_89 : decode cX8_bound 89 = .ok (.iload 4, 2) := by decide +kernel
theorem dX8_bound_91 : decode cX8_bound 91 = .ok (.iconst 1, 1) := by decide +kernel
theorem dX8_bound_92 : decode cX8_bound 92 = .ok (.bastore, 1) := by decide +kernel
theorem dX8_bound_93 : decode cX8_bound 93 = .ok (.iload_n 2, 1) := by decide +kernel
theorem dX8_bound_94 : decode cX8_bound 94 = .ok (.aload_n 0, 1) := by decide +kernel
theorem dX8_bound_95 : decode cX8_bound 95 = .ok (.getfield 62, 3) := by decide +kernel
theorem dX8_bound_98 : decode cX8_bound 98 = .ok (.iload 4, 2) := by decide +kernel
theorem dX8_bound_100 : decode cX8_bound 100 = .ok (.iaload, 1) := by decide +kernel
theorem dX8_bound_101 : decode cX8_bound 101 = .ok (.isub, 1) := by decide +kernel
theorem dX8_bound_102 : decode cX8_bound 102 = .ok (.istore_n 2, 1) := by decide +kernel
theorem dX8_bound_103 : decode cX8_bound 103 = .ok (.iinc 3 1, 3) := by decide +kernel
theorem dX8_bound_106 : decode cX8_bound 106 = .ok (.goto (-37), 3) := by decide +kernel
theorem dX8_bound_109 : decode cX8_bound 109 = .ok (.iload_n 2, 1) := by decide +kernel
theorem dX8_bound_110 : decode cX8_bound 110 = .ok (.ireturn, 1) := by decide +kernel
theorem dX8_exchange_0 : decode cX8_exchange 0 = .ok (.iload_n 1, 1) := by decide +kernel
theorem dX8_exchange_1 : decode cX8_exchange 1 = .ok (.invokestatic 91, 3) := by decide +kernel
theorem dX8_exchange_4 : decode cX8_exchange 4 = .ok (.ifCond .eq 10, 3) := by decide +kernel
theorem dX8_exchange_7 : decode cX8_exchange 7 = .ok (.iload_n 2, 1) := by decide +kernel
theorem dX8_exchange_8 : decode cX8_exchange 8 = .ok (.invokestatic 91, 3) := by decide +kernel
theorem dX8_exchange_11 : decode cX8_exchange 11 = .ok (.ifCond .ne 5, 3) := by decide +kernel
theorem dX8_exchange_14 : decode cX8_exchange 14 = .ok (.iconst (-1), 1) := by decide +kernel
theorem dX8_exchange_15 : decode cX8_exchange 15 = .ok (.ireturn, 1) := by decide +kernel
theorem dX8_exchange_16 : decode cX8_exchange 16 = .ok (.aload_n 0, 1) := by decide +kernel
theorem dX8_exchange_17 : decode cX8_exchange 17 = .ok (.getfield 25, 3) := by decide +kernel
theorem dX8_exchange_20 : decode cX8_exchange 20 = .ok (.iload_n 1, 1) := by decide +kernel
theorem dX8_exchange_21 : decode cX8_exchange 21 = .ok (.iaload, 1) := by decide +kernel
theorem dX8_exchange_22 : decode cX8_exchange 22 = .ok (.istore_n 3, 1) := by decide +kernel
theorem dX8_exchange_23 : decode cX8_exchange 23 = .ok (.aload_n 0, 1) := by decide +kernel
theorem dX8_exchange_24 : decode cX8_exchange 24 = .ok (.getfield 25, 3) := by decide +kernel
theorem dX8_exchange_27 : decode cX8_exchange 27 = .ok (.iload_n 1, 1) := by decide +kernel
theorem dX8_exchange_28 : decode cX8_exchange 28 = .ok (.aload_n 0, 1) := by decide +kernel
theorem dX8_exchange_29 : decode cX8_exchange 29 = .ok (.getfield 25, 3) := by decide +kernel
theorem dX8_exchange_32 : decode cX8_exchange 32 = .ok (.iload_n 2, 1) := by decide +kernel
theorem dX8_exchange_33 : decode cX8_exchange 33 = .ok (.iaload, 1) := by decide +kernel
theorem dX8_exchange_34 : decode cX8_exchange 34 = .ok (.iastore, 1) := by decide +kernel
theorem dX8_exchange_35 : decode cX8_exchange 35 = .ok (.aload_n 0, 1) := by decide +kernel
theorem dX8_exchange_36 : decode cX8_exchange 36 = .ok (.getfield 25, 3) := by decide +kernel
theorem dX8_exchange_39 : decode cX8_exchange 39 = .ok (.iload_n 2, 1) := by decide +kernel
theorem dX8_exchange_40 : decode cX8_exchange 40 = .ok (.iload_n 3, 1) := by decide +kernel
theorem dX8_exchange_41 : decode cX8_exchange 41 = .ok (.iastore, 1) := by decide +kernel
theorem dX8_exchange_42 : decode cX8_exchange 42 = .ok (.aload_n 0, 1) := by decide +kernel
theorem dX8_exchange_43 : decode cX8_exchange 43 = .ok (.getfield 25, 3) := by decide +kernel
theorem dX8_exchange_46 : decode cX8_exchange 46 = .ok (.iload_n 1, 1) := by decide +kernel
theorem dX8_exchange_47 : decode cX8_exchange 47 = .ok (.iaload, 1) := by decide +kernel
theorem dX8_exchange_48 : decode cX8_exchange 48 = .ok (.ireturn, 1) := by decide +kernel
theorem dX8_hand_0 : decode cX8_hand 0 = .ok (.iload_n 1, 1) := by decide +kernel
theorem dX8_hand_1 : decode cX8_hand 1 = .ok (.iconst 0, 1) := by decide +kernel
theorem dX8_hand_2 : decode cX8_hand 2 = .ok (.iconst 1, 1) := by decide +kernel
theorem dX8_hand_3 : decode cX8_hand 3 = .ok (.invokestatic 83, 3) := by decide +kernel
theorem dX8_hand_6 : decode cX8_hand 6 = .ok (.ifCond .ne 6, 3) := by decide +kernel
theorem dX8_hand_9 : decode cX8_hand 9 = .ok (.bipush (-2), 2) := by decide +kernel
theorem dX8_hand_11 : decode cX8_hand 11 = .ok (.ireturn, 1) := by decide +kernel
theorem dX8_hand_12 : decode cX8_hand 12 = .ok (.iconst 0, 1) := by decide +kernel
theorem dX8_hand_13 : decode cX8_hand 13 = .ok (.istore_n 2, 1) := by decide +kernel
theorem dX8_hand_14 : decode cX8_hand 14 = .ok (.iload_n 2, 1) := by decide +kernel
theorem dX8_hand_15 : decode cX8_hand 15 = .ok (.bipush 7, 2) := by decide +kernel
theorem dX8_hand_17 : decode cX8_hand 17 = .ok (.if_icmp .ge 21, 3) := by decide +kernel
theorem dX8_hand_20 : decode cX8_hand 20 = .ok (.aload_n 0, 1) := by decide +kernel
theorem dX8_hand_21 : decode cX8_hand 21 = .ok (.getfield 38, 3) := by decide +kernel
theorem dX8_hand_24 : decode cX8_hand 24 = .ok (.iload_n 2, 1) := by decide +kernel
theorem dX8_hand_25 : decode cX8_hand 25 = .ok (.aload_n 0, 1) := by decide +kernel
theorem dX8_hand_26 : decode cX8_hand 26 = .ok (.getfield 25, 3) := by decide +kernel
theorem dX8_hand_29 : decode cX8_hand 29 = .ok (.iload_n 2, 1) := by decide +kernel
theorem dX8_hand_30 : decode cX8_hand 30 = .ok (.iaload, 1) := by decide +kernel
theorem dX8_hand_31 : decode cX8_hand 31 = .ok (.iastore, 1) := by decide +kernel
theorem dX8_hand_32 : decode cX8_hand 32 = .ok (.iinc 2 1, 3) := by decide +kernel
theorem dX8_hand_35 : decode cX8_hand 35 = .ok (.goto (-21), 3) := by decide +kernel
theorem dX8_hand_38 : decode cX8_hand 38 = .ok (.aload_n 0, 1) := by decide +kernel
theorem dX8_hand_39 : decode cX8_hand 39 = .ok (.bipush 127, 2) := by decide +kernel
theorem dX8_hand_41 : decode cX8_hand 41 = .ok (.iload_n 1, 1) := by decide +kernel
theorem dX8_hand_42 : decode cX8_hand 42 = .ok (.invokevirtual 131, 3) := by decide +kernel
theorem dX8_hand_45 : decode cX8_hand 45 = .ok (.ireturn, 1) := by decide +kernel
theorem dX8_count_0 : decode cX8_count 0 = .ok (.iload_n 1, 1) := by decide +kernel
theorem dX8_count_1 : decode cX8_count 1 = .ok (.tableswitch 108 0 6 #[43, 48, 54, 59, 64, 73, 78], 43) := by decide +kernel
theorem dX8_count_44 : decode cX8_count 44 = .ok (.aload_n 0, 1) := by decide +kernel
theorem dX8_count_45 : decode cX8_count 45 = .ok (.getfield 87, 3) := by decide +kernel
theorem dX8_count_48 : decode cX8_count 48 = .ok (.ireturn, 1) := by decide +kernel
theorem dX8_count_49 : decode cX8_count 49 = .ok (.aload_n 0, 1) := by decide +kernel
theorem dX8_count_50 : decode cX8_count 50 = .ok (.iconst 0, 1) := by decide +kernel
theorem dX8_count_51 : decode cX8_count 51 = .ok (.invokevirtual 111, 3) := by decide +kernel
theorem dX8_count_54 : decode cX8_count 54 = .ok (.ireturn, 1) := by decide +kernel
theorem dX8_count_55 : decode cX8_count 55 = .ok (.aload_n 0, 1) := by decide +kernel
theorem dX8_count_56 : decode cX8_count 56 = .ok (.invokevirtual 142, 3) := by decide +kernel
theorem dX8_count_59 : decode cX8_count 59 = .ok (.ireturn, 1) := by decide +kernel
theorem dX8_count_60 : decode cX8_count 60 = .ok (.aload_n 0, 1) := by decide +kernel
theorem dX8_count_61 : decode cX8_count 61 = .ok (.invokevirtual 193, 3) := by decide +kernel
theorem dX8_count_64 : decode cX8_count 64 = .ok (.ireturn, 1) := by decide +kernel
theorem dX8_count_65 : decode cX8_count 65 = .ok (.aload_n 0, 1) := by decide +kernel
theorem dX8_count_66 : decode cX8_count 66 = .ok (.invokevirtual 190, 3) := by decide +kernel
theorem dX8_count_69 : decode cX8_count 69 = .ok (.aload_n 0, 1) := by decide +kernel
theorem dX8_count_70 : decode cX8_count 70 = .ok (.getfield 184, 3) := by decide +kernel
theorem dX8_count_73 : decode cX8_count 73 = .ok (.ireturn, 1) := by decide +kernel
theorem dX8_count_74 : decode cX8_count 74 = .ok (.aload_n 0, 1) := by decide +kernel
theorem dX8_count_75 : decode cX8_count 75 = .ok (.invokevirtual 196, 3) := by decide +kernel
theorem dX8_count_78 : decode cX8_count 78 = .ok (.ireturn, 1) := by decide +kernel
theorem dX8_count_79 : decode cX8_count 79 = .ok (.aload_n 0, 1) := by decide +kernel
theorem dX8_count_80 : decode cX8_count 80 = .ok (.getfield 80, 3) := by decide +kernel
theorem dX8_count_83 : decode cX8_count 83 = .ok (.iconst 0, 1) := by decide +kernel
theorem dX8_count_84 : decode cX8_count 84 = .ok (.baload, 1) := by decide +kernel
theorem dX8_count_85 : decode cX8_count 85 = .ok (.ifCond .eq 7, 3) := by decide +kernel
theorem dX8_count_88 : decode cX8_count 88 = .ok (.iconst 1, 1) := by decide +kernel
theorem dX8_count_89 : decode cX8_count 89 = .ok (.goto 4, 3) := by decide +kernel
theorem dX8_count_92 : decode cX8_count 92 = .ok (.iconst 0, 1) := by decide +kernel
theorem dX8_count_93 : decode cX8_count 93 = .ok (.aload_n 0, 1) := by decide +kernel
theorem dX8_count_94 : decode cX8_count 94 = .ok (.getfield 80, 3) := by decide +kernel
theorem dX8_count_97 : decode cX8_count 97 = .ok (.iconst 1, 1) := by decide +kernel
theorem dX8_count_98 : decode cX8_count 98 = .ok (.baload, 1) := by decide +kernel
theorem dX8_count_99 : decode cX8_count 99 = .ok (.ifCond .eq 7, 3) := by decide +kernel
theorem dX8_count_102 : decode cX8_count 102 = .ok (.iconst 2, 1) := by decide +kernel
theorem dX8_count_103 : decode cX8_count 103 = .ok (.goto 4, 3) := by decide +kernel
theorem dX8_count_106 : decode cX8_count 106 = .ok (.iconst 0, 1) := by decide +kernel
theorem dX8_count_107 : decode cX8_count 107 = .ok (.iadd, 1) := by decide +kernel
theorem dX8_count_108 : decode cX8_count 108 = .ok (.ireturn, 1) := by decide +kernel
theorem dX8_count_109 : decode cX8_count 109 = .ok (.iload_n 1, 1) := by decide +kernel
theorem dX8_count_110 : decode cX8_count 110 = .ok (.bipush 10, 2) := by decide +kernel
theorem dX8_count_112 : decode cX8_count 112 = .ok (.bipush 16, 2) := by decide +kernel
theorem dX8_count_114 : decode cX8_count 114 = .ok (.invokestatic 83, 3) := by decide +kernel
theorem dX8_count_117 : decode cX8_count 117 = .ok (.ifCond .eq 15, 3) := by decide +kernel
theorem dX8_count_120 : decode cX8_count 120 = .ok (.aload_n 0, 1) := by decide +kernel
theorem dX8_count_121 : decode cX8_count 121 = .ok (.getfield 25, 3) := by decide +kernel
theorem dX8_count_124 : decode cX8_count 124 = .ok (.iload_n 1, 1) := by decide +kernel
theorem dX8_count_125 : decode cX8_count 125 = .ok (.bipush 10, 2) := by decide +kernel
theorem dX8_count_127 : decode cX8_count 127 = .ok (.isub, 1) := by decide +kernel
theorem dX8_count_128 : decode cX8_count 128 = .ok (.iaload, 1) := by decide +kernel
theorem dX8_count_129 : decode cX8_count 129 = .ok (.goto 5, 3) := by decide +kernel
theorem dX8_count_132 : decode cX8_count 132 = .ok (.bipush (-2), 2) := by decide +kernel
theorem dX8_count_134 : decode cX8_count 134 = .ok (.ireturn, 1) := by decide +kernel
theorem dX8_image_0 : decode cX8_image 0 = .ok (.iload_n 1, 1) := by decide +kernel
theorem dX8_image_1 : decode cX8_image 1 = .ok (.iconst 0, 1) := by decide +kernel
theorem dX8_image_2 : decode cX8_image 2 = .ok (.iconst 1, 1) := by decide +kernel
theorem dX8_image_3 : decode cX8_image 3 = .ok (.invokestatic 83, 3) := by decide +kernel
theorem dX8_image_6 : decode cX8_image 6 = .ok (.ifCond .ne 6, 3) := by decide +kernel
theorem dX8_image_9 : decode cX8_image 9 = .ok (.bipush (-2), 2) := by decide +kernel
theorem dX8_image_11 : decode cX8_image 11 = .ok (.ireturn, 1) := by decide +kernel
theorem dX8_image_12 : decode cX8_image 12 = .ok (.bipush 62, 2) := by decide +kernel
theorem dX8_image_14 : decode cX8_image 14 = .ok (.iload_n 1, 1) := by decide +kernel
theorem dX8_image_15 : decode cX8_image 15 = .ok (.imul, 1) := by decide +kernel
theorem dX8_image_16 : decode cX8_image 16 = .ok (.istore_n 2, 1) := by decide +kernel
theorem dX8_image_17 : decode cX8_image 17 = .ok (.iconst 0, 1) := by decide +kernel
theorem dX8_image_18 : decode cX8_image 18 = .ok (.istore_n 3, 1) := by decide +kernel
theorem dX8_image_19 : decode cX8_image 19 = .ok (.iload_n 3, 1) := by decide +kernel
theorem dX8_image_20 : decode cX8_image 20 = .ok (.aload_n 0, 1) := by decide +kernel
theorem dX8_image_21 : decode cX8_image 21 = .ok (.getfield 87, 3) := by decide +kernel
theorem dX8_image_24 : decode cX8_image 24 = .ok (.if_icmp .ge 79, 3) := by decide +kernel
theorem dX8_image_27 : decode cX8_image 27 = .ok (.aload_n 0, 1) := by decide +kernel
theorem dX8_image_28 : decode cX8_image 28 = .ok (.getfield 77, 3) := by decide +kernel
theorem dX8_image_31 : decode cX8_image 31 = .ok (.iload_n 2, 1) := by decide +kernel
theorem dX8_image_32 : decode cX8_image 32 = .ok (.iconst 4, 1) := by decide +kernel
theorem dX8_image_33 : decode cX8_image 33 = .ok (.iload_n 3, 1) := by decide +kernel
theorem dX8_image_34 : decode cX8_image 34 = .ok (.imul, 1) := by decide +kernel
theorem dX8_image_35 : decode cX8_image 35 = .ok (.iadd, 1) := by decide +kernel
theorem dX8_image_36 : decode cX8_image 36 = .ok (.aload_n 0, 1) := by decide +kernel
theorem dX8_image_37 : decode cX8_image 37 = .ok (.getfield 7, 3) := by decide +kernel
theorem dX8_image_40 : decode cX8_image 40 = .ok (.iload_n 3, 1) := by decide +kernel
theorem dX8_image_41 : decode cX8_image 41 = .ok (.iaload, 1) := by decide +kernel
theorem dX8_image_42 : decode cX8_image 42 = .ok (.iastore, 1) := by decide +kernel
theorem dX8_image_43 : decode cX8_image 43 = .ok (.aload_n 0, 1) := by decide +kernel
theorem dX8_image_44 : decode cX8_image 44 = .ok (.getfield 77, 3) := by decide +kernel
theorem dX8_image_47 : decode cX8_image 47 = .ok (.iload_n 2, 1) := by decide +kernel
theorem dX8_image_48 : decode cX8_image 48 = .ok (.iconst 4, 1) := by decide +kernel
theorem dX8_image_49 : decode cX8_image 49 = .ok (.iload_n 3, 1) := by decide +kernel
theorem dX8_image_50 : decode cX8_image 50 = .ok (.imul, 1) := by decide +kernel
theorem dX8_image_51 : decode cX8_image 51 = .ok (.iadd, 1) := by decide +kernel
theorem dX8_image_52 : decode cX8_image 52 = .ok (.iconst 1, 1) := by decide +kernel
theorem dX8_image_53 : decode cX8_image 53 = .ok (.iadd, 1) := by decide +kernel
theorem dX8_image_54 : decode cX8_image 54 = .ok (.aload_n 0, 1) := by decide +kernel
theorem dX8_image_55 : decode cX8_image 55 = .ok (.getfield 13, 3) := by decide +kernel
theorem dX8_image_58 : decode cX8_image 58 = .ok (.iload_n 3, 1) := by decide +kernel
theorem dX8_image_59 : decode cX8_image 59 = .ok (.iaload, 1) := by decide +kernel
theorem dX8_image_60 : decode cX8_image 60 = .ok (.iastore, 1) := by decide +kernel
theorem dX8_image_61 : decode cX8_image 61 = .ok (.aload_n 0, 1) := by decide +kernel
theorem dX8_image_62 : decode cX8_image 62 = .ok (.getfield 77, 3) := by decide +kernel
theorem dX8_image_65 : decode cX8_image 65 = .ok (.iload_n 2, 1) := by decide +kernel
theorem dX8_image_66 : decode cX8_image 66 = .ok (.iconst 4, 1) := by decide +kernel
theorem dX8_image_67 : decode cX8_image 67 = .ok (.iload_n 3, 1) := by decide +kernel
theorem dX8_image_68 : decode cX8_image 68 = .ok (.imul, 1) := by decide +kernel
theorem dX8_image_69 : decode cX8_image 69 = .ok (.iadd, 1) := by decide +kernel
theorem dX8_image_70 : decode cX8_image 70 = .ok (.iconst 2, 1) := by decide +kernel
theorem dX8_image_71 : decode cX8_image 71 = .ok (.iadd, 1) := by decide +kernel
theorem dX8_image_72 : decode cX8_image 72 = .ok (.aload_n 0, 1) := by decide +kernel
theorem dX8_image_73 : decode cX8_image 73 = .ok (.getfield 16, 3) := by decide +kernel
theorem dX8_image_76 : decode cX8_image 76 = .ok (.iload_n 3, 1) := by decide +kernel
theorem dX8_image_77 : decode cX8_image 77 = .ok (.iaload, 1) := by decide +kernel
theorem dX8_image_78 : decode cX8_image 78 = .ok (.iastore, 1) := by decide +kernel
theorem dX8_image_79 : decode cX8_image 79 = .ok (.aload_n 0, 1) := by decide +kernel
theorem dX8_image_80 : decode cX8_image 80 = .ok (.getfield 77, 3) := by decide +kernel
theorem dX8_image_83 : decode cX8_image 83 = .ok (.iload_n 2, 1) := by decide +kernel
theorem dX8_image_84 : decode cX8_image 84 = .ok (.iconst 4, 1) := by decide +kernel
theorem dX8_image_85 : decode cX8_image 85 = .ok (.iload_n 3, 1) := by decide +kernel
theorem dX8_image_86 : decode cX8_image 86 = .ok (.imul, 1) := by decide +kernel
theorem dX8_image_87 : decode cX8_image 87 = .ok (.iadd, 1) := by decide +kernel
theorem dX8_image_88 : decode cX8_image 88 = .ok (.iconst 3, 1) := by decide +kernel
theorem dX8_image_89 : decode cX8_image 89 = .ok (.iadd, 1) := by decide +kernel
theorem dX8_image_90 : decode cX8_image 90 = .ok (.aload_n 0, 1) := by decide +kernel
theorem dX8_image_91 : decode cX8_image 91 = .ok (.getfield 19, 3) := by decide +kernel
theorem dX8_image_94 : decode cX8_image 94 = .ok (.iload_n 3, 1) := by decide +kernel
theorem dX8_image_95 : decode cX8_image 95 = .ok (.iaload, 1) := by decide +kernel
theorem dX8_image_96 : decode cX8_image 96 = .ok (.iastore, 1) := by decide +kernel
theorem dX8_image_97 : decode cX8_image 97 = .ok (.iinc 3 1, 3) := by decide +kernel
theorem dX8_image_100 : decode cX8_image 100 = .ok (.goto (-81), 3) := by decide +kernel
theorem dX8_image_103 : decode cX8_image 103 = .ok (.iconst 0, 1) := by decide +kernel
theorem dX8_image_104 : decode cX8_image 104 = .ok (.istore_n 3, 1) := by decide +kernel
theorem dX8_image_105 : decode cX8_image 105 = .ok (.iload_n 3, 1) := by decide +kernel
theorem dX8_image_106 : decode cX8_image 106 = .ok (.bipush 7, 2) := by decide +kernel
theorem dX8_image_108 : decode cX8_image 108 = .ok (.if_icmp .ge 68, 3) := by decide +kernel
theorem dX8_image_111 : decode cX8_image 111 = .ok (.aload_n 0, 1) := by decide +kernel
theorem dX8_image_112 : decode cX8_image 112 = .ok (.getfield 77, 3) := by decide +kernel
theorem dX8_image_115 : decode cX8_image 115 = .ok (.iload_n 2, 1) := by decide +kernel
theorem dX8_image_116 : decode cX8_image 116 = .ok (.bipush 40, 2) := by decide +kernel
theorem dX8_image_118 : decode cX8_image 118 = .ok (.iadd, 1) := by decide +kernel
theorem dX8_image_119 : decode cX8_image 119 = .ok (.iload_n 3, 1) := by decide +kernel
theorem dX8_image_120 : decode cX8_image 120 = .ok (.iadd, 1) := by decide +kernel
theorem dX8_image_121 : decode cX8_image 121 = .ok (.aload_n 0, 1) := by decide +kernel
theorem dX8_image_122 : decode cX8_image 122 = .ok (.getfield 22, 3) := by decide +kernel
theorem dX8_image_125 : decode cX8_image 125 = .ok (.iload_n 3, 1) := by decide +kernel
theorem dX8_image_126 : decode cX8_image 126 = .ok (.iaload, 1) := by decide +kernel
theorem dX8_image_127 : decode cX8_image 127 = .ok (.iastore, 1) := by decide +kernel
theorem dX8_image_128 : decode cX8_image 128 = .ok (.aload_n 0, 1) := by decide +kernel
theorem dX8_image_129 : decode cX8_image 129 = .ok (.getfield 77, 3) := by decide +kernel
theorem dX8_image_132 : decode cX8_image 132 = .ok (.iload_n 2, 1) := by decide +kernel
theorem dX8_image_133 : decode cX8_image 133 = .ok (.bipush 47, 2) := by decide +kernel
theorem dX8_image_135 : decode cX8_image 135 = .ok (.iadd, 1) := by decide +kernel
theorem dX8_image_136 : decode cX8_image 136 = .ok (.iload_n 3, 1) := by decide +kernel
theorem dX8_image_137 : decode cX8_image 137 = .ok (.iadd, 1) := by decide +kernel
theorem dX8_image_138 : decode cX8_image 138 = .ok (.aload_n 0, 1) := by decide +kernel
theorem dX8_image_139 : decode cX8_image 139 = .ok (.getfield 25, 3) := by decide +kernel
theorem dX8_image_142 : decode cX8_image 142 = .ok (.iload_n 3, 1) := by decide +kernel
theorem dX8_image_143 : decode cX8_image 143 = .ok (.iaload, 1) := by decide +kernel
theorem dX8_image_144 : decode cX8_image 144 = .ok (.iastore, 1) := by decide +kernel
theorem dX8_image_145 : decode cX8_image 145 = .ok (.aload_n 0, 1) := by decide +kernel
theorem dX8_image_146 : decode cX8_image 146 = .ok (.getfield 77, 3) := by decide +kernel
theorem dX8_image_149 : decode cX8_image 149 = .ok (.iload_n 2, 1) := by decide +kernel
theorem dX8_image_150 : decode cX8_image 150 = .ok (.bipush 54, 2) := by decide +kernel
theorem dX8_image_152 : decode cX8_image 152 = .ok (.iadd, 1) := by decide +kernel
theorem dX8_image_153 : decode cX8_image 153 = .ok (.iload_n 3, 1) := by decide +kernel
theorem dX8_image_154 : decode cX8_image 154 = .ok (.iadd, 1) := by decide +kernel
theorem dX8_image_155 : decode cX8_image 155 = .ok (.aload_n 0, 1) := by decide +kernel
theorem dX8_image_156 : decode cX8_image 156 = .ok (.getfield 28, 3) := by decide +kernel
theorem dX8_image_159 : decode cX8_image 159 = .ok (.iload_n 3, 1) := by decide +kernel
theorem dX8_image_160 : decode cX8_image 160 = .ok (.baload, 1) := by decide +kernel
theorem dX8_image_161 : decode cX8_image 161 = .ok (.ifCond .eq 7, 3) := by decide +kernel
theorem dX8_image_164 : decode cX8_image 164 = .ok (.iconst 1, 1) := by decide +kernel
theorem dX8_image_165 : decode cX8_image 165 = .ok (.goto 4, 3) := by decide +kernel
theorem dX8_image_168 : decode cX8_image 168 = .ok (.iconst 0, 1) := by decide +kernel
theorem dX8_image_169 : decode cX8_image 169 = .ok (.iastore, 1) := by decide +kernel
theorem dX8_image_170 : decode cX8_image 170 = .ok (.iinc 3 1, 3) := by decide +kernel
theorem dX8_image_173 : decode cX8_image 173 = .ok (.goto (-68), 3) := by decide +kernel
theorem dX8_image_176 : decode cX8_image 176 = .ok (.aload_n 0, 1) := by decide +kernel
theorem dX8_image_177 : decode cX8_image 177 = .ok (.getfield 77, 3) := by decide +kernel
theorem dX8_image_180 : decode cX8_image 180 = .ok (.iload_n 2, 1) := by decide +kernel
theorem dX8_image_181 : decode cX8_image 181 = .ok (.bipush 61, 2) := by decide +kernel
theorem dX8_image_183 : decode cX8_image 183 = .ok (.iadd, 1) := by decide +kernel
theorem dX8_image_184 : decode cX8_image 184 = .ok (.aload_n 0, 1) := by decide +kernel
theorem dX8_image_185 : decode cX8_image 185 = .ok (.getfield 87, 3) := by decide +kernel
theorem dX8_image_188 : decode cX8_image 188 = .ok (.iastore, 1) := by decide +kernel
theorem dX8_image_189 : decode cX8_image 189 = .ok (.aload_n 0, 1) := by decide +kernel
theorem dX8_image_190 : decode cX8_image 190 = .ok (.getfield 80, 3) := by decide +kernel
theorem dX8_image_193 : decode cX8_image 193 = .ok (.iload_n 1, 1) := by decide +kernel
theorem dX8_image_194 : decode cX8_image 194 = .ok (.iconst 1, 1) := by decide +kernel
theorem dX8_image_195 : decode cX8_image 195 = .ok (.bastore, 1) := by decide +kernel
theorem dX8_image_196 : decode cX8_image 196 = .ok (.iconst 1, 1) := by decide +kernel
theorem dX8_image_197 : decode cX8_image 197 = .ok (.ireturn, 1) := by decide +kernel
theorem dX8_restore_0 : decode cX8_restore 0 = .ok (.iload_n 1, 1) := by decide +kernel
theorem dX8_restore_1 : decode cX8_restore 1 = .ok (.iconst 0, 1) := by decide +kernel
theorem dX8_restore_2 : decode cX8_restore 2 = .ok (.iconst 1, 1) := by decide +kernel
theorem dX8_restore_3 : decode cX8_restore 3 = .ok (.invokestatic 83, 3) := by decide +kernel
theorem dX8_restore_6 : decode cX8_restore 6 = .ok (.ifCond .ne 6, 3) := by decide +kernel
theorem dX8_restore_9 : decode cX8_restore 9 = .ok (.bipush (-2), 2) := by decide +kernel
theorem dX8_restore_11 : decode cX8_restore 11 = .ok (.ireturn, 1) := by decide +kernel
theorem dX8_restore_12 : decode cX8_restore 12 = .ok (.aload_n 0, 1) := by decide +kernel
theorem dX8_restore_13 : decode cX8_restore 13 = .ok (.getfield 80, 3) := by decide +kernel
theorem dX8_restore_16 : decode cX8_restore 16 = .ok (.iload_n 1, 1) := by decide +kernel
theorem dX8_restore_17 : decode cX8_restore 17 = .ok (.baload, 1) := by decide +kernel
theorem dX8_restore_18 : decode cX8_restore 18 = .ok (.ifCond .ne 6, 3) := by decide +kernel
theorem dX8_restore_21 : decode cX8_restore 21 = .ok (.bipush (-3), 2) := by decide +kernel
theorem dX8_restore_23 : decode cX8_restore 23 = .ok (.ireturn, 1) := by decide +kernel
theorem dX8_restore_24 : decode cX8_restore 24 = .ok (.bipush 62, 2) := by decide +kernel
theorem dX8_restore_26 : decode cX8_restore 26 = .ok (.iload_n 1, 1) := by decide +kernel
theorem dX8_restore_27 : decode cX8_restore 27 = .ok (.imul, 1) := by decide +kernel
theorem dX8_restore_28 : decode cX8_restore 28 = .ok (.istore_n 2, 1) := by decide +kernel
theorem dX8_restore_29 : decode cX8_restore 29 = .ok (.aload_n 0, 1) := by decide +kernel
theorem dX8_restore_30 : decode cX8_restore 30 = .ok (.aload_n 0, 1) := by decide +kernel
theorem dX8_restore_31 : decode cX8_restore 31 = .ok (.getfield 77, 3) := by decide +kernel
theorem dX8_restore_34 : decode cX8_restore 34 = .ok (.iload_n 2, 1) := by decide +kernel
theorem dX8_restore_35 : decode cX8_restore 35 = .ok (.bipush 61, 2) := by decide +kernel
theorem dX8_restore_37 : decode cX8_restore 37 = .ok (.iadd, 1) := by decide +kernel
theorem dX8_restore_38 : decode cX8_restore 38 = .ok (.iaload, 1) := by decide +kernel
theorem dX8_restore_39 : decode cX8_restore 39 = .ok (.putfield 87, 3) := by decide +kernel
theorem dX8_restore_42 : decode cX8_restore 42 = .ok (.iconst 0, 1) := by decide +kernel
theorem dX8_restore_43 : decode cX8_restore 43 = .ok (.istore_n 3, 1) := by decide +kernel
theorem dX8_restore_44 : decode cX8_restore 44 = .ok (.iload_n 3, 1) := by decide +kernel
theorem dX8_restore_45 : decode cX8_restore 45 = .ok (.aload_n 0, 1) := by decide +kernel
theorem dX8_restore_46 : decode cX8_restore 46 = .ok (.getfield 87, 3) := by decide +kernel
theorem dX8_restore_49 : decode cX8_restore 49 = .ok (.if_icmp .ge 79, 3) := by decide +kernel
theorem dX8_restore_52 : decode cX8_restore 52 = .ok (.aload_n 0, 1) := by decide +kernel
theorem dX8_restore_53 : decode cX8_restore 53 = .ok (.getfield 7, 3) := by decide +kernel
theorem dX8_restore_56 : decode cX8_restore 56 = .ok (.iload_n 3, 1) := by decide +kernel
theorem dX8_restore_57 : decode cX8_restore 57 = .ok (.aload_n 0, 1) := by decide +kernel
theorem dX8_restore_58 : decode cX8_restore 58 = .ok (.getfield 77, 3) := by decide +kernel
theorem dX8_restore_61 : decode cX8_restore 61 = .ok (.iload_n 2, 1) := by decide +kernel
theorem dX8_restore_62 : decode cX8_restore 62 = .ok (.iconst 4, 1) := by decide +kernel
theorem dX8_restore_63 : decode cX8_restore 63 = .ok (.iload_n 3, 1) := by decide +kernel
theorem dX8_restore_64 : decode cX8_restore 64 = .ok (.imul, 1) := by decide +kernel
theorem dX8_restore_65 : decode cX8_restore 65 = .ok (.iadd, 1) := by decide +kernel
theorem dX8_restore_66 : decode cX8_restore 66 = .ok (.iaload, 1) := by decide +kernel
theorem dX8_restore_67 : decode cX8_restore 67 = .ok (.iastore, 1) := by decide +kernel
theorem dX8_restore_68 : decode cX8_restore 68 = .ok (.aload_n 0, 1) := by decide +kernel
theorem dX8_restore_69 : decode cX8_restore 69 = .ok (.getfield 13, 3) := by decide +kernel
theorem dX8_restore_72 : decode cX8_restore 72 = .ok (.iload_n 3, 1) := by decide +kernel
theorem dX8_restore_73 : decode cX8_restore 73 = .ok (.aload_n 0, 1) := by decide +kernel
theorem dX8_restore_74 : decode cX8_restore 74 = .ok (.getfield 77, 3) := by decide +kernel
theorem dX8_restore_77 : decode cX8_restore 77 = .ok (.iload_n 2, 1) := by decide +kernel
theorem dX8_restore_78 : decode cX8_restore 78 = .ok (.iconst 4, 1) := by decide +kernel
theorem dX8_restore_79 : decode cX8_restore 79 = .ok (.iload_n 3, 1) := by decide +kernel
theorem dX8_restore_80 : decode cX8_restore 80 = .ok (.imul, 1) := by decide +kernel
theorem dX8_restore_81 : decode cX8_restore 81 = .ok (.iadd, 1) := by decide +kernel
theorem dX8_restore_82 : decode cX8_restore 82 = .ok (.iconst 1, 1) := by decide +kernel
theorem dX8_restore_83 : decode cX8_restore 83 = .ok (.iadd, 1) := by decide +kernel
theorem dX8_restore_84 : decode cX8_restore 84 = .ok (.iaload, 1) := by decide +kernel
theorem dX8_restore_85 : decode cX8_restore 85 = .ok (.iastore, 1) := by decide +kernel
theorem dX8_restore_86 : decode cX8_restore 86 = .ok (.aload_n 0, 1) := by decide +kernel
theorem dX8_restore_87 : decode cX8_restore 87 = .ok (.getfield 16, 3) := by decide +kernel
theorem dX8_restore_90 : decode cX8_restore 90 = .ok (.iload_n 3, 1) := by decide +kernel
theorem dX8_restore_91 : decode cX8_restore 91 = .ok (.aload_n 0, 1) := by decide +kernel
theorem dX8_restore_92 : decode cX8_restore 92 = .ok (.getfield 77, 3) := by decide +kernel
theorem dX8_restore_95 : decode cX8_restore 95 = .ok (.iload_n 2, 1) := by decide +kernel
theorem dX8_restore_96 : decode cX8_restore 96 = .ok (.iconst 4, 1) := by decide +kernel
theorem dX8_restore_97 : decode cX8_restore 97 = .ok (.iload_n 3, 1) := by decide +kernel
theorem dX8_restore_98 : decode cX8_restore 98 = .ok (.imul, 1) := by decide +kernel
theorem dX8_restore_99 : decode cX8_restore 99 = .ok (.iadd, 1) := by decide +kernel
theorem dX8_restore_100 : decode cX8_restore 100 = .ok (.iconst 2, 1) := by decide +kernel
theorem dX8_restore_101 : decode cX8_restore 101 = .ok (.iadd, 1) := by decide +kernel
theorem dX8_restore_102 : decode cX8_restore 102 = .ok (.iaload, 1) := by decide +kernel
theorem dX8_restore_103 : decode cX8_restore 103 = .ok (.iastore, 1) := by decide +kernel
theorem dX8_restore_104 : decode cX8_restore 104 = .ok (.aload_n 0, 1) := by decide +kernel
theorem dX8_restore_105 : decode cX8_restore 105 = .ok (.getfield 19, 3) := by decide +kernel
theorem dX8_restore_108 : decode cX8_restore 108 = .ok (.iload_n 3, 1) := by decide +kernel
theorem dX8_restore_109 : decode cX8_restore 109 = .ok (.aload_n 0, 1) := by decide +kernel
theorem dX8_restore_110 : decode cX8_restore 110 = .ok (.getfield 77, 3) := by decide +kernel
theorem dX8_restore_113 : decode cX8_restore 113 = .ok (.iload_n 2, 1) := by decide +kernel
theorem dX8_restore_114 : decode cX8_restore 114 = .ok (.iconst 4, 1) := by decide +kernel
theorem dX8_restore_115 : decode cX8_restore 115 = .ok (.iload_n 3, 1) := by decide +kernel
theorem dX8_restore_116 : decode cX8_restore 116 = .ok (.imul, 1) := by decide +kernel
theorem dX8_restore_117 : decode cX8_restore 117 = .ok (.iadd, 1) := by decide +kernel
theorem dX8_restore_118 : decode cX8_restore 118 = .ok (.iconst 3, 1) := by decide +kernel
theorem dX8_restore_119 : decode cX8_restore 119 = .ok (.iadd, 1) := by decide +kernel
theorem dX8_restore_120 : decode cX8_restore 120 = .ok (.iaload, 1) := by decide +kernel
theorem dX8_restore_121 : decode cX8_restore 121 = .ok (.iastore, 1) := by decide +kernel
theorem dX8_restore_122 : decode cX8_restore 122 = .ok (.iinc 3 1, 3) := by decide +kernel
theorem dX8_restore_125 : decode cX8_restore 125 = .ok (.goto (-81), 3) := by decide +kernel
theorem dX8_restore_128 : decode cX8_restore 128 = .ok (.iconst 0, 1) := by decide +kernel
theorem dX8_restore_129 : decode cX8_restore 129 = .ok (.istore_n 3, 1) := by decide +kernel
theorem dX8_restore_130 : decode cX8_restore 130 = .ok (.iload_n 3, 1) := by decide +kernel
theorem dX8_restore_131 : decode cX8_restore 131 = .ok (.bipush 7, 2) := by decide +kernel
theorem dX8_restore_133 : decode cX8_restore 133 = .ok (.if_icmp .ge 69, 3) := by decide +kernel
theorem dX8_restore_136 : decode cX8_restore 136 = .ok (.aload_n 0, 1) := by decide +kernel
theorem dX8_restore_137 : decode cX8_restore 137 = .ok (.getfield 22, 3) := by decide +kernel
theorem dX8_restore_140 : decode cX8_restore 140 = .ok (.iload_n 3, 1) := by decide +kernel
theorem dX8_restore_141 : decode cX8_restore 141 = .ok (.aload_n 0, 1) := by decide +kernel
theorem dX8_restore_142 : decode cX8_restore 142 = .ok (.getfield 77, 3) := by decide +kernel
theorem dX8_restore_145 : decode cX8_restore 145 = .ok (.iload_n 2, 1) := by decide +kernel
theorem dX8_restore_146 : decode cX8_restore 146 = .ok (.bipush 40, 2) := by decide +kernel
theorem dX8_restore_148 : decode cX8_restore 148 = .ok (.iadd, 1) := by decide +kernel
theorem dX8_restore_149 : decode cX8_restore 149 = .ok (.iload_n 3, 1) := by decide +kernel
theorem dX8_restore_150 : decode cX8_restore 150 = .ok (.iadd, 1) := by decide +kernel
theorem dX8_restore_151 : decode cX8_restore 151 = .ok (.iaload, 1) := by decide +kernel
theorem dX8_restore_152 : decode cX8_restore 152 = .ok (.iastore, 1) := by decide +kernel
theorem dX8_restore_153 : decode cX8_restore 153 = .ok (.aload_n 0, 1) := by decide +kernel
theorem dX8_restore_154 : decode cX8_restore 154 = .ok (.getfield 25, 3) := by decide +kernel
theorem dX8_restore_157 : decode cX8_restore 157 = .ok (.iload_n 3, 1) := by decide +kernel
theorem dX8_restore_158 : decode cX8_restore 158 = .ok (.aload_n 0, 1) := by decide +kernel
theorem dX8_restore_159 : decode cX8_restore 159 = .ok (.getfield 77, 3) := by decide +kernel
theorem dX8_restore_162 : decode cX8_restore 162 = .ok (.iload_n 2, 1) := by decide +kernel
theorem dX8_restore_163 : decode cX8_restore 163 = .ok (.bipush 47, 2) := by decide +kernel
theorem dX8_restore_165 : decode cX8_restore 165 = .ok (.iadd, 1) := by decide +kernel
theorem dX8_restore_166 : decode cX8_restore 166 = .ok (.iload_n 3, 1) := by decide +kernel
theorem dX8_restore_167 : decode cX8_restore 167 = .ok (.iadd, 1) := by decide +kernel
theorem dX8_restore_168 : decode cX8_restore 168 = .ok (.iaload, 1) := by decide +kernel
theorem dX8_restore_169 : decode cX8_restore 169 = .ok (.iastore, 1) := by decide +kernel
theorem dX8_restore_170 : decode cX8_restore 170 = .ok (.aload_n 0, 1) := by decide +kernel
theorem dX8_restore_171 : decode cX8_restore 171 = .ok (.getfield 28, 3) := by decide +kernel
theorem dX8_restore_174 : decode cX8_restore 174 = .ok (.iload_n 3, 1) := by decide +kernel
theorem dX8_restore_175 : decode cX8_restore 175 = .ok (.aload_n 0, 1) := by decide +kernel
theorem dX8_restore_176 : decode cX8_restore 176 = .ok (.getfield 77, 3) := by decide +kernel
theorem dX8_restore_179 : decode cX8_restore 179 = .ok (.iload_n 2, 1) := by decide +kernel
theorem dX8_restore_180 : decode cX8_restore 180 = .ok (.bipush 54, 2) := by decide +kernel
theorem dX8_restore_182 : decode cX8_restore 182 = .ok (.iadd, 1) := by decide +kernel
theorem dX8_restore_183 : decode cX8_restore 183 = .ok (.iload_n 3, 1) := by decide +kernel
theorem dX8_restore_184 : decode cX8_restore 184 = .ok (.iadd, 1) := by decide +kernel
theorem dX8_restore_185 : decode cX8_restore 185 = .ok (.iaload, 1) := by decide +kernel
theorem dX8_restore_186 : decode cX8_restore 186 = .ok (.iconst 1, 1) := by decide +kernel
theorem dX8_restore_187 : decode cX8_restore 187 = .ok (.if_icmp .ne 7, 3) := by decide +kernel
theorem dX8_restore_190 : decode cX8_restore 190 = .ok (.iconst 1, 1) := by decide +kernel
theorem dX8_restore_191 : decode cX8_restore 191 = .ok (.goto 4, 3) := by decide +kernel
theorem dX8_restore_194 : decode cX8_restore 194 = .ok (.iconst 0, 1) := by decide +kernel
theorem dX8_restore_195 : decode cX8_restore 195 = .ok (.bastore, 1) := by decide +kernel
theorem dX8_restore_196 : decode cX8_restore 196 = .ok (.iinc 3 1, 3) := by decide +kernel
theorem dX8_restore_199 : decode cX8_restore 199 = .ok (.goto (-69), 3) := by decide +kernel
theorem dX8_restore_202 : decode cX8_restore 202 = .ok (.aload_n 0, 1) := by decide +kernel
theorem dX8_restore_203 : decode cX8_restore 203 = .ok (.invokevirtual 95, 3) := by decide +kernel
theorem dX8_restore_206 : decode cX8_restore 206 = .ok (.iconst 1, 1) := by decide +kernel
theorem dX8_restore_207 : decode cX8_restore 207 = .ok (.ireturn, 1) := by decide +kernel
theorem dJ6_bitCount_0f7a4_0 : decode cJ6_bitCount_0f7a4 0 = .ok (.iload_n 0, 1) := by decide +kernel
theorem dJ6_bitCount_0f7a4_1 : decode cJ6_bitCount_0f7a4 1 = .ok (.iload_n 0, 1) := by decide +kernel
theorem dJ6_bitCount_0f7a4_2 : decode cJ6_bitCount_0f7a4 2 = .ok (.iconst 1, 1) := by decide +kernel
theorem dJ6_bitCount_0f7a4_3 : decode cJ6_bitCount_0f7a4 3 = .ok (.iushr, 1) := by decide +kernel
theorem dJ6_bitCount_0f7a4_4 : decode cJ6_bitCount_0f7a4 4 = .ok (.ldc_w 265, 3) := by decide +kernel
theorem dJ6_bitCount_0f7a4_7 : decode cJ6_bitCount_0f7a4 7 = .ok (.iand, 1) := by decide +kernel
theorem dJ6_bitCount_0f7a4_8 : decode cJ6_bitCount_0f7a4 8 = .ok (.isub, 1) := by decide +kernel
theorem dJ6_bitCount_0f7a4_9 : decode cJ6_bitCount_0f7a4 9 = .ok (.istore_n 0, 1) := by decide +kernel
theorem dJ6_bitCount_0f7a4_10 : decode cJ6_bitCount_0f7a4 10 = .ok (.iload_n 0, 1) := by decide +kernel
theorem dJ6_bitCount_0f7a4_11 : decode cJ6_bitCount_0f7a4 11 = .ok (.ldc_w 266, 3) := by decide +kernel
theorem dJ6_bitCount_0f7a4_14 : decode cJ6_bitCount_0f7a4 14 = .ok (.iand, 1) := by decide +kernel
theorem dJ6_bitCount_0f7a4_15 : decode cJ6_bitCount_0f7a4 15 = .ok (.iload_n 0, 1) := by decide +kernel
theorem dJ6_bitCount_0f7a4_16 : decode cJ6_bitCount_0f7a4 16 = .ok (.iconst 2, 1) := by decide +kernel
theorem dJ6_bitCount_0f7a4_17 : decode cJ6_bitCount_0f7a4 17 = .ok (.iushr, 1) := by decide +kernel
theorem dJ6_bitCount_0f7a4_18 : decode cJ6_bitCount_0f7a4 18 = .ok (.ldc_w 266, 3) := by decide +kernel
theorem dJ6_bitCount_0f7a4_21 : decode cJ6_bitCount_0f7a4 21 = .ok (.iand, 1) := by decide +kernel
theorem dJ6_bitCount_0f7a4_22 : decode cJ6_bitCount_0f7a4 22 = .ok (.iadd, 1) := by decide +kernel
theorem dJ6_bitCount_0f7a4_23 : decode cJ6_bitCount_0f7a4 23 = .ok (.istore_n 0, 1) := by decide +kernel
theorem dJ6_bitCount_0f7a4_24 : decode cJ6_bitCount_0f7a4 24 = .ok (.iload_n 0, 1) := by decide +kernel
theorem dJ6_bitCount_0f7a4_25 : decode cJ6_bitCount_0f7a4 25 = .ok (.iload_n 0, 1) := by decide +kernel
theorem dJ6_bitCount_0f7a4_26 : decode cJ6_bitCount_0f7a4 26 = .ok (.iconst 4, 1) := by decide +kernel
theorem dJ6_bitCount_0f7a4_27 : decode cJ6_bitCount_0f7a4 27 = .ok (.iushr, 1) := by decide +kernel
theorem dJ6_bitCount_0f7a4_28 : decode cJ6_bitCount_0f7a4 28 = .ok (.iadd, 1) := by decide +kernel
theorem dJ6_bitCount_0f7a4_29 : decode cJ6_bitCount_0f7a4 29 = .ok (.ldc_w 267, 3) := by decide +kernel
theorem dJ6_bitCount_0f7a4_32 : decode cJ6_bitCount_0f7a4 32 = .ok (.iand, 1) := by decide +kernel
theorem dJ6_bitCount_0f7a4_33 : decode cJ6_bitCount_0f7a4 33 = .ok (.istore_n 0, 1) := by decide +kernel
theorem dJ6_bitCount_0f7a4_34 : decode cJ6_bitCount_0f7a4 34 = .ok (.iload_n 0, 1) := by decide +kernel
theorem dJ6_bitCount_0f7a4_35 : decode cJ6_bitCount_0f7a4 35 = .ok (.iload_n 0, 1) := by decide +kernel
theorem dJ6_bitCount_0f7a4_36 : decode cJ6_bitCount_0f7a4 36 = .ok (.bipush 8, 2) := by decide +kernel
theorem dJ6_bitCount_0f7a4_38 : decode cJ6_bitCount_0f7a4 38 = .ok (.iushr, 1) := by decide +kernel
theorem dJ6_bitCount_0f7a4_39 : decode cJ6_bitCount_0f7a4 39 = .ok (.iadd, 1) := by decide +kernel
theorem dJ6_bitCount_0f7a4_40 : decode cJ6_bitCount_0f7a4 40 = .ok (.istore_n 0, 1) := by decide +kernel
theorem dJ6_bitCount_0f7a4_41 : decode cJ6_bitCount_0f7a4 41 = .ok (.iload_n 0, 1) := by decide +kernel
theorem dJ6_bitCount_0f7a4_42 : decode cJ6_bitCount_0f7a4 42 = .ok (.iload_n 0, 1) := by decide +kernel
theorem dJ6_bitCount_0f7a4_43 : decode cJ6_bitCount_0f7a4 43 = .ok (.bipush 16, 2) := by decide +kernel
theorem dJ6_bitCount_0f7a4_45 : decode cJ6_bitCount_0f7a4 45 = .ok (.iushr, 1) := by decide +kernel
theorem dJ6_bitCount_0f7a4_46 : decode cJ6_bitCount_0f7a4 46 = .ok (.iadd, 1) := by decide +kernel
theorem dJ6_bitCount_0f7a4_47 : decode cJ6_bitCount_0f7a4 47 = .ok (.istore_n 0, 1) := by decide +kernel
theorem dJ6_bitCount_0f7a4_48 : decode cJ6_bitCount_0f7a4 48 = .ok (.iload_n 0, 1) := by decide +kernel
theorem dJ6_bitCount_0f7a4_49 : decode cJ6_bitCount_0f7a4 49 = .ok (.bipush 63, 2) := by decide +kernel
theorem dJ6_bitCount_0f7a4_51 : decode cJ6_bitCount_0f7a4 51 = .ok (.iand, 1) := by decide +kernel
theorem dJ6_bitCount_0f7a4_52 : decode cJ6_bitCount_0f7a4 52 = .ok (.ireturn, 1) := by decide +kernel
theorem dJ9_abs_0f7a4_0 : decode cJ9_abs_0f7a4 0 = .ok (.iload_n 0, 1) := by decide +kernel
theorem dJ9_abs_0f7a4_1 : decode cJ9_abs_0f7a4 1 = .ok (.ifCond .ge 8, 3) := by decide +kernel
theorem dJ9_abs_0f7a4_4 : decode cJ9_abs_0f7a4 4 = .ok (.iload_n 0, 1) := by decide +kernel
theorem dJ9_abs_0f7a4_5 : decode cJ9_abs_0f7a4 5 = .ok (.ineg, 1) := by decide +kernel
theorem dJ9_abs_0f7a4_6 : decode cJ9_abs_0f7a4 6 = .ok (.goto 4, 3) := by decide +kernel
theorem dJ9_abs_0f7a4_9 : decode cJ9_abs_0f7a4 9 = .ok (.iload_n 0, 1) := by decide +kernel
theorem dJ9_abs_0f7a4_10 : decode cJ9_abs_0f7a4 10 = .ok (.ireturn, 1) := by decide +kernel
theorem dJ9_max_7cf53_0 : decode cJ9_max_7cf53 0 = .ok (.iload_n 0, 1) := by decide +kernel
theorem dJ9_max_7cf53_1 : decode cJ9_max_7cf53 1 = .ok (.iload_n 1, 1) := by decide +kernel
theorem dJ9_max_7cf53_2 : decode cJ9_max_7cf53 2 = .ok (.if_icmp .lt 7, 3) := by decide +kernel
theorem dJ9_max_7cf53_5 : decode cJ9_max_7cf53 5 = .ok (.iload_n 0, 1) := by decide +kernel
theorem dJ9_max_7cf53_6 : decode cJ9_max_7cf53 6 = .ok (.goto 4, 3) := by decide +kernel
theorem dJ9_max_7cf53_9 : decode cJ9_max_7cf53 9 = .ok (.iload_n 1, 1) := by decide +kernel
theorem dJ9_max_7cf53_10 : decode cJ9_max_7cf53 10 = .ok (.ireturn, 1) := by decide +kernel
theorem dJ9_min_7cf53_0 : decode cJ9_min_7cf53 0 = .ok (.iload_n 0, 1) := by decide +kernel
theorem dJ9_min_7cf53_1 : decode cJ9_min_7cf53 1 = .ok (.iload_n 1, 1) := by decide +kernel
theorem dJ9_min_7cf53_2 : decode cJ9_min_7cf53 2 = .ok (.if_icmp .gt 7, 3) := by decide +kernel
theorem dJ9_min_7cf53_5 : decode cJ9_min_7cf53 5 = .ok (.iload_n 0, 1) := by decide +kernel
theorem dJ9_min_7cf53_6 : decode cJ9_min_7cf53 6 = .ok (.goto 4, 3) := by decide +kernel
theorem dJ9_min_7cf53_9 : decode cJ9_min_7cf53 9 = .ok (.iload_n 1, 1) := by decide +kernel
theorem dJ9_min_7cf53_10 : decode cJ9_min_7cf53 10 = .ok (.ireturn, 1) := by decide +kernel
theorem dJ7_fill_53178_0 : decode cJ7_fill_53178 0 = .ok (.iconst 0, 1) := by decide +kernel
theorem dJ7_fill_53178_1 : decode cJ7_fill_53178 1 = .ok (.istore_n 2, 1) := by decide +kernel
theorem dJ7_fill_53178_2 : decode cJ7_fill_53178 2 = .ok (.aload_n 0, 1) := by decide +kernel
theorem dJ7_fill_53178_3 : decode cJ7_fill_53178 3 = .ok (.arraylength, 1) := by decide +kernel
theorem dJ7_fill_53178_4 : decode cJ7_fill_53178 4 = .ok (.istore_n 3, 1) := by decide +kernel
theorem dJ7_fill_53178_5 : decode cJ7_fill_53178 5 = .ok (.iload_n 2, 1) := by decide +kernel
theorem dJ7_fill_53178_6 : decode cJ7_fill_53178 6 = .ok (.iload_n 3, 1) := by decide +kernel
theorem dJ7_fill_53178_7 : decode cJ7_fill_53178 7 = .ok (.if_icmp .ge 13, 3) := by decide +kernel
theorem dJ7_fill_53178_10 : decode cJ7_fill_53178 10 = .ok (.aload_n 0, 1) := by decide +kernel
theorem dJ7_fill_53178_11 : decode cJ7_fill_53178 11 = .ok (.iload_n 2, 1) := by decide +kernel
theorem dJ7_fill_53178_12 : decode cJ7_fill_53178 12 = .ok (.iload_n 1, 1) := by decide +kernel
theorem dJ7_fill_53178_13 : decode cJ7_fill_53178 13 = .ok (.iastore, 1) := by decide +kernel
theorem dJ7_fill_53178_14 : decode cJ7_fill_53178 14 = .ok (.iinc 2 1, 3) := by decide +kernel
theorem dJ7_fill_53178_17 : decode cJ7_fill_53178 17 = .ok (.goto (-12), 3) := by decide +kernel
theorem dJ7_fill_53178_20 : decode cJ7_fill_53178 20 = .ok (.return_, 1) := by decide +kernel
theorem dL_law_0 : decode cL_law 0 = .ok (.new 7, 3) := by decide +kernel
theorem dL_law_3 : decode cL_law 3 = .ok (.dup, 1) := by decide +kernel
theorem dL_law_4 : decode cL_law 4 = .ok (.invokespecial 9, 3) := by decide +kernel
theorem dL_law_7 : decode cL_law 7 = .ok (.astore_n 1, 1) := by decide +kernel
theorem dL_law_8 : decode cL_law 8 = .ok (.new 10, 3) := by decide +kernel
theorem dL_law_11 : decode cL_law 11 = .ok (.dup, 1) := by decide +kernel
theorem dL_law_12 : decode cL_law 12 = .ok (.invokespecial 12, 3) := by decide +kernel
theorem dL_law_15 : decode cL_law 15 = .ok (.astore_n 2, 1) := by decide +kernel
theorem dL_law_16 : decode cL_law 16 = .ok (.iconst 0, 1) := by decide +kernel
theorem dL_law_17 : decode cL_law 17 = .ok (.istore_n 3, 1) := by decide +kernel
theorem dL_law_18 : decode cL_law 18 = .ok (.iload_n 3, 1) := by decide +kernel
theorem dL_law_19 : decode cL_law 19 = .ok (.aload_n 0, 1) := by decide +kernel
theorem dL_law_20 : decode cL_law 20 = .ok (.arraylength, 1) := by decide +kernel
theorem dL_law_21 : decode cL_law 21 = .ok (.iconst 5, 1) := by decide +kernel
theorem dL_law_22 : decode cL_law 22 = .ok (.isub, 1) := by decide +kernel
theorem dL_law_23 : decode cL_law 23 = .ok (.if_icmp .gt 725, 3) := by decide +kernel
theorem dL_law_26 : decode cL_law 26 = .ok (.aload_n 0, 1) := by decide +kernel
theorem dL_law_27 : decode cL_law 27 = .ok (.iload_n 3, 1) := by decide +kernel
theorem dL_law_28 : decode cL_law 28 = .ok (.iaload, 1) := by decide +kernel
theorem dL_law_29 : decode cL_law 29 = .ok (.bipush 31, 2) := by decide +kernel
theorem dL_law_31 : decode cL_law 31 = .ok (.iand, 1) := by decide +kernel
theorem dL_law_32 : decode cL_law 32 = .ok (.tableswitch 710 0 18 #[92, 145, 168, 191, 224, 257, 290, 314, 337, 380, 433, 486, 519, 552, 585, 618, 641, 664, 687], 92) := by decide +kernel
theorem dL_law_124 : decode cL_law 124 = .ok (.aload_n 1, 1) := by decide +kernel
theorem dL_law_125 : decode cL_law 125 = .ok (.aload_n 0, 1) := by decide +kernel
theorem dL_law_126 : decode cL_law 126 = .ok (.iload_n 3, 1) := by decide +kernel
theorem dL_law_127 : decode cL_law 127 = .ok (.iconst 1, 1) := by decide +kernel
theorem dL_law_128 : decode cL_law 128 = .ok (.iadd, 1) := by decide +kernel
theorem dL_law_129 : decode cL_law 129 = .ok (.iaload, 1) := by decide +kernel
theorem dL_law_130 : decode cL_law 130 = .ok (.aload_n 0, 1) := by decide +kernel
theorem dL_law_131 : decode cL_law 131 = .ok (.iload_n 3, 1) := by decide +kernel
theorem dL_law_132 : decode cL_law 132 = .ok (.iconst 2, 1) := by decide +kernel
theorem dL_law_133 : decode cL_law 133 = .ok (.iadd, 1) := by decide +kernel
theorem dL_law_134 : decode cL_law 134 = .ok (.iaload, 1) := by decide +kernel
theorem dL_law_135 : decode cL_law 135 = .ok (.aload_n 0, 1) := by decide +kernel
theorem dL_law_136 : decode cL_law 136 = .ok (.iload_n 3, 1) := by decide +kernel
theorem dL_law_137 : decode cL_law 137 = .ok (.iconst 3, 1) := by decide +kernel
theorem dL_law_138 : decode cL_law 138 = .ok (.iadd, 1) := by decide +kernel
theorem dL_law_139 : decode cL_law 139 = .ok (.iaload, 1) := by decide +kernel
theorem dL_law_140 : decode cL_law 140 = .ok (.aload_n 0, 1) := by decide +kernel
theorem dL_law_141 : decode cL_law 141 = .ok (.iload_n 3, 1) := by decide +kernel
theorem dL_law_142 : decode cL_law 142 = .ok (.iconst 4, 1) := by decide +kernel
theorem dL_law_143 : decode cL_law 143 = .ok (.iadd, 1) := by decide +kernel
theorem dL_law_144 : decode cL_law 144 = .ok (.iaload, 1) := by decide +kernel
theorem dL_law_145 : decode cL_law 145 = .ok (.invokevirtual 13, 3) := by decide +kernel
theorem dL_law_148 : decode cL_law 148 = .ok (.aload_n 2, 1) := by decide +kernel
theorem dL_law_149 : decode cL_law 149 = .ok (.aload_n 0, 1) := by decide +kernel
theorem dL_law_150 : decode cL_law 150 = .ok (.iload_n 3, 1) := by decide +kernel
theorem dL_law_151 : decode cL_law 151 = .ok (.iconst 1, 1) := by decide +kernel
theorem dL_law_152 : decode cL_law 152 = .ok (.iadd, 1) := by decide +kernel
theorem dL_law_153 : decode cL_law 153 = .ok (.iaload, 1) := by decide +kernel
theorem dL_law_154 : decode cL_law 154 = .ok (.aload_n 0, 1) := by decide +kernel
theorem dL_law_155 : decode cL_law 155 = .ok (.iload_n 3, 1) := by decide +kernel
theorem dL_law_156 : decode cL_law 156 = .ok (.iconst 2, 1) := by decide +kernel
theorem dL_law_157 : decode cL_law 157 = .ok (.iadd, 1) := by decide +kernel
theorem dL_law_158 : decode cL_law 158 = .ok (.iaload, 1) := by decide +kernel
theorem dL_law_159 : decode cL_law 159 = .ok (.aload_n 0, 1) := by decide +kernel
theorem dL_law_160 : decode cL_law 160 = .ok (.iload_n 3, 1) := by decide +kernel
theorem dL_law_161 : decode cL_law 161 = .ok (.iconst 3, 1) := by decide +kernel
theorem dL_law_162 : decode cL_law 162 = .ok (.iadd, 1) := by decide +kernel
theorem dL_law_163 : decode cL_law 163 = .ok (.iaload, 1) := by decide +kernel
theorem dL_law_164 : decode cL_law 164 = .ok (.aload_n 0, 1) := by decide +kernel
theorem dL_law_165 : decode cL_law 165 = .ok (.iload_n 3, 1) := by decide +kernel
theorem dL_law_166 : decode cL_law 166 = .ok (.iconst 4, 1) := by decide +kernel
theorem dL_law_167 : decode cL_law 167 = .ok (.iadd, 1) := by decide +kernel
theorem dL_law_168 : decode cL_law 168 = .ok (.iaload, 1) := by decide +kernel
theorem dL_law_169 : decode cL_law 169 = .ok (.invokevirtual 17, 3) := by decide +kernel
theorem dL_law_172 : decode cL_law 172 = .ok (.if_icmp .eq 570, 3) := by decide +kernel
theorem dL_law_175 : decode cL_law 175 = .ok (.iconst 0, 1) := by decide +kernel
theorem dL_law_176 : decode cL_law 176 = .ok (.ireturn, 1) := by decide +kernel
theorem dL_law_177 : decode cL_law 177 = .ok (.aload_n 1, 1) := by decide +kernel
theorem dL_law_178 : decode cL_law 178 = .ok (.aload_n 0, 1) := by decide +kernel
theorem dL_law_179 : decode cL_law 179 = .ok (.iload_n 3, 1) := by decide +kernel
theorem dL_law_180 : decode cL_law 180 = .ok (.iconst 1, 1) := by decide +kernel
theorem dL_law_181 : decode cL_law 181 = .ok (.iadd, 1) := by decide +kernel
theorem dL_law_182 : decode cL_law 182 = .ok (.iaload, 1) := by decide +kernel
theorem dL_law_183 : decode cL_law 183 = .ok (.invokevirtual 18, 3) := by decide +kernel
theorem dL_law_186 : decode cL_law 186 = .ok (.aload_n 2, 1) := by decide +kernel
theorem dL_law_187 : decode cL_law 187 = .ok (.aload_n 0, 1) := by decide +kernel
theorem dL_law_188 : decode cL_law 188 = .ok (.iload_n 3, 1) := by decide +kernel
theorem dL_law_189 : decode cL_law 189 = .ok (.iconst 1, 1) := by decide +kernel
theorem dL_law_190 : decode cL_law 190 = .ok (.iadd, 1) := by decide +kernel
theorem dL_law_191 : decode cL_law 191 = .ok (.iaload, 1) := by decide +kernel
theorem dL_law_192 : decode cL_law 192 = .ok (.invokevirtual 22, 3) := by decide +kernel
theorem dL_law_195 : decode cL_law 195 = .ok (.if_icmp .eq 547, 3) := by decide +kernel
theorem dL_law_198 : decode cL_law 198 = .ok (.iconst 0, 1) := by decide +kernel
theorem dL_law_199 : decode cL_law 199 = .ok (.ireturn, 1) := by decide +kernel
theorem dL_law_200 : decode cL_law 200 = .ok (.aload_n 1, 1) := by decide +kernel
theorem dL_law_201 : decode cL_law 201 = .ok (.aload_n 0, 1) := by decide +kernel
theorem dL_law_202 : decode cL_law 202 = .ok (.iload_n 3, 1) := by decide +kernel
theorem dL_law_203 : decode cL_law 203 = .ok (.iconst 1, 1) := by decide +kernel
theorem dL_law_204 : decode cL_law 204 = .ok (.iadd, 1) := by decide +kernel
theorem dL_law_205 : decode cL_law 205 = .ok (.iaload, 1) := by decide +kernel
theorem dL_law_206 : decode cL_law 206 = .ok (.invokevirtual 23, 3) := by decide +kernel
theorem dL_law_209 : decode cL_law 209 = .ok (.aload_n 2, 1) := by decide +kernel
theorem dL_law_210 : decode cL_law 210 = .ok (.aload_n 0, 1) := by decide +kernel
theorem dL_law_211 : decode cL_law 211 = .ok (.iload_n 3, 1) := by decide +kernel
theorem dL_law_212 : decode cL_law 212 = .ok (.iconst 1, 1) := by decide +kernel
theorem dL_law_213 : decode cL_law 213 = .ok (.iadd, 1) := by decide +kernel
theorem dL_law_214 : decode cL_law 214 = .ok (.iaload, 1) := by decide +kernel
theorem dL_law_215 : decode cL_law 215 = .ok (.invokevirtual 26, 3) := by decide +kernel
theorem dL_law_218 : decode cL_law 218 = .ok (.if_icmp .eq 524, 3) := by decide +kernel
theorem dL_law_221 : decode cL_law 221 = .ok (.iconst 0, 1) := by decide +kernel
theorem dL_law_222 : decode cL_law 222 = .ok (.ireturn, 1) := by decide +kernel
theorem dL_law_223 : decode cL_law 223 = .ok (.aload_n 1, 1) := by decide +kernel
theorem dL_law_224 : decode cL_law 224 = .ok (.aload_n 0, 1) := by decide +kernel
theorem dL_law_225 : decode cL_law 225 = .ok (.iload_n 3, 1) := by decide +kernel
theorem dL_law_226 : decode cL_law 226 = .ok (.iconst 1, 1) := by decide +kernel
theorem dL_law_227 : decode cL_law 227 = .ok (.iadd, 1) := by decide +kernel
theorem dL_law_228 : decode cL_law 228 = .ok (.iaload, 1) := by decide +kernel
theorem dL_law_229 : decode cL_law 229 = .ok (.aload_n 0, 1) := by decide +kernel
theorem dL_law_230 : decode cL_law 230 = .ok (.iload_n 3, 1) := by decide +kernel
theorem dL_law_231 : decode cL_law 231 = .ok (.iconst 2, 1) := by decide +kernel
theorem dL_law_232 : decode cL_law 232 = .ok (.iadd, 1) := by decide +kernel
theorem dL_law_233 : decode cL_law 233 = .ok (.iaload, 1) := by decide +kernel
theorem dL_law_234 : decode cL_law 234 = .ok (.invokevirtual 27, 3) := by decide +kernel
theorem dL_law_237 : decode cL_law 237 = .ok (.aload_n 2, 1) := by decide +kernel
theorem dL_law_238 : decode cL_law 238 = .ok (.aload_n 0, 1) := by decide +kernel
theorem dL_law_239 : decode cL_law 239 = .ok (.iload_n 3, 1) := by decide +kernel
theorem dL_law_240 : decode cL_law 240 = .ok (.iconst 1, 1) := by decide +kernel
theorem dL_law_241 : decode cL_law 241 = .ok (.iadd, 1) := by decide +kernel
theorem dL_law_242 : decode cL_law 242 = .ok (.iaload, 1) := by decide +kernel
theorem dL_law_243 : decode cL_law 243 = .ok (.aload_n 0, 1) := by decide +kernel
theorem dL_law_244 : decode cL_law 244 = .ok (.iload_n 3, 1) := by decide +kernel
theorem dL_law_245 : decode cL_law 245 = .ok (.iconst 2, 1) := by decide +kernel
theorem dL_law_246 : decode cL_law 246 = .ok (.iadd, 1) := by decide +kernel
theorem dL_law_247 : decode cL_law 247 = .ok (.iaload, 1) := by decide +kernel
theorem dL_law_248 : decode cL_law 248 = .ok (.invokevirtual 31, 3) := by decide +kernel
theorem dL_law_251 : decode cL_law 251 = .ok (.if_icmp .eq 491, 3) := by decide +kernel
theorem dL_law_254 : decode cL_law 254 = .ok (.iconst 0, 1) := by decide +kernel
theorem dL_law_255 : decode cL_law 255 = .ok (.ireturn, 1) := by decide +kernel
theorem dL_law_256 : decode cL_law 256 = .ok (.aload_n 1, 1) := by decide +kernel
theorem dL_law_257 : decode cL_law 257 = .ok (.aload_n 0, 1) := by decide +kernel
theorem dL_law_258 : decode cL_law 258 = .ok (.iload_n 3, 1) := by decide +kernel
theorem dL_law_259 : decode cL_law 259 = .ok (.iconst 1, 1) := by decide +kernel
theorem dL_law_260 : decode cL_law 260 = .ok (.iadd, 1) := by decide +kernel
theorem dL_law_261 : decode cL_law 261 = .ok (.iaload, 1) := by decide +kernel
theorem dL_law_262 : decode cL_law 262 = .ok (.aload_n 0, 1) := by decide +kernel
theorem dL_law_263 : decode cL_law 263 = .ok (.iload_n 3, 1) := by decide +kernel
theorem dL_law_264 : decode cL_law 264 = .ok (.iconst 2, 1) := by decide +kernel
theorem dL_law_265 : decode cL_law 265 = .ok (.iadd, 1) := by decide +kernel
theorem dL_law_266 : decode cL_law 266 = .ok (.iaload, 1) := by decide +kernel
theorem dL_law_267 : decode cL_law 267 = .ok (.invokevirtual 32, 3) := by decide +kernel
theorem dL_law_270 : decode cL_law 270 = .ok (.aload_n 2, 1) := by decide +kernel
theorem dL_law_271 : decode cL_law 271 = .ok (.aload_n 0, 1) := by decide +kernel
theorem dL_law_272 : decode cL_law 272 = .ok (.iload_n 3, 1) := by decide +kernel
theorem dL_law_273 : decode cL_law 273 = .ok (.iconst 1, 1) := by decide +kernel
theorem dL_law_274 : decode cL_law 274 = .ok (.iadd, 1) := by decide +kernel
theorem dL_law_275 : decode cL_law 275 = .ok (.iaload, 1) := by decide +kernel
theorem dL_law_276 : decode cL_law 276 = .ok (.aload_n 0, 1) := by decide +kernel
theorem dL_law_277 : decode cL_law 277 = .ok (.iload_n 3, 1) := by decide +kernel
theorem dL_law_278 : decode cL_law 278 = .ok (.iconst 2, 1) := by decide +kernel
theorem dL_law_279 : decode cL_law 279 = .ok (.iadd, 1) := by decide +kernel
theorem dL_law_280 : decode cL_law 280 = .ok (.iaload, 1) := by decide +kernel
theorem dL_law_281 : decode cL_law 281 = .ok (.invokevirtual 35, 3) := by decide +kernel
theorem dL_law_284 : decode cL_law 284 = .ok (.if_icmp .eq 458, 3) := by decide +kernel
theorem dL_law_287 : decode cL_law 287 = .ok (.iconst 0, 1) := by decide +kernel
theorem dL_law_288 : decode cL_law 288 = .ok (.ireturn, 1) := by decide +kernel
theorem dL_law_289 : decode cL_law 289 = .ok (.aload_n 1, 1) := by decide +kernel
theorem dL_law_290 : decode cL_law 290 = .ok (.aload_n 0, 1) := by decide +kernel
theorem dL_law_291 : decode cL_law 291 = .ok (.iload_n 3, 1) := by decide +kernel
theorem dL_law_292 : decode cL_law 292 = .ok (.iconst 1, 1) := by decide +kernel
theorem dL_law_293 : decode cL_law 293 = .ok (.iadd, 1) := by decide +kernel
theorem dL_law_294 : decode cL_law 294 = .ok (.iaload, 1) := by decide +kernel
theorem dL_law_295 : decode cL_law 295 = .ok (.aload_n 0, 1) := by decide +kernel
theorem dL_law_296 : decode cL_law 296 = .ok (.iload_n 3, 1) := by decide +kernel
theorem dL_law_297 : decode cL_law 297 = .ok (.iconst 2, 1) := by decide +kernel
theorem dL_law_298 : decode cL_law 298 = .ok (.iadd, 1) := by decide +kernel
theorem dL_law_299 : decode cL_law 299 = .ok (.iaload, 1) := by decide +kernel
theorem dL_law_300 : decode cL_law 300 = .ok (.invokevirtual 36, 3) := by decide +kernel
theorem dL_law_303 : decode cL_law 303 = .ok (.aload_n 2, 1) := by decide +kernel
theorem dL_law_304 : decode cL_law 304 = .ok (.aload_n 0, 1) := by decide +kernel
theorem dL_law_305 : decode cL_law 305 = .ok (.iload_n 3, 1) := by decide +kernel
theorem dL_law_306 : decode cL_law 306 = .ok (.iconst 1, 1) := by decide +kernel
theorem dL_law_307 : decode cL_law 307 = .ok (.iadd, 1) := by decide +kernel
theorem dL_law_308 : decode cL_law 308 = .ok (.iaload, 1) := by decide +kernel
theorem dL_law_309 : decode cL_law 309 = .ok (.aload_n 0, 1) := by decide +kernel
theorem dL_law_310 : decode cL_law 310 = .ok (.iload_n 3, 1) := by decide +kernel
theorem dL_law_311 : decode cL_law 311 = .ok (.iconst 2, 1) := by decide +kernel
theorem dL_law_312 : decode cL_law 312 = .ok (.iadd, 1) := by decide +kernel
theorem dL_law_313 : decode cL_law 313 = .ok (.iaload, 1) := by decide +kernel
theorem dL_law_314 : decode cL_law 314 = .ok (.invokevirtual 39, 3) := by decide +kernel
theorem dL_law_317 : decode cL_law 317 = .ok (.if_icmp .eq 425, 3) := by decide +kernel
theorem dL_law_320 : decode cL_law 320 = .ok (.iconst 0, 1) := by decide +kernel
theorem dL_law_321 : decode cL_law 321 = .ok (.ireturn, 1) := by decide +kernel
theorem dL_law_322 : decode cL_law 322 = .ok (.aload_n 1, 1) := by decide +kernel
theorem dL_law_323 : decode cL_law 323 = .ok (.aload_n 0, 1) := by decide +kernel
theorem dL_law_324 : decode cL_law 324 = .ok (.iload_n 3, 1) := by decide +kernel
theorem dL_law_325 : decode cL_law 325 = .ok (.iconst 1, 1) := by decide +kernel
theorem dL_law_326 : decode cL_law 326 = .ok (.iadd, 1) := by decide +kernel
theorem dL_law_327 : decode cL_law 327 = .ok (.iaload, 1) := by decide +kernel
theorem dL_law_328 : decode cL_law 328 = .ok (.invokevirtual 40, 3) := by decide +kernel
theorem dL_law_331 : decode cL_law 331 = .ok (.aload_n 2, 1) := by decide +kernel
theorem dL_law_332 : decode cL_law 332 = .ok (.aload_n 0, 1) := by decide +kernel
theorem dL_law_333 : decode cL_law 333 = .ok (.iload_n 3, 1) := by decide +kernel
theorem dL_law_334 : decode cL_law 334 = .ok (.iconst 1, 1) := by decide +kernel
theorem dL_law_335 : decode cL_law 335 = .ok (.iadd, 1) := by decide +kernel
theorem dL_law_336 : decode cL_law 336 = .ok (.iaload, 1) := by decide +kernel
theorem dL_law_337 : decode cL_law 337 = .ok (.invokevirtual 44, 3) := by decide +kernel
theorem dL_law_340 : decode cL_law 340 = .ok (.lcmp, 1) := by decide +kernel
theorem dL_law_341 : decode cL_law 341 = .ok (.ifCond .eq 401, 3) := by decide +kernel
theorem dL_law_344 : decode cL_law 344 = .ok (.iconst 0, 1) := by decide +kernel
theorem dL_law_345 : decode cL_law 345 = .ok (.ireturn, 1) := by decide +kernel
theorem dL_law_346 : decode cL_law 346 = .ok (.aload_n 1, 1) := by decide +kernel
theorem dL_law_347 : decode cL_law 347 = .ok (.aload_n 0, 1) := by decide +kernel
theorem dL_law_348 : decode cL_law 348 = .ok (.iload_n 3, 1) := by decide +kernel
theorem dL_law_349 : decode cL_law 349 = .ok (.iconst 1, 1) := by decide +kernel
theorem dL_law_350 : decode cL_law 350 = .ok (.iadd, 1) := by decide +kernel
theorem dL_law_351 : decode cL_law 351 = .ok (.iaload, 1) := by decide +kernel
theorem dL_law_352 : decode cL_law 352 = .ok (.invokevirtual 45, 3) := by decide +kernel
theorem dL_law_355 : decode cL_law 355 = .ok (.aload_n 2, 1) := by decide +kernel
theorem dL_law_356 : decode cL_law 356 = .ok (.aload_n 0, 1) := by decide +kernel
theorem dL_law_357 : decode cL_law 357 = .ok (.iload_n 3, 1) := by decide +kernel
theorem dL_law_358 : decode cL_law 358 = .ok (.iconst 1, 1) := by decide +kernel
theorem dL_law_359 : decode cL_law 359 = .ok (.iadd, 1) := by decide +kernel
theorem dL_law_360 : decode cL_law 360 = .ok (.iaload, 1) := by decide +kernel
theorem dL_law_361 : decode cL_law 361 = .ok (.invokevirtual 48, 3) := by decide +kernel
theorem dL_law_364 : decode cL_law 364 = .ok (.if_icmp .eq 378, 3) := by decide +kernel
theorem dL_law_367 : decode cL_law 367 = .ok (.iconst 0, 1) := by decide +kernel
theorem dL_law_368 : decode cL_law 368 = .ok (.ireturn, 1) := by decide +kernel
theorem dL_law_369 : decode cL_law 369 = .ok (.aload_n 1, 1) := by decide +kernel
theorem dL_law_370 : decode cL_law 370 = .ok (.aload_n 0, 1) := by decide +kernel
theorem dL_law_371 : decode cL_law 371 = .ok (.iload_n 3, 1) := by decide +kernel
theorem dL_law_372 : decode cL_law 372 = .ok (.iconst 1, 1) := by decide +kernel
theorem dL_law_373 : decode cL_law 373 = .ok (.iadd, 1) := by decide +kernel
theorem dL_law_374 : decode cL_law 374 = .ok (.iaload, 1) := by decide +kernel
theorem dL_law_375 : decode cL_law 375 = .ok (.aload_n 0, 1) := by decide +kernel
theorem dL_law_376 : decode cL_law 376 = .ok (.iload_n 3, 1) := by decide +kernel
theorem dL_law_377 : decode cL_law 377 = .ok (.iconst 2, 1) := by decide +kernel
theorem dL_law_378 : decode cL_law 378 = .ok (.iadd, 1) := by decide +kernel
theorem dL_law_379 : decode cL_law 379 = .ok (.iaload, 1) := by decide +kernel
theorem dL_law_380 : decode cL_law 380 = .ok (.aload_n 0, 1) := by decide +kernel
theorem dL_law_381 : decode cL_law 381 = .ok (.iload_n 3, 1) := by decide +kernel
theorem dL_law_382 : decode cL_law 382 = .ok (.iconst 3, 1) := by decide +kernel
theorem dL_law_383 : decode cL_law 383 = .ok (.iadd, 1) := by decide +kernel
theorem dL_law_384 : decode cL_law 384 = .ok (.iaload, 1) := by decide +kernel
theorem dL_law_385 : decode cL_law 385 = .ok (.invokevirtual 49, 3) := by decide +kernel
theorem dL_law_388 : decode cL_law 388 = .ok (.aload_n 2, 1) := by decide +kernel
theorem dL_law_389 : decode cL_law 389 = .ok (.aload_n 0, 1) := by decide +kernel
theorem dL_law_390 : decode cL_law 390 = .ok (.iload_n 3, 1) := by decide +kernel
theorem dL_law_391 : decode cL_law 391 = .ok (.iconst 1, 1) := by decide +kernel
theorem dL_law_392 : decode cL_law 392 = .ok (.iadd, 1) := by decide +kernel
theorem dL_law_393 : decode cL_law 393 = .ok (.iaload, 1) := by decide +kernel
theorem dL_law_394 : decode cL_law 394 = .ok (.aload_n 0, 1) := by decide +kernel
theorem dL_law_395 : decode cL_law 395 = .ok (.iload_n 3, 1) := by decide +kernel
theorem dL_law_396 : decode cL_law 396 = .ok (.iconst 2, 1) := by decide +kernel
theorem dL_law_397 : decode cL_law 397 = .ok (.iadd, 1) := by decide +kernel
theorem dL_law_398 : decode cL_law 398 = .ok (.iaload, 1) := by decide +kernel
theorem dL_law_399 : decode cL_law 399 = .ok (.aload_n 0, 1) := by decide +kernel
theorem dL_law_400 : decode cL_law 400 = .ok (.iload_n 3, 1) := by decide +kernel
theorem dL_law_401 : decode cL_law 401 = .ok (.iconst 3, 1) := by decide +kernel
theorem dL_law_402 : decode cL_law 402 = .ok (.iadd, 1) := by decide +kernel
theorem dL_law_403 : decode cL_law 403 = .ok (.iaload, 1) := by decide +kernel
theorem dL_law_404 : decode cL_law 404 = .ok (.invokevirtual 53, 3) := by decide +kernel
theorem dL_law_407 : decode cL_law 407 = .ok (.if_icmp .eq 335, 3) := by decide +kernel
theorem dL_law_410 : decode cL_law 410 = .ok (.iconst 0, 1) := by decide +kernel
theorem dL_law_411 : decode cL_law 411 = .ok (.ireturn, 1) := by decide +kernel
theorem dL_law_412 : decode cL_law 412 = .ok (.aload_n 1, 1) := by decide +kernel
theorem dL_law_413 : decode cL_law 413 = .ok (.aload_n 0, 1) := by decide +kernel
theorem dL_law_414 : decode cL_law 414 = .ok (.iload_n 3, 1) := by decide +kernel
theorem dL_law_415 : decode cL_law 415 = .ok (.iconst 1, 1) := by decide +kernel
theorem dL_law_416 : decode cL_law 416 = .ok (.iadd, 1) := by decide +kernel
theorem dL_law_417 : decode cL_law 417 = .ok (.iaload, 1) := by decide +kernel
theorem dL_law_418 : decode cL_law 418 = .ok (.aload_n 0, 1) := by decide +kernel
theorem dL_law_419 : decode cL_law 419 = .ok (.iload_n 3, 1) := by decide +kernel
theorem dL_law_420 : decode cL_law 420 = .ok (.iconst 2, 1) := by decide +kernel
theorem dL_law_421 : decode cL_law 421 = .ok (.iadd, 1) := by decide +kernel
theorem dL_law_422 : decode cL_law 422 = .ok (.iaload, 1) := by decide +kernel
theorem dL_law_423 : decode cL_law 423 = .ok (.aload_n 0, 1) := by decide +kernel
theorem dL_law_424 : decode cL_law 424 = .ok (.iload_n 3, 1) := by decide +kernel
theorem dL_law_425 : decode cL_law 425 = .ok (.iconst 3, 1) := by decide +kernel
theorem dL_law_426 : decode cL_law 426 = .ok (.iadd, 1) := by decide +kernel
theorem dL_law_427 : decode cL_law 427 = .ok (.iaload, 1) := by decide +kernel
theorem dL_law_428 : decode cL_law 428 = .ok (.aload_n 0, 1) := by decide +kernel
theorem dL_law_429 : decode cL_law 429 = .ok (.iload_n 3, 1) := by decide +kernel
theorem dL_law_430 : decode cL_law 430 = .ok (.iconst 4, 1) := by decide +kernel
theorem dL_law_431 : decode cL_law 431 = .ok (.iadd, 1) := by decide +kernel
theorem dL_law_432 : decode cL_law 432 = .ok (.iaload, 1) := by decide +kernel
theorem dL_law_433 : decode cL_law 433 = .ok (.invokevirtual 54, 3) := by decide +kernel
theorem dL_law_436 : decode cL_law 436 = .ok (.aload_n 2, 1) := by decide +kernel
theorem dL_law_437 : decode cL_law 437 = .ok (.aload_n 0, 1) := by decide +kernel
theorem dL_law_438 : decode cL_law 438 = .ok (.iload_n 3, 1) := by decide +kernel
theorem dL_law_439 : decode cL_law 439 = .ok (.iconst 1, 1) := by decide +kernel
theorem dL_law_440 : decode cL_law 440 = .ok (.iadd, 1) := by decide +kernel
theorem dL_law_441 : decode cL_law 441 = .ok (.iaload, 1) := by decide +kernel
theorem dL_law_442 : decode cL_law 442 = .ok (.aload_n 0, 1) := by decide +kernel
theorem dL_law_443 : decode cL_law 443 = .ok (.iload_n 3, 1) := by decide +kernel
theorem dL_law_444 : decode cL_law 444 = .ok (.iconst 2, 1) := by decide +kernel
theorem dL_law_445 : decode cL_law 445 = .ok (.iadd, 1) := by decide +kernel
theorem dL_law_446 : decode cL_law 446 = .ok (.iaload, 1) := by decide +kernel
theorem dL_law_447 : decode cL_law 447 = .ok (.aload_n 0, 1) := by decide +kernel
theorem dL_law_448 : decode cL_law 448 = .ok (.iload_n 3, 1) := by decide +kernel
theorem dL_law_449 : decode cL_law 449 = .ok (.iconst 3, 1) := by decide +kernel
theorem dL_law_450 : decode cL_law 450 = .ok (.iadd, 1) := by decide +kernel
theorem dL_law_451 : decode cL_law 451 = .ok (.iaload, 1) := by decide +kernel
theorem dL_law_452 : decode cL_law 452 = .ok (.aload_n 0, 1) := by decide +kernel
theorem dL_law_453 : decode cL_law 453 = .ok (.iload_n 3, 1) := by decide +kernel
theorem dL_law_454 : decode cL_law 454 = .ok (.iconst 4, 1) := by decide +kernel
theorem dL_law_455 : decode cL_law 455 = .ok (.iadd, 1) := by decide +kernel
theorem dL_law_456 : decode cL_law 456 = .ok (.iaload, 1) := by decide +kernel
theorem dL_law_457 : decode cL_law 457 = .ok (.invokevirtual 57, 3) := by decide +kernel
theorem dL_law_460 : decode cL_law 460 = .ok (.if_icmp .eq 282, 3) := by decide +kernel
theorem dL_law_463 : decode cL_law 463 = .ok (.iconst 0, 1) := by decide +kernel
theorem dL_law_464 : decode cL_law 464 = .ok (.ireturn, 1) := by decide +kernel
theorem dL_law_465 : decode cL_law 465 = .ok (.aload_n 1, 1) := by decide +kernel
theorem dL_law_466 : decode cL_law 466 = .ok (.aload_n 0, 1) := by decide +kernel
theorem dL_law_467 : decode cL_law 467 = .ok (.iload_n 3, 1) := by decide +kernel
theorem dL_law_468 : decode cL_law 468 = .ok (.iconst 1, 1) := by decide +kernel
theorem dL_law_469 : decode cL_law 469 = .ok (.iadd, 1) := by decide +kernel
theorem dL_law_470 : decode cL_law 470 = .ok (.iaload, 1) := by decide +kernel
theorem dL_law_471 : decode cL_law 471 = .ok (.aload_n 0, 1) := by decide +kernel
theorem dL_law_472 : decode cL_law 472 = .ok (.iload_n 3, 1) := by decide +kernel
theorem dL_law_473 : decode cL_law 473 = .ok (.iconst 2, 1) := by decide +kernel
theorem dL_law_474 : decode cL_law 474 = .ok (.iadd, 1) := by decide +kernel
theorem dL_law_475 : decode cL_law 475 = .ok (.iaload, 1) := by decide +kernel
theorem dL_law_476 : decode cL_law 476 = .ok (.aload_n 0, 1) := by decide +kernel
theorem dL_law_477 : decode cL_law 477 = .ok (.iload_n 3, 1) := by decide +kernel
theorem dL_law_478 : decode cL_law 478 = .ok (.iconst 3, 1) := by decide +kernel
theorem dL_law_479 : decode cL_law 479 = .ok (.iadd, 1) := by decide +kernel
theorem dL_law_480 : decode cL_law 480 = .ok (.iaload, 1) := by decide +kernel
theorem dL_law_481 : decode cL_law 481 = .ok (.aload_n 0, 1) := by decide +kernel
theorem dL_law_482 : decode cL_law 482 = .ok (.iload_n 3, 1) := by decide +kernel
theorem dL_law_483 : decode cL_law 483 = .ok (.iconst 4, 1) := by decide +kernel
theorem dL_law_484 : decode cL_law 484 = .ok (.iadd, 1) := by decide +kernel
theorem dL_law_485 : decode cL_law 485 = .ok (.iaload, 1) := by decide +kernel
theorem dL_law_486 : decode cL_law 486 = .ok (.invokevirtual 58, 3) := by decide +kernel
theorem dL_law_489 : decode cL_law 489 = .ok (.aload_n 2, 1) := by decide +kernel
theorem dL_law_490 : decode cL_law 490 = .ok (.aload_n 0, 1) := by decide +kernel
theorem dL_law_491 : decode cL_law 491 = .ok (.iload_n 3, 1) := by decide +kernel
theorem dL_law_492 : decode cL_law 492 = .ok (.iconst 1, 1) := by decide +kernel
theorem dL_law_493 : decode cL_law 493 = .ok (.iadd, 1) := by decide +kernel
theorem dL_law_494 : decode cL_law 494 = .ok (.iaload, 1) := by decide +kernel
theorem dL_law_495 : decode cL_law 495 = .ok (.aload_n 0, 1) := by decide +kernel
theorem dL_law_496 : decode cL_law 496 = .ok (.iload_n 3, 1) := by decide +kernel
theorem dL_law_497 : decode cL_law 497 = .ok (.iconst 2, 1) := by decide +kernel
theorem dL_law_498 : decode cL_law 498 = .ok (.iadd, 1) := by decide +kernel
theorem dL_law_499 : decode cL_law 499 = .ok (.iaload, 1) := by decide +kernel
theorem dL_law_500 : decode cL_law 500 = .ok (.aload_n 0, 1) := by decide +kernel
theorem dL_law_501 : decode cL_law 501 = .ok (.iload_n 3, 1) := by decide +kernel
theorem dL_law_502 : decode cL_law 502 = .ok (.iconst 3, 1) := by decide +kernel
theorem dL_law_503 : decode cL_law 503 = .ok (.iadd, 1) := by decide +kernel
theorem dL_law_504 : decode cL_law 504 = .ok (.iaload, 1) := by decide +kernel
theorem dL_law_505 : decode cL_law 505 = .ok (.aload_n 0, 1) := by decide +kernel
theorem dL_law_506 : decode cL_law 506 = .ok (.iload_n 3, 1) := by decide +kernel
theorem dL_law_507 : decode cL_law 507 = .ok (.iconst 4, 1) := by decide +kernel
theorem dL_law_508 : decode cL_law 508 = .ok (.iadd, 1) := by decide +kernel
theorem dL_law_509 : decode cL_law 509 = .ok (.iaload, 1) := by decide +kernel
theorem dL_law_510 : decode cL_law 510 = .ok (.invokevirtual 61, 3) := by decide +kernel
theorem dL_law_513 : decode cL_law 513 = .ok (.if_icmp .eq 229, 3) := by decide +kernel
theorem dL_law_516 : decode cL_law 516 = .ok (.iconst 0, 1) := by decide +kernel
theorem dL_law_517 : decode cL_law 517 = .ok (.ireturn, 1) := by decide +kernel
theorem dL_law_518 : decode cL_law 518 = .ok (.aload_n 1, 1) := by decide +kernel
theorem dL_law_519 : decode cL_law 519 = .ok (.aload_n 0, 1) := by decide +kernel
theorem dL_law_520 : decode cL_law 520 = .ok (.iload_n 3, 1) := by decide +kernel
theorem dL_law_521 : decode cL_law 521 = .ok (.iconst 1, 1) := by decide +kernel
theorem dL_law_522 : decode cL_law 522 = .ok (.iadd, 1) := by decide +kernel
theorem dL_law_523 : decode cL_law 523 = .ok (.iaload, 1) := by decide +kernel
theorem dL_law_524 : decode cL_law 524 = .ok (.aload_n 0, 1) := by decide +kernel
theorem dL_law_525 : decode cL_law 525 = .ok (.iload_n 3, 1) := by decide +kernel
theorem dL_law_526 : decode cL_law 526 = .ok (.iconst 2, 1) := by decide +kernel
theorem dL_law_527 : decode cL_law 527 = .ok (.iadd, 1) := by decide +kernel
theorem dL_law_528 : decode cL_law 528 = .ok (.iaload, 1) := by decide +kernel
theorem dL_law_529 : decode cL_law 529 = .ok (.invokevirtual 62, 3) := by decide +kernel
theorem dL_law_532 : decode cL_law 532 = .ok (.aload_n 2, 1) := by decide +kernel
theorem dL_law_533 : decode cL_law 533 = .ok (.aload_n 0, 1) := by decide +kernel
theorem dL_law_534 : decode cL_law 534 = .ok (.iload_n 3, 1) := by decide +kernel
theorem dL_law_535 : decode cL_law 535 = .ok (.iconst 1, 1) := by decide +kernel
theorem dL_law_536 : decode cL_law 536 = .ok (.iadd, 1) := by decide +kernel
theorem dL_law_537 : decode cL_law 537 = .ok (.iaload, 1) := by decide +kernel
theorem dL_law_538 : decode cL_law 538 = .ok (.aload_n 0, 1) := by decide +kernel
theorem dL_law_539 : decode cL_law 539 = .ok (.iload_n 3, 1) := by decide +kernel
theorem dL_law_540 : decode cL_law 540 = .ok (.iconst 2, 1) := by decide +kernel
theorem dL_law_541 : decode cL_law 541 = .ok (.iadd, 1) := by decide +kernel
theorem dL_law_542 : decode cL_law 542 = .ok (.iaload, 1) := by decide +kernel
theorem dL_law_543 : decode cL_law 543 = .ok (.invokevirtual 65, 3) := by decide +kernel
theorem dL_law_546 : decode cL_law 546 = .ok (.if_icmp .eq 196, 3) := by decide +kernel
theorem dL_law_549 : decode cL_law 549 = .ok (.iconst 0, 1) := by decide +kernel
theorem dL_law_550 : decode cL_law 550 = .ok (.ireturn, 1) := by decide +kernel
theorem dL_law_551 : decode cL_law 551 = .ok (.aload_n 1, 1) := by decide +kernel
theorem dL_law_552 : decode cL_law 552 = .ok (.aload_n 0, 1) := by decide +kernel
theorem dL_law_553 : decode cL_law 553 = .ok (.iload_n 3, 1) := by decide +kernel
theorem dL_law_554 : decode cL_law 554 = .ok (.iconst 1, 1) := by decide +kernel
theorem dL_law_555 : decode cL_law 555 = .ok (.iadd, 1) := by decide +kernel
theorem dL_law_556 : decode cL_law 556 = .ok (.iaload, 1) := by decide +kernel
theorem dL_law_557 : decode cL_law 557 = .ok (.aload_n 0, 1) := by decide +kernel
theorem dL_law_558 : decode cL_law 558 = .ok (.iload_n 3, 1) := by decide +kernel
theorem dL_law_559 : decode cL_law 559 = .ok (.iconst 2, 1) := by decide +kernel
theorem dL_law_560 : decode cL_law 560 = .ok (.iadd, 1) := by decide +kernel
theorem dL_law_561 : decode cL_law 561 = .ok (.iaload, 1) := by decide +kernel
theorem dL_law_562 : decode cL_law 562 = .ok (.invokevirtual 66, 3) := by decide +kernel
theorem dL_law_565 : decode cL_law 565 = .ok (.aload_n 2, 1) := by decide +kernel
theorem dL_law_566 : decode cL_law 566 = .ok (.aload_n 0, 1) := by decide +kernel
theorem dL_law_567 : decode cL_law 567 = .ok (.iload_n 3, 1) := by decide +kernel
theorem dL_law_568 : decode cL_law 568 = .ok (.iconst 1, 1) := by decide +kernel
theorem dL_law_569 : decode cL_law 569 = .ok (.iadd, 1) := by decide +kernel
theorem dL_law_570 : decode cL_law 570 = .ok (.iaload, 1) := by decide +kernel
theorem dL_law_571 : decode cL_law 571 = .ok (.aload_n 0, 1) := by decide +kernel
theorem dL_law_572 : decode cL_law 572 = .ok (.iload_n 3, 1) := by decide +kernel
theorem dL_law_573 : decode cL_law 573 = .ok (.iconst 2, 1) := by decide +kernel
theorem dL_law_574 : decode cL_law 574 = .ok (.iadd, 1) := by decide +kernel
theorem dL_law_575 : decode cL_law 575 = .ok (.iaload, 1) := by decide +kernel
theorem dL_law_576 : decode cL_law 576 = .ok (.invokevirtual 69, 3) := by decide +kernel
theorem dL_law_579 : decode cL_law 579 = .ok (.if_icmp .eq 163, 3) := by decide +kernel
theorem dL_law_582 : decode cL_law 582 = .ok (.iconst 0, 1) := by decide +kernel
theorem dL_law_583 : decode cL_law 583 = .ok (.ireturn, 1) := by decide +kernel
theorem dL_law_584 : decode cL_law 584 = .ok (.aload_n 1, 1) := by decide +kernel
theorem dL_law_585 : decode cL_law 585 = .ok (.aload_n 0, 1) := by decide +kernel
theorem dL_law_586 : decode cL_law 586 = .ok (.iload_n 3, 1) := by decide +kernel
theorem dL_law_587 : decode cL_law 587 = .ok (.iconst 1, 1) := by decide +kernel
theorem dL_law_588 : decode cL_law 588 = .ok (.iadd, 1) := by decide +kernel
theorem dL_law_589 : decode cL_law 589 = .ok (.iaload, 1) := by decide +kernel
theorem dL_law_590 : decode cL_law 590 = .ok (.aload_n 0, 1) := by decide +kernel
theorem dL_law_591 : decode cL_law 591 = .ok (.iload_n 3, 1) := by decide +kernel
theorem dL_law_592 : decode cL_law 592 = .ok (.iconst 2, 1) := by decide +kernel
theorem dL_law_593 : decode cL_law 593 = .ok (.iadd, 1) := by decide +kernel
theorem dL_law_594 : decode cL_law 594 = .ok (.iaload, 1) := by decide +kernel
theorem dL_law_595 : decode cL_law 595 = .ok (.invokevirtual 70, 3) := by decide +kernel
theorem dL_law_598 : decode cL_law 598 = .ok (.aload_n 2, 1) := by decide +kernel
theorem dL_law_599 : decode cL_law 599 = .ok (.aload_n 0, 1) := by decide +kernel
theorem dL_law_600 : decode cL_law 600 = .ok (.iload_n 3, 1) := by decide +kernel
theorem dL_law_601 : decode cL_law 601 = .ok (.iconst 1, 1) := by decide +kernel
theorem dL_law_602 : decode cL_law 602 = .ok (.iadd, 1) := by decide +kernel
theorem dL_law_603 : decode cL_law 603 = .ok (.iaload, 1) := by decide +kernel
theorem dL_law_604 : decode cL_law 604 = .ok (.aload_n 0, 1) := by decide +kernel
theorem dL_law_605 : decode cL_law 605 = .ok (.iload_n 3, 1) := by decide +kernel
theorem dL_law_606 : decode cL_law 606 = .ok (.iconst 2, 1) := by decide +kernel
theorem dL_law_607 : decode cL_law 607 = .ok (.iadd, 1) := by decide +kernel
theorem dL_law_608 : decode cL_law 608 = .ok (.iaload, 1) := by decide +kernel
theorem dL_law_609 : decode cL_law 609 = .ok (.invokevirtual 73, 3) := by decide +kernel
theorem dL_law_612 : decode cL_law 612 = .ok (.if_icmp .eq 130, 3) := by decide +kernel
theorem dL_law_615 : decode cL_law 615 = .ok (.iconst 0, 1) := by decide +kernel
theorem dL_law_616 : decode cL_law 616 = .ok (.ireturn, 1) := by decide +kernel
theorem dL_law_617 : decode cL_law 617 = .ok (.aload_n 1, 1) := by decide +kernel
theorem dL_law_618 : decode cL_law 618 = .ok (.aload_n 0, 1) := by decide +kernel
theorem dL_law_619 : decode cL_law 619 = .ok (.iload_n 3, 1) := by decide +kernel
theorem dL_law_620 : decode cL_law 620 = .ok (.iconst 1, 1) := by decide +kernel
theorem dL_law_621 : decode cL_law 621 = .ok (.iadd, 1) := by decide +kernel
theorem dL_law_622 : decode cL_law 622 = .ok (.iaload, 1) := by decide +kernel
theorem dL_law_623 : decode cL_law 623 = .ok (.aload_n 0, 1) := by decide +kernel
theorem dL_law_624 : decode cL_law 624 = .ok (.iload_n 3, 1) := by decide +kernel
theorem dL_law_625 : decode cL_law 625 = .ok (.iconst 2, 1) := by decide +kernel
theorem dL_law_626 : decode cL_law 626 = .ok (.iadd, 1) := by decide +kernel
theorem dL_law_627 : decode cL_law 627 = .ok (.iaload, 1) := by decide +kernel
theorem dL_law_628 : decode cL_law 628 = .ok (.invokevirtual 74, 3) := by decide +kernel
theorem dL_law_631 : decode cL_law 631 = .ok (.aload_n 2, 1) := by decide +kernel
theorem dL_law_632 : decode cL_law 632 = .ok (.aload_n 0, 1) := by decide +kernel
theorem dL_law_633 : decode cL_law 633 = .ok (.iload_n 3, 1) := by decide +kernel
theorem dL_law_634 : decode cL_law 634 = .ok (.iconst 1, 1) := by decide +kernel
theorem dL_law_635 : decode cL_law 635 = .ok (.iadd, 1) := by decide +kernel
theorem dL_law_636 : decode cL_law 636 = .ok (.iaload, 1) := by decide +kernel
theorem dL_law_637 : decode cL_law 637 = .ok (.aload_n 0, 1) := by decide +kernel
theorem dL_law_638 : decode cL_law 638 = .ok (.iload_n 3, 1) := by decide +kernel
theorem dL_law_639 : decode cL_law 639 = .ok (.iconst 2, 1) := by decide +kernel
theorem dL_law_640 : decode cL_law 640 = .ok (.iadd, 1) := by decide +kernel
theorem dL_law_641 : decode cL_law 641 = .ok (.iaload, 1) := by decide +kernel
theorem dL_law_642 : decode cL_law 642 = .ok (.invokevirtual 77, 3) := by decide +kernel
theorem dL_law_645 : decode cL_law 645 = .ok (.if_icmp .eq 97, 3) := by decide +kernel
theorem dL_law_648 : decode cL_law 648 = .ok (.iconst 0, 1) := by decide +kernel
theorem dL_law_649 : decode cL_law 649 = .ok (.ireturn, 1) := by decide +kernel
theorem dL_law_650 : decode cL_law 650 = .ok (.aload_n 1, 1) := by decide +kernel
theorem dL_law_651 : decode cL_law 651 = .ok (.aload_n 0, 1) := by decide +kernel
theorem dL_law_652 : decode cL_law 652 = .ok (.iload_n 3, 1) := by decide +kernel
theorem dL_law_653 : decode cL_law 653 = .ok (.iconst 1, 1) := by decide +kernel
theorem dL_law_654 : decode cL_law 654 = .ok (.iadd, 1) := by decide +kernel
theorem dL_law_655 : decode cL_law 655 = .ok (.iaload, 1) := by decide +kernel
theorem dL_law_656 : decode cL_law 656 = .ok (.invokevirtual 78, 3) := by decide +kernel
theorem dL_law_659 : decode cL_law 659 = .ok (.aload_n 2, 1) := by decide +kernel
theorem dL_law_660 : decode cL_law 660 = .ok (.aload_n 0, 1) := by decide +kernel
theorem dL_law_661 : decode cL_law 661 = .ok (.iload_n 3, 1) := by decide +kernel
theorem dL_law_662 : decode cL_law 662 = .ok (.iconst 1, 1) := by decide +kernel
theorem dL_law_663 : decode cL_law 663 = .ok (.iadd, 1) := by decide +kernel
theorem dL_law_664 : decode cL_law 664 = .ok (.iaload, 1) := by decide +kernel
theorem dL_law_665 : decode cL_law 665 = .ok (.invokevirtual 81, 3) := by decide +kernel
theorem dL_law_668 : decode cL_law 668 = .ok (.if_icmp .eq 74, 3) := by decide +kernel
theorem dL_law_671 : decode cL_law 671 = .ok (.iconst 0, 1) := by decide +kernel
theorem dL_law_672 : decode cL_law 672 = .ok (.ireturn, 1) := by decide +kernel
theorem dL_law_673 : decode cL_law 673 = .ok (.aload_n 1, 1) := by decide +kernel
theorem dL_law_674 : decode cL_law 674 = .ok (.aload_n 0, 1) := by decide +kernel
theorem dL_law_675 : decode cL_law 675 = .ok (.iload_n 3, 1) := by decide +kernel
theorem dL_law_676 : decode cL_law 676 = .ok (.iconst 1, 1) := by decide +kernel
theorem dL_law_677 : decode cL_law 677 = .ok (.iadd, 1) := by decide +kernel
theorem dL_law_678 : decode cL_law 678 = .ok (.iaload, 1) := by decide +kernel
theorem dL_law_679 : decode cL_law 679 = .ok (.invokevirtual 82, 3) := by decide +kernel
theorem dL_law_682 : decode cL_law 682 = .ok (.aload_n 2, 1) := by decide +kernel
theorem dL_law_683 : decode cL_law 683 = .ok (.aload_n 0, 1) := by decide +kernel
theorem dL_law_684 : decode cL_law 684 = .ok (.iload_n 3, 1) := by decide +kernel
theorem dL_law_685 : decode cL_law 685 = .ok (.iconst 1, 1) := by decide +kernel
theorem dL_law_686 : decode cL_law 686 = .ok (.iadd, 1) := by decide +kernel
theorem dL_law_687 : decode cL_law 687 = .ok (.iaload, 1) := by decide +kernel
theorem dL_law_688 : decode cL_law 688 = .ok (.invokevirtual 85, 3) := by decide +kernel
theorem dL_law_691 : decode cL_law 691 = .ok (.if_icmp .eq 51, 3) := by decide +kernel
theorem dL_law_694 : decode cL_law 694 = .ok (.iconst 0, 1) := by decide +kernel
theorem dL_law_695 : decode cL_law 695 = .ok (.ireturn, 1) := by decide +kernel
theorem dL_law_696 : decode cL_law 696 = .ok (.aload_n 1, 1) := by decide +kernel
theorem dL_law_697 : decode cL_law 697 = .ok (.aload_n 0, 1) := by decide +kernel
theorem dL_law_698 : decode cL_law 698 = .ok (.iload_n 3, 1) := by decide +kernel
theorem dL_law_699 : decode cL_law 699 = .ok (.iconst 1, 1) := by decide +kernel
theorem dL_law_700 : decode cL_law 700 = .ok (.iadd, 1) := by decide +kernel
theorem dL_law_701 : decode cL_law 701 = .ok (.iaload, 1) := by decide +kernel
theorem dL_law_702 : decode cL_law 702 = .ok (.invokevirtual 86, 3) := by decide +kernel
theorem dL_law_705 : decode cL_law 705 = .ok (.aload_n 2, 1) := by decide +kernel
theorem dL_law_706 : decode cL_law 706 = .ok (.aload_n 0, 1) := by decide +kernel
theorem dL_law_707 : decode cL_law 707 = .ok (.iload_n 3, 1) := by decide +kernel
theorem dL_law_708 : decode cL_law 708 = .ok (.iconst 1, 1) := by decide +kernel
theorem dL_law_709 : decode cL_law 709 = .ok (.iadd, 1) := by decide +kernel
theorem dL_law_710 : decode cL_law 710 = .ok (.iaload, 1) := by decide +kernel
theorem dL_law_711 : decode cL_law 711 = .ok (.invokevirtual 89, 3) := by decide +kernel
theorem dL_law_714 : decode cL_law 714 = .ok (.if_icmp .eq 28, 3) := by decide +kernel
theorem dL_law_717 : decode cL_law 717 = .ok (.iconst 0, 1) := by decide +kernel
theorem dL_law_718 : decode cL_law 718 = .ok (.ireturn, 1) := by decide +kernel
theorem dL_law_719 : decode cL_law 719 = .ok (.aload_n 1, 1) := by decide +kernel
theorem dL_law_720 : decode cL_law 720 = .ok (.aload_n 0, 1) := by decide +kernel
theorem dL_law_721 : decode cL_law 721 = .ok (.iload_n 3, 1) := by decide +kernel
theorem dL_law_722 : decode cL_law 722 = .ok (.iconst 1, 1) := by decide +kernel
theorem dL_law_723 : decode cL_law 723 = .ok (.iadd, 1) := by decide +kernel
theorem dL_law_724 : decode cL_law 724 = .ok (.iaload, 1) := by decide +kernel
theorem dL_law_725 : decode cL_law 725 = .ok (.invokevirtual 90, 3) := by decide +kernel
theorem dL_law_728 : decode cL_law 728 = .ok (.aload_n 2, 1) := by decide +kernel
theorem dL_law_729 : decode cL_law 729 = .ok (.aload_n 0, 1) := by decide +kernel
theorem dL_law_730 : decode cL_law 730 = .ok (.iload_n 3, 1) := by decide +kernel
theorem dL_law_731 : decode cL_law 731 = .ok (.iconst 1, 1) := by decide +kernel
theorem dL_law_732 : decode cL_law 732 = .ok (.iadd, 1) := by decide +kernel
theorem dL_law_733 : decode cL_law 733 = .ok (.iaload, 1) := by decide +kernel
theorem dL_law_734 : decode cL_law 734 = .ok (.invokevirtual 93, 3) := by decide +kernel
theorem dL_law_737 : decode cL_law 737 = .ok (.if_icmp .eq 5, 3) := by decide +kernel
theorem dL_law_740 : decode cL_law 740 = .ok (.iconst 0, 1) := by decide +kernel
theorem dL_law_741 : decode cL_law 741 = .ok (.ireturn, 1) := by decide +kernel
theorem dL_law_742 : decode cL_law 742 = .ok (.iinc 3 5, 3) := by decide +kernel
theorem dL_law_745 : decode cL_law 745 = .ok (.goto (-727), 3) := by decide +kernel
theorem dL_law_748 : decode cL_law 748 = .ok (.iconst 1, 1) := by decide +kernel
theorem dL_law_749 : decode cL_law 749 = .ok (.ireturn, 1) := by decide +kernel
end
section
abbrev St : Type := Nat → Nat → Int32
def kdL : List Nat := [7, 5, 9, 9, 9, 9, 9, 9, 5, 9, 9, 9, 9, 9, 9, 5, 9, 9, 9, 9, 9, 9, 12, 4, 9, 6, 9, 9, 9, 9, 9, 9, 3, 1, 9, 9, 9, 11, 2, 9, 9, 2, 9, 9, 2, 9, 9, 2, 9, 9, 2, 9, 9, 2, 9, 9, 13, 9, 9, 13, 9, 9, 9, 9, 9, 0, 10, 9, 9, 9, 8, 9, 9, 9, 9, 9, 9, 10, 10, 9, 9, 9, 9, 9, 9, 9, 9, 9, 9, 10, 10, 9, 9, 9, 10]
def lnL : List Nat := [0, 0, 10, 10, 10, 10, 7, 7, 0, 10, 10, 10, 10, 7, 7, 0, 10, 10, 10, 10, 7, 7, 2, 0, 30, 0, 49, 64, 20, 20, 20, 8, 0, 0, 8, 7, 7, 6, 0, 7, 7, 0, 7, 7, 0, 7, 7, 0, 7, 7, 0, 7, 7, 0, 7, 7, 2, 128, 128, 2, 128, 128, 3, 3, 7, 0, 49, 49, 7, 7, 0, 10, 10, 10, 10, 7, 7, 7, 2, 30, 7, 88, 256, 1792, 7, 7, 7, 3, 49, 49, 49, 7, 7, 124, 2]
def kd (k : Nat) : Nat := kdL.getD k 99
def ln (k : Nat) : Nat := lnL.getD k 0
def rfL : List (List (Option (Bool × Nat))) := [[some (true, 1), some (true, 2), some (true, 3), some (true, 4), none, none], [some (false, 25), some (true, 1), some (true, 2), some (true, 3), none, none, none], [none, none, none, none, some (true, 1), some (true, 2)], [some (false, 1), some (false, 25), some (false, 33), some (false, 37), some (false, 56), some (false, 59), some (false, 62), some (false, 63), some (false, 64), none, none, none, none, none, none, none], [some (true, 1), none], [none, some (true, 1), some (true, 2), some (true, 3), some (true, 4), none, some (true, 5), some (true, 6)], [some (true, 1), some (true, 2), some (true, 3), some (true, 4), some (true, 5), some (true, 6), none, none, none, none], [some (false, 1), some (false, 22), none, some (false, 23), some (false, 25), some (false, 32), some (false, 65)], [none, some (true, 1), some (true, 2), some (true, 3), some (true, 4), some (true, 5), some (true, 6), some (true, 7), some (true, 8), some (true, 9), some (true, 10), some (true, 11), none, some (true, 12), some (true, 13), some (true, 14), some (true, 15), some (true, 16), some (true, 17), none, none, some (true, 18), some (true, 19), some (true, 20), some (true, 21), some (true, 22), none, some (true, 23), some (true, 24)]]
def rf (c j : Nat) : Option (Bool × Nat) := (rfL.getD c []).getD j none
def ro (k j : Nat) : Nat := match rf (kd k) j with
  | none => 0
  | some q => if q.1 then k + q.2 else q.2
def raB (k : Nat) : Nat × Nat := if k = 22 then (8, 7) else if k = 37 then (38, 3) else if k = 56 then (57, 1) else if k = 59 then (60, 1) else (0, 0)
def nfL : List Nat := [6, 7, 6, 16, 2, 8, 10, 7, 29]
abbrev classes : List vw_C := [(RX0, TX0, 6), (RX1, TX1, 7), (RX2, TX2, 6), (RX3, TX3, 16), (RX4, TX4, 2), (RX5, TX5, 8), (RX6, TX6, 10), (RX7, TX7, 7), (RX8, TX8, 29)]
def fv (ad : Nat → Nat) (st : St) (k j : Nat) : Value := match rf (kd k) j with
  | none => .int (st k j)
  | some q => .ref (ad (if q.1 then k + q.2 else q.2))
def fs (ad : Nat → Nat) (st : St) (k : Nat) : List Value := (List.range (nfL.getD (kd k) 0)).map (fv ad st k)
def ce (ad : Nat → Nat) (cy : Nat → ClassId) (st : St) (k : Nat) : va_E :=
  if kd k < 9 then .inr (kd k, fs ad st k)
  else if kd k < 11 then .inl (cy (kd k), ln k, .inl (st k))
  else .inl (cy (kd k), ln k, .inr (.inr (.inr (.inr (fun i => some (ad ((raB k).1 + (raB k).2 * i)))))))
def tys (cy : Nat → ClassId) : List (ClassId × FieldType) := [(cy 9, .int), (cy 10, .boolean), (cy 11, .object "StepRegisters$Plan"), (cy 12, .object "StepRegisters$State"), (cy 13, .array .int)]
def wd (L : List Nat) (ad : Nat → Nat) (cy : Nat → ClassId) (st : St) : va_W := L.map (fun k => (ad k, ce ad cy st k))
def up (st : St) (k i : Nat) (v : Int32) : St := fun a => if a = k then upd (st a) i v else st a
/-- an array's row as a whole -/
def upr (st : St) (k : Nat) (f : Nat → Int32) : St := fun a => if a = k then f else st a
def lt {α β : Type} (v : α) (k : α → β) : β := k v
def ck {α : Type} (c : Bool) (x : Option α) : Option α := if c then x else none
def bd {α β γ : Type} (x : Option (α × β)) (k : α → β → Option γ) : Option γ := match x with
  | none => none
  | some p => k p.1 p.2
def bs {β γ : Type} (x : Option β) (k : β → Option γ) : Option γ := match x with
  | none => none
  | some p => k p
def inb (i : Int32) (n : Nat) : Bool := !(decide (i < 0) || decide (n ≤ i.toNatClampNeg))
theorem inb_in {i : Int32} {n : Nat} (h : inb i n = true) : vp_in i n := by
  unfold inb at h
  unfold vp_in
  simpa using h
theorem ck_some {α : Type} {c : Bool} {x : Option α} {r : α} (h : ck c x = some r) : c = true ∧ x = some r := by
  unfold ck at h
  cases c with
  | true => exact ⟨rfl, h⟩
  | false => cases h
theorem bd_some {α β γ : Type} {x : Option (α × β)} {k : α → β → Option γ} {r : γ} (h : bd x k = some r) : ∃ a b, x = some (a, b) ∧ k a b = some r := by
  unfold bd at h
  cases x with
  | none => cases h
  | some p => exact ⟨p.1, p.2, rfl, h⟩
theorem bs_some {β γ : Type} {x : Option β} {k : β → Option γ} {r : γ} (h : bs x k = some r) : ∃ b, x = some b ∧ k b = some r := by
  unfold bs at h
  cases x with
  | none => cases h
  | some p => exact ⟨p, rfl, h⟩
theorem fs_at {ad : Nat → Nat} {st : St} {k ci j N : Nat} (hkd : kd k = ci) (hn : nfL.getD ci 0 = N) (hj : j < N) : (fs ad st k)[j]? = some (fv ad st k j) := by
  unfold fs
  rw [List.getElem?_map, List.getElem?_range (by rw [hkd, hn]; exact hj)]
  rfl
theorem fv_int {ad : Nat → Nat} {st : St} {k ci j : Nat} (hkd : kd k = ci) (hrf : rf ci j = none) : fv ad st k j = .int (st k j) := by
  unfold fv
  rw [hkd, hrf]
theorem fv_ref {ad : Nat → Nat} {st : St} {k ci j d : Nat} {b : Bool} (hkd : kd k = ci) (hrf : rf ci j = some (b, d)) : fv ad st k j = .ref (ad (if b then k + d else d)) := by
  unfold fv
  rw [hkd, hrf]
theorem ce_obj {ad : Nat → Nat} {cy : Nat → ClassId} {st : St} {k ci : Nat} (hkd : kd k = ci) (h9 : ci < 9) : ce ad cy st k = .inr (ci, fs ad st k) := by
  unfold ce
  rw [if_pos (by rw [hkd]; exact h9), hkd]
theorem ce_int {ad : Nat → Nat} {cy : Nat → ClassId} {st : St} {k : Nat} (hkd : kd k = 9) : ce ad cy st k = .inl (cy 9, ln k, .inl (st k)) := by
  unfold ce
  rw [hkd]
  rfl
theorem ce_bool {ad : Nat → Nat} {cy : Nat → ClassId} {st : St} {k : Nat} (hkd : kd k = 10) : ce ad cy st k = .inl (cy 10, ln k, .inl (st k)) := by
  unfold ce
  rw [hkd]
  rfl
theorem ce_refs {ad : Nat → Nat} {cy : Nat → ClassId} {st : St} {k ci : Nat} (hkd : kd k = ci) (h : 11 ≤ ci) : ce ad cy st k = .inl (cy ci, ln k, .inr (.inr (.inr (.inr (fun i => some (ad ((raB k).1 + (raB k).2 * i))))))) := by
  unfold ce
  rw [if_neg (by omega), if_neg (by omega), hkd]
theorem wd_get {L : List Nat} {ad : Nat → Nat} {cy : Nat → ClassId} {st : St} {q k : Nat} (h : L[q]? = some k) : (wd L ad cy st)[q]? = some (ad k, ce ad cy st k) := by
  unfold wd
  rw [List.getElem?_map, h]
  rfl
theorem wd_inv {L : List Nat} {ad : Nat → Nat} {cy : Nat → ClassId} {st : St} {q : Nat} {x : Nat × va_E} (h : (wd L ad cy st)[q]? = some x) : ∃ k, L[q]? = some k ∧ x = (ad k, ce ad cy st k) := by
  unfold wd at h
  rw [List.getElem?_map] at h
  cases hq : L[q]? with
  | none => rw [hq] at h; cases h
  | some k => rw [hq] at h; exact ⟨k, rfl, (Option.some.inj h).symm⟩
theorem wd_D {A : Nat → Prop} {L : List Nat} {ad : Nat → Nat} {cy : Nat → ClassId} {st st' : St} (h : va_D A (wd L ad cy st)) : va_D A (wd L ad cy st') := by
  refine ⟨fun i j p q hi hj hpq => ?_, fun k q hk => ?_⟩
  · obtain ⟨a, ha, rfl⟩ := wd_inv hi
    obtain ⟨b, hb, rfl⟩ := wd_inv hj
    exact h.1 i j _ _ (wd_get ha) (wd_get hb) hpq
  · obtain ⟨a, ha, rfl⟩ := wd_inv hk
    exact h.2 k (ad a, ce ad cy st a) (wd_get ha)
theorem wd_set {A : Nat → Prop} {L : List Nat} {ad : Nat → Nat} {cy : Nat → ClassId} {st st' : St} {q k : Nat} {e : va_E} (hD : va_D A (wd L ad cy st)) (hq : L[q]? = some k) (he : ce ad cy st' k = e) (ho : ∀ j, j ≠ k → ce ad cy st' j = ce ad cy st j) : (wd L ad cy st).set q (ad k, e) = wd L ad cy st' := by
  apply List.ext_getElem?
  intro i
  rw [List.getElem?_set]
  have hl : q < (wd L ad cy st).length := (List.getElem?_eq_some_iff.mp (wd_get (ad := ad) (cy := cy) (st := st) hq)).1
  by_cases hi : q = i
  · subst hi
    rw [if_pos rfl, if_pos hl, wd_get hq, he]
  · rw [if_neg hi]
    cases hL : L[i]? with
    | none =>
      unfold wd
      rw [List.getElem?_map, List.getElem?_map, hL]
      rfl
    | some j =>
      rw [wd_get hL, wd_get hL, ho]
      intro hjk
      subst hjk
      exact hi (hD.1 q i _ _ (wd_get hq) (wd_get hL) rfl)
theorem up_at {st : St} {k i : Nat} {v : Int32} : up st k i v k = upd (st k) i v := by simp [up]
theorem up_ne {st : St} {k i j : Nat} {v : Int32} (h : j ≠ k) : up st k i v j = st j := by simp [up, h]
theorem upr_at {st : St} {k : Nat} {f : Nat → Int32} : upr st k f k = f := by simp [upr]
theorem upr_ne {st : St} {k j : Nat} {f : Nat → Int32} (h : j ≠ k) : upr st k f j = st j := by simp [upr, h]
theorem ce_ne {ad : Nat → Nat} {cy : Nat → ClassId} {st st' : St} {j : Nat} (h : st' j = st j) : ce ad cy st' j = ce ad cy st j := by
  unfold ce fs
  have e : fv ad st' j = fv ad st j := by
    funext i
    unfold fv
    rw [h]
  rw [e, h]
theorem fs_set {ad : Nat → Nat} {st : St} {k ci j N : Nat} {v : Int32} (hkd : kd k = ci) (hn : nfL.getD ci 0 = N) (hj : j < N) (hrf : rf ci j = none) : fs ad (up st k j v) k = (fs ad st k).set j (.int v) := by
  apply List.ext_getElem?
  intro i
  rw [List.getElem?_set]
  have hl : j < (fs ad st k).length := by unfold fs; rw [List.length_map, List.length_range, hkd, hn]; exact hj
  by_cases hi : j = i
  · subst hi
    rw [if_pos rfl, if_pos hl, fs_at hkd hn hj, fv_int hkd hrf, up_at]
    simp [upd]
  · rw [if_neg hi]
    unfold fs
    rw [List.getElem?_map, List.getElem?_map]
    cases hr : (List.range (nfL.getD (kd k) 0))[i]? with
    | none => rfl
    | some i' =>
      have hi' : i' = i := by
        have := List.getElem?_eq_some_iff.mp hr
        obtain ⟨h1, h2⟩ := this
        rw [List.getElem_range] at h2
        exact h2.symm
      subst hi'
      show some (fv ad (up st k j v) k i') = some (fv ad st k i')
      unfold fv
      rw [up_at]
      simp [upd, Ne.symm hi]
/-- the tables' words that stay at every call -/
def gtb : List Cond := lw_tbl.filter goodWord
def wsy (y : MethodName) (cc : ByteArray) (n : Nat) (ret : Option FieldType) : List Cond := .code y cc n ret :: gtb
def rmD (d : Nat) : Room := { frames := d, cells := 0, slots := 0, locals := 40 * d }
def Wld (D : va_G) (cy : Nat → ClassId) (ad : Nat → Nat) (A : Nat → Prop) (L : List Nat) (st : St) (U : State) : Prop := va_P D classes (wd L ad cy st) U.heap ∧ va_K D classes (tys cy) U ∧ va_D A (wd L ad cy (fun _ _ => 0))
def QG (D : va_G) (cy : Nat → ClassId) (ad : Nat → Nat) (A : Nat → Prop) (L : List Nat) (ov : Option Value) (st' : St) : Array Value → State → Outcome → State → Prop := fun _ s o t => o = .returned ov ∧ Wld D cy ad A L st' t ∧ va_F A s t
/-- method y's contract over the whole world: from st, with these arguments, it answers ov and leaves st' -/
def Ct (l : Launch) (D : va_G) (cy : Nat → ClassId) (ad : Nat → Nat) (A : Nat → Prop) (L : List Nat) (y : MethodName) (cc : ByteArray) (n : Nat) (ret : Option FieldType) (d : Nat) (av : List Value) (st : St) (ov : Option Value) (st' : St) : Prop := Met l y (wsy y cc n ret) (rmD d) (va_Pc av (Wld D cy ad A L st)) (QG D cy ad A L ov st') 0 0 A
def Cx (p : Program) (s : State) (m : MethodId) (args : Array Value) (c : Code) (cc : ByteArray) (own : String) (nL : Nat) (D : va_G) (cy : Nat → ClassId) (ad : Nat → Nat) (A : Nat → Prop) (L : List Nat) : Prop := p.tables.exec = Jvm.exec ∧ c.code = cc ∧ c.maxLocals = nL ∧ s.vm.findClass own = some m.cls ∧ (∀ w ∈ gtb, w.before args s = true) ∧ va_K D classes (tys cy) s ∧ va_D A (wd L ad cy (fun _ _ => 0))
/-- from pc, these locals, this stack, this state of the world, the machine comes to Q -/
def Gm (p : Program) (l : Launch) (e : Env) (R : Room) (s : State) (m : MethodId) (args : Array Value) (below : List Frame) (meth : Method) (c : Code) (D : va_G) (cy : Nat → ClassId) (ad : Nat → Nat) (A : Nat → Prop) (L : List Nat) (nL cells slots : Nat) (Q : State → Prop) (pc : Nat) (lv : List (Nat × Value)) (stk : List Value) (st : St) : Prop :=
  ∀ (H : Heap) (locs : List Loc) (ls : Array Slot), va_P D classes (wd L ad cy st) H → va_S A s.heap H locs → lv_has ls nL lv → W p l e R s m args below meth c H locs cells slots Q (F0 m pc ls stk)
theorem tbl_in {w : Cond} (h : w ∈ gtb) : w ∈ gtb ∧ ((w.onTables && w.keeps) = true ∨ ∃ ty, w = .arrayClass ty) := ⟨h, good_of_word (List.mem_filter.mp h).2⟩
theorem gtb_of {w : Cond} (i : Nat) (h : lw_tbl[i]? = some w) (hg : goodWord w = true) : w ∈ gtb := List.mem_filter.mpr ⟨List.mem_of_getElem? h, hg⟩
theorem wsy_good {y : MethodName} {cc : ByteArray} {n : Nat} {ret : Option FieldType} (h : Cond.code y cc n ret ∈ gtb) : GoodIn gtb (wsy y cc n ret) := by
  intro w hw
  rcases List.mem_cons.mp hw with rfl | hw
  · exact tbl_in h
  · exact tbl_in hw
set_option maxRecDepth 100000 in
theorem inX0 : ∀ w ∈ wsX00, w ∈ gtb := by decide +kernel
set_option maxRecDepth 100000 in
theorem inX1 : ∀ w ∈ wsX10, w ∈ gtb := by decide +kernel
set_option maxRecDepth 100000 in
theorem inX2 : ∀ w ∈ wsX20, w ∈ gtb := by decide +kernel
set_option maxRecDepth 100000 in
theorem inX3 : ∀ w ∈ wsX30, w ∈ gtb := by decide +kernel
set_option maxRecDepth 100000 in
theorem inX4 : ∀ w ∈ wsX40, w ∈ gtb := by decide +kernel
set_option maxRecDepth 100000 in
theorem inX5 : ∀ w ∈ wsX50, w ∈ gtb := by decide +kernel
set_option maxRecDepth 100000 in
theorem inX6 : ∀ w ∈ wsX60, w ∈ gtb := by decide +kernel
set_option maxRecDepth 100000 in
theorem inX7 : ∀ w ∈ wsX70, w ∈ gtb := by decide +kernel
set_option maxRecDepth 100000 in
theorem inX8 : ∀ w ∈ wsX80, w ∈ gtb := by decide +kernel
/-- what every class of the world has -/
def clsOk (ci : Nat) (q : vw_C) : Prop := classes[ci]? = some q ∧ ci < 9 ∧ nfL.getD ci 0 = q.2.2 ∧ (∀ w ∈ u_ws q.1 q.2.1 q.2.2, w ∈ gtb) ∧ ∃ ty0 : Nat → FieldType, (∀ k, k < q.2.2 → parseFieldDescriptor (q.2.1 k).2.2.1 = some (ty0 k)) ∧ (∀ a, a < q.2.2 → ∀ b, b < q.2.2 → a ≠ b → (q.2.1 a).2.1 ≠ (q.2.1 b).2.1)
theorem ok0 : clsOk 0 (RX0, TX0, 6) := ⟨rfl, by decide, rfl, inX0, tyX0, tyX0_ok, nmX0⟩
theorem ok1 : clsOk 1 (RX1, TX1, 7) := ⟨rfl, by decide, rfl, inX1, tyX1, tyX1_ok, nmX1⟩
theorem ok2 : clsOk 2 (RX2, TX2, 6) := ⟨rfl, by decide, rfl, inX2, tyX2, tyX2_ok, nmX2⟩
theorem ok3 : clsOk 3 (RX3, TX3, 16) := ⟨rfl, by decide, rfl, inX3, tyX3, tyX3_ok, nmX3⟩
theorem ok4 : clsOk 4 (RX4, TX4, 2) := ⟨rfl, by decide, rfl, inX4, tyX4, tyX4_ok, nmX4⟩
theorem ok5 : clsOk 5 (RX5, TX5, 8) := ⟨rfl, by decide, rfl, inX5, tyX5, tyX5_ok, nmX5⟩
theorem ok6 : clsOk 6 (RX6, TX6, 10) := ⟨rfl, by decide, rfl, inX6, tyX6, tyX6_ok, nmX6⟩
theorem ok7 : clsOk 7 (RX7, TX7, 7) := ⟨rfl, by decide, rfl, inX7, tyX7, tyX7_ok, nmX7⟩
theorem ok8 : clsOk 8 (RX8, TX8, 29) := ⟨rfl, by decide, rfl, inX8, tyX8, tyX8_ok, nmX8⟩
end
section
section GR
variable {p : Program} {l : Launch} {e : Env} {R : Room} {s : State} {m : MethodId} {args : Array Value} {below : List Frame} {meth : Method} {c : Code} {D : va_G} {cy : Nat → ClassId} {ad : Nat → Nat} {A : Nat → Prop} {L : List Nat} {nL cells slots : Nat} {Q : State → Prop} {cc : ByteArray} {own : String} {pc : Nat} {lv : List (Nat × Value)} {stk : List Value} {st : St} {ρ : Type} {res : ρ}
theorem g_iconst (C : Cx p s m args c cc own nL D cy ad A L) {n : Int} {v : Int32} (hd : decode cc pc = .ok (.iconst n, 1)) (hv : Int32.ofInt n = v)
    (kk : Gm p l e R s m args below meth c D cy ad A L nL cells slots Q (pc + 1) lv (.int v :: stk) st) : Gm p l e R s m args below meth c D cy ad A L nL cells slots Q pc lv stk st := fun H locs ls hP hS hl => lv_iconst C.1 C.2.1 hd hv (kk H locs ls hP hS hl)
theorem g_bipush (C : Cx p s m args c cc own nL D cy ad A L) {n : Int} {v : Int32} (hd : decode cc pc = .ok (.bipush n, 2)) (hv : (Int8.ofInt n).toInt32 = v)
    (kk : Gm p l e R s m args below meth c D cy ad A L nL cells slots Q (pc + 2) lv (.int v :: stk) st) : Gm p l e R s m args below meth c D cy ad A L nL cells slots Q pc lv stk st := fun H locs ls hP hS hl => lv_bipush C.1 C.2.1 hd hv (kk H locs ls hP hS hl)
theorem g_sipush (C : Cx p s m args c cc own nL D cy ad A L) {n : Int} {v : Int32} (hd : decode cc pc = .ok (.sipush n, 3)) (hv : (Int16.ofInt n).toInt32 = v)
    (kk : Gm p l e R s m args below meth c D cy ad A L nL cells slots Q (pc + 3) lv (.int v :: stk) st) : Gm p l e R s m args below meth c D cy ad A L nL cells slots Q pc lv stk st := fun H locs ls hP hS hl => lv_sipush C.1 C.2.1 hd hv (kk H locs ls hP hS hl)
theorem g_ldcw (C : Cx p s m args c cc own nL D cy ad A L) {index : Nat} {v : Int32} (hc : Cond.constant own index v ∈ gtb) (hd : decode cc pc = .ok (.ldc_w index, 3))
    (kk : Gm p l e R s m args below meth c D cy ad A L nL cells slots Q (pc + 3) lv (.int v :: stk) st) : Gm p l e R s m args below meth c D cy ad A L nL cells slots Q pc lv stk st := fun H locs ls hP hS hl => lv_ldcw C.1 C.2.1 C.2.2.2.1 (C.2.2.2.2.1 _ hc) hd (kk H locs ls hP hS hl)
theorem g_ldc2 (C : Cx p s m args c cc own nL D cy ad A L) {index : Nat} {v : Int64} (hc : Cond.constantLong own index v ∈ gtb) (hd : decode cc pc = .ok (.ldc2_w index, 3))
    (kk : Gm p l e R s m args below meth c D cy ad A L nL cells slots Q (pc + 3) lv (.long v :: stk) st) : Gm p l e R s m args below meth c D cy ad A L nL cells slots Q pc lv stk st := fun H locs ls hP hS hl => lv_ldc2 C.1 C.2.1 C.2.2.2.1 (C.2.2.2.2.1 _ hc) hd (kk H locs ls hP hS hl)
theorem g_iload_n (C : Cx p s m args c cc own nL D cy ad A L) {k : Fin 4} {i : Nat} {x : Int32} (hd : decode cc pc = .ok (.iload_n k, 1)) (hi : (k : Nat) = i) (q : Nat) (hq : lv[q]? = some (i, .int x))
    (kk : Gm p l e R s m args below meth c D cy ad A L nL cells slots Q (pc + 1) lv (.int x :: stk) st) : Gm p l e R s m args below meth c D cy ad A L nL cells slots Q pc lv stk st := fun H locs ls hP hS hl => lv_iload_n C.1 C.2.1 hd hi (lv_at hl q hq) (kk H locs ls hP hS hl)
theorem g_iload (C : Cx p s m args c cc own nL D cy ad A L) {i : Nat} {x : Int32} (hd : decode cc pc = .ok (.iload i, 2)) (q : Nat) (hq : lv[q]? = some (i, .int x))
    (kk : Gm p l e R s m args below meth c D cy ad A L nL cells slots Q (pc + 2) lv (.int x :: stk) st) : Gm p l e R s m args below meth c D cy ad A L nL cells slots Q pc lv stk st := fun H locs ls hP hS hl => lv_iload C.1 C.2.1 hd (lv_at hl q hq) (kk H locs ls hP hS hl)
theorem g_aload_n (C : Cx p s m args c cc own nL D cy ad A L) {k : Fin 4} {i : Nat} {x : Nat} (hd : decode cc pc = .ok (.aload_n k, 1)) (hi : (k : Nat) = i) (q : Nat) (hq : lv[q]? = some (i, .ref x))
    (kk : Gm p l e R s m args below meth c D cy ad A L nL cells slots Q (pc + 1) lv (.ref x :: stk) st) : Gm p l e R s m args below meth c D cy ad A L nL cells slots Q pc lv stk st := fun H locs ls hP hS hl => lv_aload_n C.1 C.2.1 hd hi (lv_at hl q hq) (kk H locs ls hP hS hl)
theorem g_aload (C : Cx p s m args c cc own nL D cy ad A L) {i : Nat} {x : Nat} (hd : decode cc pc = .ok (.aload i, 2)) (q : Nat) (hq : lv[q]? = some (i, .ref x))
    (kk : Gm p l e R s m args below meth c D cy ad A L nL cells slots Q (pc + 2) lv (.ref x :: stk) st) : Gm p l e R s m args below meth c D cy ad A L nL cells slots Q pc lv stk st := fun H locs ls hP hS hl => lv_aload C.1 C.2.1 hd (lv_at hl q hq) (kk H locs ls hP hS hl)
theorem g_istore_n (C : Cx p s m args c cc own nL D cy ad A L) {k : Fin 4} {i : Nat} {x : Int32} {lv' : Int32 → List (Nat × Value)} {B : Int32 → Option ρ} (hd : decode cc pc = .ok (.istore_n k, 1)) (hi : (k : Nat) = i) (hn : i < nL) (hl' : ∀ y, (i, Value.int y) :: lv.filter (fun q => !(q.1 == i) && !(q.1 + 1 == i && q.2.category == 2)) = lv' y) (h : lt x B = some res)
    (kk : ∀ y : Int32, B y = some res → Gm p l e R s m args below meth c D cy ad A L nL cells slots Q (pc + 1) (lv' y) stk st) : Gm p l e R s m args below meth c D cy ad A L nL cells slots Q pc lv (.int x :: stk) st := fun H locs ls hP hS hl => lv_istore_n C.1 C.2.1 hd hi hl hn (hl' x) (fun ls2 h2 => kk x h H locs ls2 hP hS h2)
theorem g_istore (C : Cx p s m args c cc own nL D cy ad A L) {i : Nat} {x : Int32} {lv' : Int32 → List (Nat × Value)} {B : Int32 → Option ρ} (hd : decode cc pc = .ok (.istore i, 2)) (hn : i < nL) (hl' : ∀ y, (i, Value.int y) :: lv.filter (fun q => !(q.1 == i) && !(q.1 + 1 == i && q.2.category == 2)) = lv' y) (h : lt x B = some res)
    (kk : ∀ y : Int32, B y = some res → Gm p l e R s m args below meth c D cy ad A L nL cells slots Q (pc + 2) (lv' y) stk st) : Gm p l e R s m args below meth c D cy ad A L nL cells slots Q pc lv (.int x :: stk) st := fun H locs ls hP hS hl => lv_istore C.1 C.2.1 hd hl hn (hl' x) (fun ls2 h2 => kk x h H locs ls2 hP hS h2)
theorem g_iinc (C : Cx p s m args c cc own nL D cy ad A L) {i : Nat} {n : Int} {x v : Int32} {lv' : Int32 → List (Nat × Value)} {B : Int32 → Option ρ} (hd : decode cc pc = .ok (.iinc i n, 3)) (q : Nat) (hq : lv[q]? = some (i, .int x)) (hv : x + Int32.ofInt n = v) (hn : i < nL) (hl' : ∀ y, (i, Value.int y) :: lv.filter (fun q => !(q.1 == i) && !(q.1 + 1 == i && q.2.category == 2)) = lv' y) (h : lt v B = some res)
    (kk : ∀ y : Int32, B y = some res → Gm p l e R s m args below meth c D cy ad A L nL cells slots Q (pc + 3) (lv' y) stk st) : Gm p l e R s m args below meth c D cy ad A L nL cells slots Q pc lv stk st := fun H locs ls hP hS hl => lv_iinc C.1 C.2.1 hd hl hq hv hn (hl' v) (fun ls2 h2 => kk v h H locs ls2 hP hS h2)
theorem g_astore_n (C : Cx p s m args c cc own nL D cy ad A L) {k : Fin 4} {i : Nat} {x : Nat} {lv' : List (Nat × Value)} (hd : decode cc pc = .ok (.astore_n k, 1)) (hi : (k : Nat) = i) (hn : i < nL) (hl' : (i, Value.ref x) :: lv.filter (fun q => !(q.1 == i) && !(q.1 + 1 == i && q.2.category == 2)) = lv')
    (kk : Gm p l e R s m args below meth c D cy ad A L nL cells slots Q (pc + 1) lv' stk st) : Gm p l e R s m args below meth c D cy ad A L nL cells slots Q pc lv (.ref x :: stk) st := fun H locs ls hP hS hl => lv_astore_n C.1 C.2.1 hd hi hl hn hl' (fun ls2 h2 => kk H locs ls2 hP hS h2)
theorem g_astore (C : Cx p s m args c cc own nL D cy ad A L) {i : Nat} {x : Nat} {lv' : List (Nat × Value)} (hd : decode cc pc = .ok (.astore i, 2)) (hn : i < nL) (hl' : (i, Value.ref x) :: lv.filter (fun q => !(q.1 == i) && !(q.1 + 1 == i && q.2.category == 2)) = lv')
    (kk : Gm p l e R s m args below meth c D cy ad A L nL cells slots Q (pc + 2) lv' stk st) : Gm p l e R s m args below meth c D cy ad A L nL cells slots Q pc lv (.ref x :: stk) st := fun H locs ls hP hS hl => lv_astore C.1 C.2.1 hd hl hn hl' (fun ls2 h2 => kk H locs ls2 hP hS h2)
theorem g_iadd (C : Cx p s m args c cc own nL D cy ad A L) {x y : Int32} (hd : decode cc pc = .ok (.iadd, 1))
    (kk : Gm p l e R s m args below meth c D cy ad A L nL cells slots Q (pc + 1) lv (.int (x + y) :: stk) st) : Gm p l e R s m args below meth c D cy ad A L nL cells slots Q pc lv (.int y :: .int x :: stk) st := fun H locs ls hP hS hl => lv_iadd C.1 C.2.1 hd (kk H locs ls hP hS hl)
theorem g_isub (C : Cx p s m args c cc own nL D cy ad A L) {x y : Int32} (hd : decode cc pc = .ok (.isub, 1))
    (kk : Gm p l e R s m args below meth c D cy ad A L nL cells slots Q (pc + 1) lv (.int (x - y) :: stk) st) : Gm p l e R s m args below meth c D cy ad A L nL cells slots Q pc lv (.int y :: .int x :: stk) st := fun H locs ls hP hS hl => lv_isub C.1 C.2.1 hd (kk H locs ls hP hS hl)
theorem g_imul (C : Cx p s m args c cc own nL D cy ad A L) {x y : Int32} (hd : decode cc pc = .ok (.imul, 1))
    (kk : Gm p l e R s m args below meth c D cy ad A L nL cells slots Q (pc + 1) lv (.int (x * y) :: stk) st) : Gm p l e R s m args below meth c D cy ad A L nL cells slots Q pc lv (.int y :: .int x :: stk) st := fun H locs ls hP hS hl => lv_imul C.1 C.2.1 hd (kk H locs ls hP hS hl)
theorem g_iand (C : Cx p s m args c cc own nL D cy ad A L) {x y : Int32} (hd : decode cc pc = .ok (.iand, 1))
    (kk : Gm p l e R s m args below meth c D cy ad A L nL cells slots Q (pc + 1) lv (.int (x &&& y) :: stk) st) : Gm p l e R s m args below meth c D cy ad A L nL cells slots Q pc lv (.int y :: .int x :: stk) st := fun H locs ls hP hS hl => lv_iand C.1 C.2.1 hd (kk H locs ls hP hS hl)
theorem g_ior (C : Cx p s m args c cc own nL D cy ad A L) {x y : Int32} (hd : decode cc pc = .ok (.ior, 1))
    (kk : Gm p l e R s m args below meth c D cy ad A L nL cells slots Q (pc + 1) lv (.int (x ||| y) :: stk) st) : Gm p l e R s m args below meth c D cy ad A L nL cells slots Q pc lv (.int y :: .int x :: stk) st := fun H locs ls hP hS hl => lv_ior C.1 C.2.1 hd (kk H locs ls hP hS hl)
theorem g_ixor (C : Cx p s m args c cc own nL D cy ad A L) {x y : Int32} (hd : decode cc pc = .ok (.ixor, 1))
    (kk : Gm p l e R s m args below meth c D cy ad A L nL cells slots Q (pc + 1) lv (.int (x ^^^ y) :: stk) st) : Gm p l e R s m args below meth c D cy ad A L nL cells slots Q pc lv (.int y :: .int x :: stk) st := fun H locs ls hP hS hl => lv_ixor C.1 C.2.1 hd (kk H locs ls hP hS hl)
theorem g_ishl (C : Cx p s m args c cc own nL D cy ad A L) {x y : Int32} (hd : decode cc pc = .ok (.ishl, 1))
    (kk : Gm p l e R s m args below meth c D cy ad A L nL cells slots Q (pc + 1) lv (.int (x <<< (y &&& 31)) :: stk) st) : Gm p l e R s m args below meth c D cy ad A L nL cells slots Q pc lv (.int y :: .int x :: stk) st := fun H locs ls hP hS hl => lv_ishl C.1 C.2.1 hd (kk H locs ls hP hS hl)
theorem g_ishr (C : Cx p s m args c cc own nL D cy ad A L) {x y : Int32} (hd : decode cc pc = .ok (.ishr, 1))
    (kk : Gm p l e R s m args below meth c D cy ad A L nL cells slots Q (pc + 1) lv (.int (x >>> (y &&& 31)) :: stk) st) : Gm p l e R s m args below meth c D cy ad A L nL cells slots Q pc lv (.int y :: .int x :: stk) st := fun H locs ls hP hS hl => lv_ishr C.1 C.2.1 hd (kk H locs ls hP hS hl)
theorem g_iushr (C : Cx p s m args c cc own nL D cy ad A L) {x y : Int32} (hd : decode cc pc = .ok (.iushr, 1))
    (kk : Gm p l e R s m args below meth c D cy ad A L nL cells slots Q (pc + 1) lv (.int ((x.toUInt32 >>> (y.toUInt32 &&& Int32.toUInt32 31)).toInt32) :: stk) st) : Gm p l e R s m args below meth c D cy ad A L nL cells slots Q pc lv (.int y :: .int x :: stk) st := fun H locs ls hP hS hl => lv_iushr C.1 C.2.1 hd rfl (kk H locs ls hP hS hl)
theorem g_idiv (C : Cx p s m args c cc own nL D cy ad A L) {x y : Int32} {X : Option ρ} (hd : decode cc pc = .ok (.idiv, 1)) (h : ck (decide (y ≠ 0)) X = some res)
    (kk : X = some res → Gm p l e R s m args below meth c D cy ad A L nL cells slots Q (pc + 1) lv (.int (x / y) :: stk) st) : Gm p l e R s m args below meth c D cy ad A L nL cells slots Q pc lv (.int y :: .int x :: stk) st := fun H locs ls hP hS hl => lv_idiv C.1 C.2.1 hd (of_decide_eq_true (ck_some h).1) (kk (ck_some h).2 H locs ls hP hS hl)
theorem g_irem (C : Cx p s m args c cc own nL D cy ad A L) {x y : Int32} {X : Option ρ} (hd : decode cc pc = .ok (.irem, 1)) (h : ck (decide (y ≠ 0)) X = some res)
    (kk : X = some res → Gm p l e R s m args below meth c D cy ad A L nL cells slots Q (pc + 1) lv (.int (x - x / y * y) :: stk) st) : Gm p l e R s m args below meth c D cy ad A L nL cells slots Q pc lv (.int y :: .int x :: stk) st := fun H locs ls hP hS hl => lv_irem C.1 C.2.1 hd (of_decide_eq_true (ck_some h).1) (kk (ck_some h).2 H locs ls hP hS hl)
theorem g_ineg (C : Cx p s m args c cc own nL D cy ad A L) {x : Int32} (hd : decode cc pc = .ok (.ineg, 1))
    (kk : Gm p l e R s m args below meth c D cy ad A L nL cells slots Q (pc + 1) lv (.int (-x) :: stk) st) : Gm p l e R s m args below meth c D cy ad A L nL cells slots Q pc lv (.int x :: stk) st := fun H locs ls hP hS hl => lv_ineg C.1 C.2.1 hd (kk H locs ls hP hS hl)
theorem g_i2l (C : Cx p s m args c cc own nL D cy ad A L) {x : Int32} (hd : decode cc pc = .ok (.i2l, 1))
    (kk : Gm p l e R s m args below meth c D cy ad A L nL cells slots Q (pc + 1) lv (.long x.toInt64 :: stk) st) : Gm p l e R s m args below meth c D cy ad A L nL cells slots Q pc lv (.int x :: stk) st := fun H locs ls hP hS hl => lv_i2l C.1 C.2.1 hd rfl (kk H locs ls hP hS hl)
theorem g_dup (C : Cx p s m args c cc own nL D cy ad A L) {v : Value} (hd : decode cc pc = .ok (.dup, 1)) (hv : v.category = 1)
    (kk : Gm p l e R s m args below meth c D cy ad A L nL cells slots Q (pc + 1) lv (v :: v :: stk) st) : Gm p l e R s m args below meth c D cy ad A L nL cells slots Q pc lv (v :: stk) st := fun H locs ls hP hS hl => lv_dup C.1 C.2.1 hd hv (kk H locs ls hP hS hl)
theorem g_pop (C : Cx p s m args c cc own nL D cy ad A L) {v : Value} (hd : decode cc pc = .ok (.pop, 1)) (hv : v.category = 1)
    (kk : Gm p l e R s m args below meth c D cy ad A L nL cells slots Q (pc + 1) lv stk st) : Gm p l e R s m args below meth c D cy ad A L nL cells slots Q pc lv (v :: stk) st := fun H locs ls hP hS hl => lv_pop C.1 C.2.1 hd hv (kk H locs ls hP hS hl)
theorem g_dup_x1 (C : Cx p s m args c cc own nL D cy ad A L) {v w : Value} (hd : decode cc pc = .ok (.dup_x1, 1)) (hv : v.category = 1) (hw : w.category = 1)
    (kk : Gm p l e R s m args below meth c D cy ad A L nL cells slots Q (pc + 1) lv (v :: w :: v :: stk) st) : Gm p l e R s m args below meth c D cy ad A L nL cells slots Q pc lv (v :: w :: stk) st := fun H locs ls hP hS hl => lv_dup_x1 C.1 C.2.1 hd hv hw (kk H locs ls hP hS hl)
theorem g_dup2 (C : Cx p s m args c cc own nL D cy ad A L) {v w : Value} (hd : decode cc pc = .ok (.dup2, 1)) (hv : v.category = 1) (hw : w.category = 1)
    (kk : Gm p l e R s m args below meth c D cy ad A L nL cells slots Q (pc + 1) lv (v :: w :: v :: w :: stk) st) : Gm p l e R s m args below meth c D cy ad A L nL cells slots Q pc lv (v :: w :: stk) st := fun H locs ls hP hS hl => lv_dup2_11 C.1 C.2.1 hd hv hw (kk H locs ls hP hS hl)
theorem g_icmp_eq (C : Cx p s m args c cc own nL D cy ad A L) {x y : Int32} {off : Int} {tgt : Nat} {X Y : Option ρ} (hd : decode cc pc = .ok (.if_icmp .eq off, 3)) (ht : (pc : Int) + off = (tgt : Int)) (h : (if x = y then X else Y) = some res)
    (kt : x = y → X = some res → Gm p l e R s m args below meth c D cy ad A L nL cells slots Q tgt lv stk st) (kf : ¬ x = y → Y = some res → Gm p l e R s m args below meth c D cy ad A L nL cells slots Q (pc + 3) lv stk st) : Gm p l e R s m args below meth c D cy ad A L nL cells slots Q pc lv (.int y :: .int x :: stk) st := fun H locs ls hP hS hl => lv_icmp_eq C.1 C.2.1 hd ht (fun a => kt a ((if_pos a).symm.trans h) H locs ls hP hS hl) (fun a => kf a ((if_neg a).symm.trans h) H locs ls hP hS hl)
theorem g_icmp_ne (C : Cx p s m args c cc own nL D cy ad A L) {x y : Int32} {off : Int} {tgt : Nat} {X Y : Option ρ} (hd : decode cc pc = .ok (.if_icmp .ne off, 3)) (ht : (pc : Int) + off = (tgt : Int)) (h : (if x = y then Y else X) = some res)
    (kt : ¬ x = y → X = some res → Gm p l e R s m args below meth c D cy ad A L nL cells slots Q tgt lv stk st) (kf : x = y → Y = some res → Gm p l e R s m args below meth c D cy ad A L nL cells slots Q (pc + 3) lv stk st) : Gm p l e R s m args below meth c D cy ad A L nL cells slots Q pc lv (.int y :: .int x :: stk) st := fun H locs ls hP hS hl => lv_icmp_ne C.1 C.2.1 hd ht (fun a => kt a ((if_neg a).symm.trans h) H locs ls hP hS hl) (fun a => kf a ((if_pos a).symm.trans h) H locs ls hP hS hl)
theorem g_icmp_lt (C : Cx p s m args c cc own nL D cy ad A L) {x y : Int32} {off : Int} {tgt : Nat} {X Y : Option ρ} (hd : decode cc pc = .ok (.if_icmp .lt off, 3)) (ht : (pc : Int) + off = (tgt : Int)) (h : (if x < y then X else Y) = some res)
    (kt : x < y → X = some res → Gm p l e R s m args below meth c D cy ad A L nL cells slots Q tgt lv stk st) (kf : ¬ x < y → Y = some res → Gm p l e R s m args below meth c D cy ad A L nL cells slots Q (pc + 3) lv stk st) : Gm p l e R s m args below meth c D cy ad A L nL cells slots Q pc lv (.int y :: .int x :: stk) st := fun H locs ls hP hS hl => lv_icmp_lt C.1 C.2.1 hd ht (fun a => kt a ((if_pos a).symm.trans h) H locs ls hP hS hl) (fun a => kf a ((if_neg a).symm.trans h) H locs ls hP hS hl)
theorem g_icmp_ge (C : Cx p s m args c cc own nL D cy ad A L) {x y : Int32} {off : Int} {tgt : Nat} {X Y : Option ρ} (hd : decode cc pc = .ok (.if_icmp .ge off, 3)) (ht : (pc : Int) + off = (tgt : Int)) (h : (if y ≤ x then X else Y) = some res)
    (kt : y ≤ x → X = some res → Gm p l e R s m args below meth c D cy ad A L nL cells slots Q tgt lv stk st) (kf : ¬ y ≤ x → Y = some res → Gm p l e R s m args below meth c D cy ad A L nL cells slots Q (pc + 3) lv stk st) : Gm p l e R s m args below meth c D cy ad A L nL cells slots Q pc lv (.int y :: .int x :: stk) st := fun H locs ls hP hS hl => lv_icmp_ge C.1 C.2.1 hd ht (fun a => kt a ((if_pos a).symm.trans h) H locs ls hP hS hl) (fun a => kf a ((if_neg a).symm.trans h) H locs ls hP hS hl)
theorem g_icmp_gt (C : Cx p s m args c cc own nL D cy ad A L) {x y : Int32} {off : Int} {tgt : Nat} {X Y : Option ρ} (hd : decode cc pc = .ok (.if_icmp .gt off, 3)) (ht : (pc : Int) + off = (tgt : Int)) (h : (if y < x then X else Y) = some res)
    (kt : y < x → X = some res → Gm p l e R s m args below meth c D cy ad A L nL cells slots Q tgt lv stk st) (kf : ¬ y < x → Y = some res → Gm p l e R s m args below meth c D cy ad A L nL cells slots Q (pc + 3) lv stk st) : Gm p l e R s m args below meth c D cy ad A L nL cells slots Q pc lv (.int y :: .int x :: stk) st := fun H locs ls hP hS hl => lv_icmp_gt C.1 C.2.1 hd ht (fun a => kt a ((if_pos a).symm.trans h) H locs ls hP hS hl) (fun a => kf a ((if_neg a).symm.trans h) H locs ls hP hS hl)
theorem g_icmp_le (C : Cx p s m args c cc own nL D cy ad A L) {x y : Int32} {off : Int} {tgt : Nat} {X Y : Option ρ} (hd : decode cc pc = .ok (.if_icmp .le off, 3)) (ht : (pc : Int) + off = (tgt : Int)) (h : (if x ≤ y then X else Y) = some res)
    (kt : x ≤ y → X = some res → Gm p l e R s m args below meth c D cy ad A L nL cells slots Q tgt lv stk st) (kf : ¬ x ≤ y → Y = some res → Gm p l e R s m args below meth c D cy ad A L nL cells slots Q (pc + 3) lv stk st) : Gm p l e R s m args below meth c D cy ad A L nL cells slots Q pc lv (.int y :: .int x :: stk) st := fun H locs ls hP hS hl => lv_icmp_le C.1 C.2.1 hd ht (fun a => kt a ((if_pos a).symm.trans h) H locs ls hP hS hl) (fun a => kf a ((if_neg a).symm.trans h) H locs ls hP hS hl)
theorem g_if_eq (C : Cx p s m args c cc own nL D cy ad A L) {x : Int32} {off : Int} {tgt : Nat} {X Y : Option ρ} (hd : decode cc pc = .ok (.ifCond .eq off, 3)) (ht : (pc : Int) + off = (tgt : Int)) (h : (if x = 0 then X else Y) = some res)
    (kt : x = 0 → X = some res → Gm p l e R s m args below meth c D cy ad A L nL cells slots Q tgt lv stk st) (kf : ¬ x = 0 → Y = some res → Gm p l e R s m args below meth c D cy ad A L nL cells slots Q (pc + 3) lv stk st) : Gm p l e R s m args below meth c D cy ad A L nL cells slots Q pc lv (.int x :: stk) st := fun H locs ls hP hS hl => lv_if_eq C.1 C.2.1 hd ht (fun a => kt a ((if_pos a).symm.trans h) H locs ls hP hS hl) (fun a => kf a ((if_neg a).symm.trans h) H locs ls hP hS hl)
theorem g_if_ne (C : Cx p s m args c cc own nL D cy ad A L) {x : Int32} {off : Int} {tgt : Nat} {X Y : Option ρ} (hd : decode cc pc = .ok (.ifCond .ne off, 3)) (ht : (pc : Int) + off = (tgt : Int)) (h : (if x = 0 then Y else X) = some res)
    (kt : ¬ x = 0 → X = some res → Gm p l e R s m args below meth c D cy ad A L nL cells slots Q tgt lv stk st) (kf : x = 0 → Y = some res → Gm p l e R s m args below meth c D cy ad A L nL cells slots Q (pc + 3) lv stk st) : Gm p l e R s m args below meth c D cy ad A L nL cells slots Q pc lv (.int x :: stk) st := fun H locs ls hP hS hl => lv_if_ne C.1 C.2.1 hd ht (fun a => kt a ((if_neg a).symm.trans h) H locs ls hP hS hl) (fun a => kf a ((if_pos a).symm.trans h) H locs ls hP hS hl)
theorem g_if_lt (C : Cx p s m args c cc own nL D cy ad A L) {x : Int32} {off : Int} {tgt : Nat} {X Y : Option ρ} (hd : decode cc pc = .ok (.ifCond .lt off, 3)) (ht : (pc : Int) + off = (tgt : Int)) (h : (if x < 0 then X else Y) = some res)
    (kt : x < 0 → X = some res → Gm p l e R s m args below meth c D cy ad A L nL cells slots Q tgt lv stk st) (kf : ¬ x < 0 → Y = some res → Gm p l e R s m args below meth c D cy ad A L nL cells slots Q (pc + 3) lv stk st) : Gm p l e R s m args below meth c D cy ad A L nL cells slots Q pc lv (.int x :: stk) st := fun H locs ls hP hS hl => lv_if_lt C.1 C.2.1 hd ht (fun a => kt a ((if_pos a).symm.trans h) H locs ls hP hS hl) (fun a => kf a ((if_neg a).symm.trans h) H locs ls hP hS hl)
theorem g_if_ge (C : Cx p s m args c cc own nL D cy ad A L) {x : Int32} {off : Int} {tgt : Nat} {X Y : Option ρ} (hd : decode cc pc = .ok (.ifCond .ge off, 3)) (ht : (pc : Int) + off = (tgt : Int)) (h : (if 0 ≤ x then X else Y) = some res)
    (kt : 0 ≤ x → X = some res → Gm p l e R s m args below meth c D cy ad A L nL cells slots Q tgt lv stk st) (kf : ¬ 0 ≤ x → Y = some res → Gm p l e R s m args below meth c D cy ad A L nL cells slots Q (pc + 3) lv stk st) : Gm p l e R s m args below meth c D cy ad A L nL cells slots Q pc lv (.int x :: stk) st := fun H locs ls hP hS hl => lv_if_ge C.1 C.2.1 hd ht (fun a => kt a ((if_pos a).symm.trans h) H locs ls hP hS hl) (fun a => kf a ((if_neg a).symm.trans h) H locs ls hP hS hl)
theorem g_if_gt (C : Cx p s m args c cc own nL D cy ad A L) {x : Int32} {off : Int} {tgt : Nat} {X Y : Option ρ} (hd : decode cc pc = .ok (.ifCond .gt off, 3)) (ht : (pc : Int) + off = (tgt : Int)) (h : (if 0 < x then X else Y) = some res)
    (kt : 0 < x → X = some res → Gm p l e R s m args below meth c D cy ad A L nL cells slots Q tgt lv stk st) (kf : ¬ 0 < x → Y = some res → Gm p l e R s m args below meth c D cy ad A L nL cells slots Q (pc + 3) lv stk st) : Gm p l e R s m args below meth c D cy ad A L nL cells slots Q pc lv (.int x :: stk) st := fun H locs ls hP hS hl => lv_if_gt C.1 C.2.1 hd ht (fun a => kt a ((if_pos a).symm.trans h) H locs ls hP hS hl) (fun a => kf a ((if_neg a).symm.trans h) H locs ls hP hS hl)
theorem g_if_le (C : Cx p s m args c cc own nL D cy ad A L) {x : Int32} {off : Int} {tgt : Nat} {X Y : Option ρ} (hd : decode cc pc = .ok (.ifCond .le off, 3)) (ht : (pc : Int) + off = (tgt : Int)) (h : (if x ≤ 0 then X else Y) = some res)
    (kt : x ≤ 0 → X = some res → Gm p l e R s m args below meth c D cy ad A L nL cells slots Q tgt lv stk st) (kf : ¬ x ≤ 0 → Y = some res → Gm p l e R s m args below meth c D cy ad A L nL cells slots Q (pc + 3) lv stk st) : Gm p l e R s m args below meth c D cy ad A L nL cells slots Q pc lv (.int x :: stk) st := fun H locs ls hP hS hl => lv_if_le C.1 C.2.1 hd ht (fun a => kt a ((if_pos a).symm.trans h) H locs ls hP hS hl) (fun a => kf a ((if_neg a).symm.trans h) H locs ls hP hS hl)
theorem g_goto (C : Cx p s m args c cc own nL D cy ad A L) {off : Int} {tgt : Nat} (hd : decode cc pc = .ok (.goto off, 3)) (ht : (pc : Int) + off = (tgt : Int))
    (kk : Gm p l e R s m args below meth c D cy ad A L nL cells slots Q tgt lv stk st) : Gm p l e R s m args below meth c D cy ad A L nL cells slots Q pc lv stk st := fun H locs ls hP hS hl => lv_goto C.1 C.2.1 hd ht (kk H locs ls hP hS hl)
theorem g_sub (ks : List Nat) {lv2 : List (Nat × Value)} (hk : lv_pick lv ks = lv2) (kk : Gm p l e R s m args below meth c D cy ad A L nL cells slots Q pc lv2 stk st) : Gm p l e R s m args below meth c D cy ad A L nL cells slots Q pc lv stk st := fun H locs ls hP hS hl => (kk H locs ls hP hS (lv_sub hl ks hk))
theorem g_st {st2 : St} (hst : st = st2) (kk : Gm p l e R s m args below meth c D cy ad A L nL cells slots Q pc lv stk st2) : Gm p l e R s m args below meth c D cy ad A L nL cells slots Q pc lv stk st := hst ▸ kk
theorem g_getI (C : Cx p s m args c cc own nL D cy ad A L) {index k ci : Nat} {Cn : String} {T : u_T} {N : Nat} (ok : clsOk ci (Cn, T, N)) (hd : decode cc pc = .ok (.getfield index, 3)) (hk : k ∈ L) (hkd : kd k = ci) (j : Nat) (hj : j < N) (hlink : Cond.fieldLink own index (T j).1 (T j).2.1 (T j).2.2.1 ∈ gtb) (hrf : rf ci j = none)
    (kk : Gm p l e R s m args below meth c D cy ad A L nL cells slots Q (pc + 3) lv (.int (st k j) :: stk) st) : Gm p l e R s m args below meth c D cy ad A L nL cells slots Q pc lv (.ref (ad k) :: stk) st := by
  intro H locs ls hP hS hl
  obtain ⟨hc, h9, hn, hin, -⟩ := ok
  obtain ⟨q, hq⟩ := List.getElem?_of_mem hk
  exact va_get C.1 C.2.1 C.2.2.2.2.1 hin C.2.2.2.1 C.2.2.2.2.2.1 hP q ((wd_get hq).trans (by rw [ce_obj hkd h9])) hc j hj (C.2.2.2.2.1 _ hlink) (fun _ h => h) ((fs_at hkd hn hj).trans (by rw [fv_int hkd hrf])) hd (kk H locs ls hP hS hl)
theorem g_getR (C : Cx p s m args c cc own nL D cy ad A L) {index k ci : Nat} {Cn : String} {T : u_T} {N : Nat} (ok : clsOk ci (Cn, T, N)) (hd : decode cc pc = .ok (.getfield index, 3)) (hk : k ∈ L) (hkd : kd k = ci) (j : Nat) (hj : j < N) (hlink : Cond.fieldLink own index (T j).1 (T j).2.1 (T j).2.2.1 ∈ gtb) {b : Bool} {d k2 : Nat} (hrf : rf ci j = some (b, d)) (h2 : (if b then k + d else d) = k2)
    (kk : Gm p l e R s m args below meth c D cy ad A L nL cells slots Q (pc + 3) lv (.ref (ad k2) :: stk) st) : Gm p l e R s m args below meth c D cy ad A L nL cells slots Q pc lv (.ref (ad k) :: stk) st := by
  intro H locs ls hP hS hl
  obtain ⟨hc, h9, hn, hin, -⟩ := ok
  obtain ⟨q, hq⟩ := List.getElem?_of_mem hk
  exact va_get C.1 C.2.1 C.2.2.2.2.1 hin C.2.2.2.1 C.2.2.2.2.2.1 hP q ((wd_get hq).trans (by rw [ce_obj hkd h9])) hc j hj (C.2.2.2.2.1 _ hlink) (fun _ h => h) ((fs_at hkd hn hj).trans (by rw [fv_ref hkd hrf, h2])) hd (kk H locs ls hP hS hl)
theorem g_put (C : Cx p s m args c cc own nL D cy ad A L) {index k ci : Nat} {Cn : String} {T : u_T} {N : Nat} (ok : clsOk ci (Cn, T, N)) (hd : decode cc pc = .ok (.putfield index, 3)) (hk : k ∈ L) (hkd : kd k = ci) (j : Nat) (hj : j < N) (hlink : Cond.fieldLink own index (T j).1 (T j).2.1 (T j).2.2.1 ∈ gtb) (hfin : (T j).2.2.2 = false) {ty : FieldType} {v : Int32} (hty : parseFieldDescriptor (T j).2.2.1 = some ty) (hnr : narrow ty (.int v) = .int v) (hfit : fits ty (.int v) = true) (hrf : rf ci j = none) {B : St → Option ρ} (h : lt (up st k j v) B = some res)
    (kk : ∀ st1 : St, B st1 = some res → Gm p l e R s m args below meth c D cy ad A L nL cells slots Q (pc + 3) lv stk st1) : Gm p l e R s m args below meth c D cy ad A L nL cells slots Q pc lv (.int v :: .ref (ad k) :: stk) st := by
  intro H locs ls hP hS hl
  obtain ⟨hc, h9, hn, hin, ty0, hty0, hnm⟩ := ok
  obtain ⟨q, hq⟩ := List.getElem?_of_mem hk
  have hD := wd_D (st' := st) C.2.2.2.2.2.2
  refine va_put C.1 C.2.1 C.2.2.2.2.1 hin ty0 hty0 hnm C.2.2.2.1 C.2.2.2.2.2.1 hP hD hS q ((wd_get hq).trans (by rw [ce_obj hkd h9])) hc j hj (C.2.2.2.2.1 _ hlink) (fun _ h => h) hfin hty hnr hfit (List.getElem?_eq_some_iff.mp (fs_at (ad := ad) (st := st) hkd hn hj)).1 hd (fun H1 locs1 hP1 hD1 hS1 => ?_)
  rw [wd_set hD hq (st' := up st k j v) (by rw [ce_obj hkd h9, fs_set hkd hn hj hrf]) (fun i hi => ce_ne (up_ne hi))] at hP1
  exact kk _ h H1 locs1 ls hP1 hS1 hl
theorem g_iald (C : Cx p s m args c cc own nL D cy ad A L) {k n : Nat} {i : Int32} {X : Option ρ} (hd : decode cc pc = .ok (.iaload, 1)) (hk : k ∈ L) (hkd : kd k = 9) (hn : ln k = n) (h : ck (inb i n) X = some res)
    (kk : X = some res → Gm p l e R s m args below meth c D cy ad A L nL cells slots Q (pc + 1) lv (.int (st k i.toNatClampNeg) :: stk) st) : Gm p l e R s m args below meth c D cy ad A L nL cells slots Q pc lv (.int i :: .ref (ad k) :: stk) st := by
  intro H locs ls hP hS hl
  obtain ⟨q, hq⟩ := List.getElem?_of_mem hk
  exact va_iald C.1 C.2.1 C.2.2.2.2.2.1 hP q 0 ((wd_get hq).trans (by rw [ce_int hkd, hn])) rfl (inb_in (ck_some h).1) hd (kk (ck_some h).2 H locs ls hP hS hl)
theorem g_zald (C : Cx p s m args c cc own nL D cy ad A L) {k n : Nat} {i : Int32} {X : Option ρ} (hd : decode cc pc = .ok (.baload, 1)) (hk : k ∈ L) (hkd : kd k = 10) (hn : ln k = n) (h : ck (inb i n) X = some res)
    (kk : X = some res → Gm p l e R s m args below meth c D cy ad A L nL cells slots Q (pc + 1) lv (.int (st k i.toNatClampNeg) :: stk) st) : Gm p l e R s m args below meth c D cy ad A L nL cells slots Q pc lv (.int i :: .ref (ad k) :: stk) st := by
  intro H locs ls hP hS hl
  obtain ⟨q, hq⟩ := List.getElem?_of_mem hk
  exact va_zald C.1 C.2.1 C.2.2.2.2.2.1 hP q 1 ((wd_get hq).trans (by rw [ce_bool hkd, hn])) rfl (inb_in (ck_some h).1) hd (kk (ck_some h).2 H locs ls hP hS hl)
theorem g_iast (C : Cx p s m args c cc own nL D cy ad A L) {k n : Nat} {i x : Int32} {B : St → Option ρ} (hd : decode cc pc = .ok (.iastore, 1)) (hk : k ∈ L) (hkd : kd k = 9) (hn : ln k = n) (h : ck (inb i n) (lt (up st k i.toNatClampNeg x) B) = some res)
    (kk : ∀ st1 : St, B st1 = some res → Gm p l e R s m args below meth c D cy ad A L nL cells slots Q (pc + 1) lv stk st1) : Gm p l e R s m args below meth c D cy ad A L nL cells slots Q pc lv (.int x :: .int i :: .ref (ad k) :: stk) st := by
  intro H locs ls hP hS hl
  obtain ⟨q, hq⟩ := List.getElem?_of_mem hk
  have hD := wd_D (st' := st) C.2.2.2.2.2.2
  refine va_iast C.1 C.2.1 C.2.2.2.2.2.1 hP hD hS q 0 ((wd_get hq).trans (by rw [ce_int hkd, hn])) rfl (inb_in (ck_some h).1) hd (fun H1 locs1 hP1 hD1 hS1 => ?_)
  rw [wd_set hD hq (st' := up st k i.toNatClampNeg x) (by rw [ce_int hkd, up_at, hn]) (fun i hi => ce_ne (up_ne hi))] at hP1
  exact kk _ (ck_some h).2 H1 locs1 ls hP1 hS1 hl
theorem g_zast (C : Cx p s m args c cc own nL D cy ad A L) {k n : Nat} {i x : Int32} {B : St → Option ρ} (hd : decode cc pc = .ok (.bastore, 1)) (hk : k ∈ L) (hkd : kd k = 10) (hn : ln k = n) (h : ck (inb i n) (lt (up st k i.toNatClampNeg (vp_nar .boolean x)) B) = some res)
    (kk : ∀ st1 : St, B st1 = some res → Gm p l e R s m args below meth c D cy ad A L nL cells slots Q (pc + 1) lv stk st1) : Gm p l e R s m args below meth c D cy ad A L nL cells slots Q pc lv (.int x :: .int i :: .ref (ad k) :: stk) st := by
  intro H locs ls hP hS hl
  obtain ⟨q, hq⟩ := List.getElem?_of_mem hk
  have hD := wd_D (st' := st) C.2.2.2.2.2.2
  refine va_zast C.1 C.2.1 C.2.2.2.2.2.1 hP hD hS q 1 ((wd_get hq).trans (by rw [ce_bool hkd, hn])) rfl (inb_in (ck_some h).1) hd (fun H1 locs1 hP1 hD1 hS1 => ?_)
  rw [wd_set hD hq (st' := up st k i.toNatClampNeg (vp_nar .boolean x)) (by rw [ce_bool hkd, up_at, hn]) (fun i hi => ce_ne (up_ne hi))] at hP1
  exact kk _ (ck_some h).2 H1 locs1 ls hP1 hS1 hl
theorem g_aaldP (C : Cx p s m args c cc own nL D cy ad A L) {k n b w : Nat} {i : Int32} {X : Option ρ} (hd : decode cc pc = .ok (.aaload, 1)) (hk : k ∈ L) (hkd : kd k = 11) (hn : ln k = n) (hb : raB k = (b, w)) (h : ck (inb i n) X = some res)
    (kk : X = some res → Gm p l e R s m args below meth c D cy ad A L nL cells slots Q (pc + 1) lv (.ref (ad (b + w * i.toNatClampNeg)) :: stk) st) : Gm p l e R s m args below meth c D cy ad A L nL cells slots Q pc lv (.int i :: .ref (ad k) :: stk) st := by
  intro H locs ls hP hS hl
  obtain ⟨q, hq⟩ := List.getElem?_of_mem hk
  have hin := inb_in (ck_some h).1
  have hlt : i.toNatClampNeg < n := Nat.not_le.mp fun q => hin (Or.inr q)
  have hcell := hP q _ ((wd_get hq).trans (by rw [ce_refs hkd (by decide), hn, hb]))
  exact W.aald (v := .ref (ad (b + w * i.toNatClampNeg))) (ty := .object "StepRegisters$Plan") C.1 C.2.1 hcell ((C.2.2.2.2.2.1.2 2 _ rfl).1 n (fun j => va_rf (some (ad (b + w * j))))) rfl (fun q => by cases q) (by show ¬ (i < 0 ∨ (arrV _ _ _).slots.size ≤ _); rw [arrV_size]; exact hin) (by show (arrV _ _ _).slots[_]? = _; rw [arrV_read _ _ hlt]; rfl) rfl rfl hd (kk (ck_some h).2 H locs ls hP hS hl)
theorem g_aaldS (C : Cx p s m args c cc own nL D cy ad A L) {k n b w : Nat} {i : Int32} {X : Option ρ} (hd : decode cc pc = .ok (.aaload, 1)) (hk : k ∈ L) (hkd : kd k = 12) (hn : ln k = n) (hb : raB k = (b, w)) (h : ck (inb i n) X = some res)
    (kk : X = some res → Gm p l e R s m args below meth c D cy ad A L nL cells slots Q (pc + 1) lv (.ref (ad (b + w * i.toNatClampNeg)) :: stk) st) : Gm p l e R s m args below meth c D cy ad A L nL cells slots Q pc lv (.int i :: .ref (ad k) :: stk) st := by
  intro H locs ls hP hS hl
  obtain ⟨q, hq⟩ := List.getElem?_of_mem hk
  have hin := inb_in (ck_some h).1
  have hlt : i.toNatClampNeg < n := Nat.not_le.mp fun q => hin (Or.inr q)
  have hcell := hP q _ ((wd_get hq).trans (by rw [ce_refs hkd (by decide), hn, hb]))
  exact W.aald (v := .ref (ad (b + w * i.toNatClampNeg))) (ty := .object "StepRegisters$State") C.1 C.2.1 hcell ((C.2.2.2.2.2.1.2 3 _ rfl).1 n (fun j => va_rf (some (ad (b + w * j))))) rfl (fun q => by cases q) (by show ¬ (i < 0 ∨ (arrV _ _ _).slots.size ≤ _); rw [arrV_size]; exact hin) (by show (arrV _ _ _).slots[_]? = _; rw [arrV_read _ _ hlt]; rfl) rfl rfl hd (kk (ck_some h).2 H locs ls hP hS hl)
theorem g_aaldI (C : Cx p s m args c cc own nL D cy ad A L) {k n b w : Nat} {i : Int32} {X : Option ρ} (hd : decode cc pc = .ok (.aaload, 1)) (hk : k ∈ L) (hkd : kd k = 13) (hn : ln k = n) (hb : raB k = (b, w)) (h : ck (inb i n) X = some res)
    (kk : X = some res → Gm p l e R s m args below meth c D cy ad A L nL cells slots Q (pc + 1) lv (.ref (ad (b + w * i.toNatClampNeg)) :: stk) st) : Gm p l e R s m args below meth c D cy ad A L nL cells slots Q pc lv (.int i :: .ref (ad k) :: stk) st := by
  intro H locs ls hP hS hl
  obtain ⟨q, hq⟩ := List.getElem?_of_mem hk
  have hin := inb_in (ck_some h).1
  have hlt : i.toNatClampNeg < n := Nat.not_le.mp fun q => hin (Or.inr q)
  have hcell := hP q _ ((wd_get hq).trans (by rw [ce_refs hkd (by decide), hn, hb]))
  exact W.aald (v := .ref (ad (b + w * i.toNatClampNeg))) (ty := .array .int) C.1 C.2.1 hcell ((C.2.2.2.2.2.1.2 4 _ rfl).1 n (fun j => va_rf (some (ad (b + w * j))))) rfl (fun q => by cases q) (by show ¬ (i < 0 ∨ (arrV _ _ _).slots.size ≤ _); rw [arrV_size]; exact hin) (by show (arrV _ _ _).slots[_]? = _; rw [arrV_read _ _ hlt]; rfl) rfl rfl hd (kk (ck_some h).2 H locs ls hP hS hl)
theorem g_alen (C : Cx p s m args c cc own nL D cy ad A L) {k n : Nat} (hd : decode cc pc = .ok (.arraylength, 1)) (hk : k ∈ L) (hkd : kd k = 9) (hn : ln k = n) {v : Int32} (hv : Int32.ofNat n = v)
    (kk : Gm p l e R s m args below meth c D cy ad A L nL cells slots Q (pc + 1) lv (.int v :: stk) st) : Gm p l e R s m args below meth c D cy ad A L nL cells slots Q pc lv (.ref (ad k) :: stk) st := by
  intro H locs ls hP hS hl
  obtain ⟨q, hq⟩ := List.getElem?_of_mem hk
  exact va_alen C.1 C.2.1 C.2.2.2.2.2.1 hP q 0 ((wd_get hq).trans (by rw [ce_int hkd, hn])) rfl hv hd (kk H locs ls hP hS hl)
theorem g_alenP (C : Cx p s m args c cc own nL D cy ad A L) {k n : Nat} (hd : decode cc pc = .ok (.arraylength, 1)) (hk : k ∈ L) (hkd : kd k = 11) (hn : ln k = n) {v : Int32} (hv : Int32.ofNat n = v)
    (kk : Gm p l e R s m args below meth c D cy ad A L nL cells slots Q (pc + 1) lv (.int v :: stk) st) : Gm p l e R s m args below meth c D cy ad A L nL cells slots Q pc lv (.ref (ad k) :: stk) st := by
  intro H locs ls hP hS hl
  obtain ⟨q, hq⟩ := List.getElem?_of_mem hk
  exact va_alen C.1 C.2.1 C.2.2.2.2.2.1 hP q 2 ((wd_get hq).trans (by rw [ce_refs hkd (by decide), hn])) rfl hv hd (kk H locs ls hP hS hl)
theorem g_min (C : Cx p s m args c cc own nL D cy ad A L) {index : Nat} {x y : Int32} (hlink : Cond.methodLink own index Lib.Math.min.name ∈ gtb) (hstat : Cond.static Lib.Math.min.name ∈ gtb) (hini : Cond.initialized "java/lang/Math" ∈ gtb) (hcode : Cond.code Lib.Math.min.name Lib.Math.min.code 2 (some .int) ∈ gtb) (hR : 1 ≤ R.frames ∧ (stk.map fun v => v.category).sum + 13 ≤ R.locals ∧ cells ≤ R.cells ∧ slots ≤ R.slots) (hd : decode cc pc = .ok (.invokestatic index, 3))
    (kk : Gm p l e R s m args below meth c D cy ad A L nL cells slots Q (pc + 3) lv (.int (if y < x then y else x) :: stk) st) : Gm p l e R s m args below meth c D cy ad A L nL cells slots Q pc lv (.int y :: .int x :: stk) st := by
  intro H locs ls hP hS hl
  exact va_mmin C.1 C.2.1 (C.2.2.1.trans hl.1.symm) C.2.2.2.1 (C.2.2.2.2.1 _ hlink) (C.2.2.2.2.1 _ hstat) (C.2.2.2.2.1 _ hini) (C.2.2.2.2.1 _ hcode) hR.1 hR.2.1 hR.2.2.1 hR.2.2.2 hd (kk H locs ls hP hS hl)
theorem g_max (C : Cx p s m args c cc own nL D cy ad A L) {index : Nat} {x y : Int32} (hlink : Cond.methodLink own index Lib.Math.max.name ∈ gtb) (hstat : Cond.static Lib.Math.max.name ∈ gtb) (hini : Cond.initialized "java/lang/Math" ∈ gtb) (hcode : Cond.code Lib.Math.max.name Lib.Math.max.code 2 (some .int) ∈ gtb) (hR : 1 ≤ R.frames ∧ (stk.map fun v => v.category).sum + 13 ≤ R.locals ∧ cells ≤ R.cells ∧ slots ≤ R.slots) (hd : decode cc pc = .ok (.invokestatic index, 3))
    (kk : Gm p l e R s m args below meth c D cy ad A L nL cells slots Q (pc + 3) lv (.int (if x < y then y else x) :: stk) st) : Gm p l e R s m args below meth c D cy ad A L nL cells slots Q pc lv (.int y :: .int x :: stk) st := by
  intro H locs ls hP hS hl
  exact va_mmax C.1 C.2.1 (C.2.2.1.trans hl.1.symm) C.2.2.2.1 (C.2.2.2.2.1 _ hlink) (C.2.2.2.2.1 _ hstat) (C.2.2.2.2.1 _ hini) (C.2.2.2.2.1 _ hcode) hR.1 hR.2.1 hR.2.2.1 hR.2.2.2 hd (kk H locs ls hP hS hl)
theorem g_abs (C : Cx p s m args c cc own nL D cy ad A L) {index : Nat} {x : Int32} (hlink : Cond.methodLink own index Lib.Math.abs.name ∈ gtb) (hstat : Cond.static Lib.Math.abs.name ∈ gtb) (hini : Cond.initialized "java/lang/Math" ∈ gtb) (hcode : Cond.code Lib.Math.abs.name Lib.Math.abs.code 1 (some .int) ∈ gtb) (hR : 1 ≤ R.frames ∧ (stk.map fun v => v.category).sum + 13 ≤ R.locals ∧ cells ≤ R.cells ∧ slots ≤ R.slots) (hd : decode cc pc = .ok (.invokestatic index, 3))
    (kk : Gm p l e R s m args below meth c D cy ad A L nL cells slots Q (pc + 3) lv (.int (if 0 ≤ x then x else 0 - x) :: stk) st) : Gm p l e R s m args below meth c D cy ad A L nL cells slots Q pc lv (.int x :: stk) st := by
  intro H locs ls hP hS hl
  exact va_mabs C.1 C.2.1 (C.2.2.1.trans hl.1.symm) C.2.2.2.1 (C.2.2.2.2.1 _ hlink) (C.2.2.2.2.1 _ hstat) (C.2.2.2.2.1 _ hini) (C.2.2.2.2.1 _ hcode) hR.1 hR.2.1 hR.2.2.1 hR.2.2.2 hd (kk H locs ls hP hS hl)
theorem g_copy (C : Cx p s m args c cc own nL D cy ad A L) {index k0 k1 n0 n1 : Nat} {sp dp n : Int32} {B : St → Option ρ} (hlink : Cond.methodLink own index arraycopyName ∈ gtb) (hnat : Cond.native arraycopyName ∈ gtb) (hstat : Cond.static arraycopyName ∈ gtb) (hini : Cond.initialized "java/lang/System" ∈ gtb) (hk0 : k0 ∈ L) (hkd0 : kd k0 = 9) (hn0 : ln k0 = n0) (hk1 : k1 ∈ L) (hkd1 : kd k1 = 9) (hn1 : ln k1 = n1) (hR : 1 ≤ R.frames ∧ (stk.map fun v => v.category).sum + (nativeFrameWords "java/lang/System" "arraycopy" 5 + 11) ≤ R.locals) (hd : decode cc pc = .ok (.invokestatic index, 3))
    (h : ck (decide (0 ≤ sp ∧ 0 ≤ dp ∧ 0 ≤ n ∧ sp.toNatClampNeg + n.toNatClampNeg ≤ n0 ∧ dp.toNatClampNeg + n.toNatClampNeg ≤ n1)) (lt (upr st k1 (va_cpy (st k0) (st k1) sp.toNatClampNeg dp.toNatClampNeg n.toNatClampNeg)) B) = some res)
    (kk : ∀ st1 : St, B st1 = some res → Gm p l e R s m args below meth c D cy ad A L nL cells slots Q (pc + 3) lv stk st1) : Gm p l e R s m args below meth c D cy ad A L nL cells slots Q pc lv (.int n :: .int dp :: .ref (ad k1) :: .int sp :: .ref (ad k0) :: stk) st := by
  intro H locs ls hP hS hl
  obtain ⟨q0, hq0⟩ := List.getElem?_of_mem hk0
  obtain ⟨q1, hq1⟩ := List.getElem?_of_mem hk1
  have hD := wd_D (st' := st) C.2.2.2.2.2.2
  obtain ⟨h1, h2, h3, h4, h5⟩ := of_decide_eq_true (ck_some h).1
  refine va_copyi (ty := .int) C.1 C.2.1 (C.2.2.1.trans hl.1.symm) C.2.2.2.1 (C.2.2.2.2.1 _ hlink) (C.2.2.2.2.1 _ hnat) (C.2.2.2.2.1 _ hstat) (C.2.2.2.2.1 _ hini) C.2.2.2.2.2.1 hP hD hS q0 q1 0 0 ((wd_get hq0).trans (by rw [ce_int hkd0, hn0])) ((wd_get hq1).trans (by rw [ce_int hkd1, hn1])) rfl rfl rfl (Int32.not_lt.mpr h1) (Int32.not_lt.mpr h2) (Int32.not_lt.mpr h3) h4 h5 (fun _ _ => rfl) hR.1 hR.2 hd (fun H1 locs1 hP1 hD1 hS1 => ?_)
  rw [wd_set hD hq1 (st' := upr st k1 (va_cpy (st k0) (st k1) sp.toNatClampNeg dp.toNatClampNeg n.toNatClampNeg)) (by rw [ce_int hkd1, upr_at, hn1]) (fun i hi => ce_ne (upr_ne hi))] at hP1
  exact kk _ (ck_some h).2 H1 locs1 ls hP1 hS1 hl
theorem blind {av : List Value} : FrameBlind (va_Pc av (Wld D cy ad A L st)) := fun a U g mk q => by
  obtain ⟨q0, qP, qK, qD⟩ := q
  exact ⟨q0, qP, va_K.moved (u := U) (U := U.calling g mk a) (Vm.Alike.refl U.vm) qK, qD⟩
/-- what the tables say of a method -/
def MF (y : MethodName) (bytes : ByteArray) (maxL : Nat) (ret : Option FieldType) (n : Nat) : Prop := Cond.code y bytes maxL ret ∈ gtb ∧ Cond.initialized y.cls ∈ gtb ∧ (y.cls ≠ "java/lang/invoke/MethodHandle" ∧ y.cls ≠ "java/lang/invoke/VarHandle") ∧ (parseMethodDescriptor y.desc).map (fun d => d.parameters.length) = some n
theorem mf_B {index n d maxL : Nat} {y : MethodName} {bytes : ByteArray} {ret : Option FieldType} (C : Cx p s m args c cc own nL D cy ad A L) (F : MF y bytes maxL ret n) (hlink : Cond.methodLink own index y ∈ gtb) (hR : d + 1 ≤ R.frames ∧ 8 + (maxL + 11) + 40 * d ≤ R.locals) : CallB R s args own index y bytes maxL ret (wsy y bytes maxL ret) (rmD d) 0 0 n :=
  callB_of n C.2.2.2.2.1 (wsy_good F.1) rfl rfl rfl (C.2.2.2.2.1 _ F.2.1) (C.2.2.2.2.1 _ hlink) ⟨F.2.2.1.1, F.2.2.1.2, F.2.2.2⟩ hR
theorem g_run {st' : St} {ov : Option Value} {rest st0 : List Value} {a : Array Value} {H : Heap} {locs : List Loc} {ls : Array Slot} (hr : va_Run p l e R s m args below meth c H locs cells slots 0 0 (F0 m pc ls st0) rest (QG D cy ad A L ov st' a) A) (hS : va_S A s.heap H locs) (hl : lv_has ls nL lv)
    (kk : Gm p l e R s m args below meth c D cy ad A L nL cells slots Q (pc + 3) lv (ov.toList ++ rest) st') : W p l e R s m args below meth c H locs cells slots Q (F0 m pc ls st0) := by
  intro T hT X
  obtain ⟨v, st₀, t, T', L', h0, X', hL, e1, e2, ⟨hv, ⟨hP1, -, -⟩, hz, hk⟩, st⟩ := hr T hT X
  cases hv
  rw [h0] at hz hk
  obtain ⟨t2, a1, b1⟩ := kk T'.heap (locs ++ L') ls (by rw [e1]; exact hP1) ⟨Nat.le_trans hS.1 (by rw [e1]; exact hz), fun q h1 h2 => by rw [e1, hk q (Nat.lt_of_lt_of_le h1 hS.1) h2]; exact hS.2.1 q h1 h2, fun q hq => by
      rcases List.mem_append.mp hq with h | h
      · exact hS.2.2 q h
      · exact hL q h⟩ hl T' rfl X'
  exact ⟨t2, st t2 a1, b1⟩
theorem g_callV (C : Cx p s m args c cc own nL D cy ad A L) {index n d maxL k ci : Nat} {y : MethodName} {bytes : ByteArray} {ret : Option FieldType} {Cn : String} {T : u_T} {N : Nat} {As rest : List Value} {st' : St} {ov : Option Value} (F : MF y bytes maxL ret n) (ok : clsOk ci (Cn, T, N)) (hy : y.cls = Cn) (hlink : Cond.methodLink own index y ∈ gtb) (hinst : Cond.instanceMethod y ∈ gtb) (hsel : Cond.selects y.cls y y ∈ gtb) (hd : decode cc pc = .ok (.invokevirtual index, 3)) (hk : k ∈ L) (hkd : kd k = ci) (hn : As.length = n) (hs : stk = As.reverse ++ .ref (ad k) :: rest) (hR : d + 1 ≤ R.frames ∧ 8 + (maxL + 11) + 40 * d ≤ R.locals) (hrest : (rest.map fun v => v.category).sum ≤ 8) (hcs : cells + 0 ≤ R.cells ∧ slots + 0 ≤ R.slots) (hM : Ct l D cy ad A L y bytes maxL ret d (.ref (ad k) :: As) st ov st')
    (kk : Gm p l e R s m args below meth c D cy ad A L nL cells slots Q (pc + 3) lv (ov.toList ++ rest) st') : Gm p l e R s m args below meth c D cy ad A L nL cells slots Q pc lv stk st := by
  intro H locs ls hP hS hl
  subst hs
  obtain ⟨hc, h9, -⟩ := ok
  obtain ⟨q, hq⟩ := List.getElem?_of_mem hk
  subst hy
  refine g_run (va_runV (C := y.cls) ⟨C.1, C.2.1, C.2.2.1, C.2.2.2.1, C.2.2.2.2.1⟩ hM ⟨mf_B C F hlink hR, C.2.2.2.2.1 _ hinst, C.2.2.2.2.1 _ hsel⟩ ⟨blind, va_recv C.2.2.2.2.2.1 hP hc ((wd_get hq).trans (by rw [ce_obj hkd h9])), fun U hU hW => ⟨rfl, by rw [hU]; exact hP, va_K.moved hW.alike C.2.2.2.2.2.1, C.2.2.2.2.2.2⟩⟩ rfl hn hl.1 rfl (lv_room hrest) hd hcs) hS hl kk
theorem g_callS (C : Cx p s m args c cc own nL D cy ad A L) {index n d maxL : Nat} {y : MethodName} {bytes : ByteArray} {ret : Option FieldType} {As rest : List Value} {st' : St} {ov : Option Value} (F : MF y bytes maxL ret n) (hlink : Cond.methodLink own index y ∈ gtb) (hstat : Cond.static y ∈ gtb) (hd : decode cc pc = .ok (.invokestatic index, 3)) (hn : As.length = n) (hs : stk = As.reverse ++ rest) (hR : d + 1 ≤ R.frames ∧ 8 + (maxL + 11) + 40 * d ≤ R.locals) (hrest : (rest.map fun v => v.category).sum ≤ 8) (hcs : cells + 0 ≤ R.cells ∧ slots + 0 ≤ R.slots) (hM : Ct l D cy ad A L y bytes maxL ret d As st ov st')
    (kk : Gm p l e R s m args below meth c D cy ad A L nL cells slots Q (pc + 3) lv (ov.toList ++ rest) st') : Gm p l e R s m args below meth c D cy ad A L nL cells slots Q pc lv stk st := by
  intro H locs ls hP hS hl
  subst hs
  refine g_run (va_runS ⟨C.1, C.2.1, C.2.2.1, C.2.2.2.1, C.2.2.2.2.1⟩ hM ⟨mf_B C F hlink hR, C.2.2.2.2.1 _ hstat⟩ ⟨blind, fun U hU hW => ⟨rfl, by rw [hU]; exact hP, va_K.moved hW.alike C.2.2.2.2.2.1, C.2.2.2.2.2.2⟩⟩ rfl hn hl.1 rfl (lv_room hrest) hd hcs) hS hl kk
theorem g_iret (C : Cx p s m args c cc own nL D cy ad A L) {v r : Int32} {st' : St} (hr : meth.sig.returnType = some .int) (hlk : meth.locks = false) (hd : decode cc pc = .ok (.ireturn, 1)) (h : some (v, st) = some (r, st')) : Gm p l e R s m args below meth c D cy ad A L nL 0 0 (MQ below (QG D cy ad A L (some (.int r)) st') args s 0 0 A) pc lv [.int v] st := by
  intro H locs ls hP hS hl
  cases h
  exact W.iret C.1 C.2.1 hr (fun t ht hW => ⟨rfl, ⟨by rw [ht]; exact hP, va_K.moved hW.alike C.2.2.2.2.2.1, C.2.2.2.2.2.2⟩, hS.F ht⟩) hS.2.2 hd
theorem g_zret (C : Cx p s m args c cc own nL D cy ad A L) {v r : Int32} {st' : St} (hr : meth.sig.returnType = some .boolean) (hlk : meth.locks = false) (hd : decode cc pc = .ok (.ireturn, 1)) (h : ck (decide (narrow .boolean (.int v) = .int v)) (some (v, st)) = some (r, st')) : Gm p l e R s m args below meth c D cy ad A L nL 0 0 (MQ below (QG D cy ad A L (some (.int r)) st') args s 0 0 A) pc lv [.int v] st := by
  intro H locs ls hP hS hl
  obtain ⟨h1, h⟩ := ck_some h
  cases h
  exact W.zret C.1 C.2.1 hr (of_decide_eq_true h1) (fun t ht hW => ⟨rfl, ⟨by rw [ht]; exact hP, va_K.moved hW.alike C.2.2.2.2.2.1, C.2.2.2.2.2.2⟩, hS.F ht⟩) hS.2.2 hd
theorem g_lret (C : Cx p s m args c cc own nL D cy ad A L) {v r : Int64} {st' : St} (hr : meth.sig.returnType = some .long) (hlk : meth.locks = false) (hd : decode cc pc = .ok (.lreturn, 1)) (h : some (v, st) = some (r, st')) : Gm p l e R s m args below meth c D cy ad A L nL 0 0 (MQ below (QG D cy ad A L (some (.long r)) st') args s 0 0 A) pc lv [.long v] st := by
  intro H locs ls hP hS hl
  cases h
  exact W.lret C.1 C.2.1 hr (fun t ht hW => ⟨rfl, ⟨by rw [ht]; exact hP, va_K.moved hW.alike C.2.2.2.2.2.1, C.2.2.2.2.2.2⟩, hS.F ht⟩) hS.2.2 hd
theorem g_aret (C : Cx p s m args c cc own nL D cy ad A L) {v r : Nat} {st' : St} {rt : FieldType} (hr : meth.sig.returnType = some rt) (hlk : meth.locks = false) (hrt : (∃ n, rt = FieldType.object n) ∨ ∃ t, rt = FieldType.array t) (hd : decode cc pc = .ok (.areturn, 1)) (h : some (v, st) = some (r, st')) : Gm p l e R s m args below meth c D cy ad A L nL 0 0 (MQ below (QG D cy ad A L (some (.ref (ad r))) st') args s 0 0 A) pc lv [.ref (ad v)] st := by
  intro H locs ls hP hS hl
  cases h
  exact W.aret C.1 C.2.1 hr hrt (Or.inr ⟨_, rfl⟩) (fun t ht hW => ⟨rfl, ⟨by rw [ht]; exact hP, va_K.moved hW.alike C.2.2.2.2.2.1, C.2.2.2.2.2.2⟩, hS.F ht⟩) hS.2.2 hd
theorem g_vret (C : Cx p s m args c cc own nL D cy ad A L) {st' : St} (hr : meth.sig.returnType = none) (hlk : meth.locks = false) (hd : decode cc pc = .ok (.return_, 1)) (h : some st = some st') : Gm p l e R s m args below meth c D cy ad A L nL 0 0 (MQ below (QG D cy ad A L none st') args s 0 0 A) pc lv [] st := by
  intro H locs ls hP hS hl
  cases h
  exact W.vret C.1 C.2.1 hr (fun t ht hW => ⟨rfl, ⟨by rw [ht]; exact hP, va_K.moved hW.alike C.2.2.2.2.2.1, C.2.2.2.2.2.2⟩, hS.F ht⟩) hS.2.2 hd
theorem g_swIn (C : Cx p s m args c cc own nL D cy ad A L) {dflt lo hi : Int} {offs : Array Int} {len : Nat} {x k : Int32} {off : Int} {tgt : Nat} (hd : decode cc pc = .ok (.tableswitch dflt lo hi offs, len)) (hx : x = k) (h1 : ¬ k.toInt < lo) (h2 : ¬ hi < k.toInt) (ho : offs[(k.toInt - lo).toNat]? = some off) (ht : (pc : Int) + off = (tgt : Int)) (kk : Gm p l e R s m args below meth c D cy ad A L nL cells slots Q tgt lv stk st) : Gm p l e R s m args below meth c D cy ad A L nL cells slots Q pc lv (.int x :: stk) st := by
  subst hx
  exact fun H locs ls hP hS hl => lv_tableIn C.1 C.2.1 hd h1 h2 ho ht (kk H locs ls hP hS hl)
theorem g_swOut (C : Cx p s m args c cc own nL D cy ad A L) {dflt lo hi : Int} {offs : Array Int} {len : Nat} {x : Int32} {tgt : Nat} (hd : decode cc pc = .ok (.tableswitch dflt lo hi offs, len)) (hx : x.toInt < lo ∨ hi < x.toInt) (ht : (pc : Int) + dflt = (tgt : Int)) (kk : Gm p l e R s m args below meth c D cy ad A L nL cells slots Q tgt lv stk st) : Gm p l e R s m args below meth c D cy ad A L nL cells slots Q pc lv (.int x :: stk) st :=
  fun H locs ls hP hS hl => lv_tableOut C.1 C.2.1 hd hx ht (kk H locs ls hP hS hl)
theorem ct_of {y : MethodName} {maxL d : Nat} {ret : Option FieldType} {av : List Value} {st' : St} {ov : Option Value} (hy : plainName y.cls = true) (hown : y.cls = own) (hav : (lg_sl av).length ≤ maxL)
    (body : ∀ (p : Program) (e : Env) (s : State) (m : MethodId) (args : Array Value) (below : List Frame) (meth : Method) (c : Code), Cx p s m args c cc own maxL D cy ad A L → meth.sig.returnType = ret → meth.locks = false → Gm p l e (rmD d) s m args below meth c D cy ad A L maxL 0 0 (MQ below (QG D cy ad A L ov st') args s 0 0 A) 0 (lv_args 0 av) [] st) : Ct l D cy ad A L y cc maxL ret d av st ov st' := by
  subst hown
  refine Met.ofW (cc := cc) (maxL := maxL) (ret := ret) hy rfl ?_
  intro p e s m args below meth c s₁ B hml hv
  obtain ⟨rfl, hP, hK, hD⟩ := hv
  have hts := atoms_spec (ws := wsy y cc maxL ret) B.pre
  have hl := lv_entry av (n := maxL) hav
  rw [lg_entry_eq]
  exact body p e s m _ below meth c ⟨B.exec, B.bytes, hml, findClass_of_methodNamed B.named, fun w hw => hts w (List.mem_cons_of_mem _ hw), hK, hD⟩ B.returns B.notSynchronized s.heap [] _ hP va_S.rf hl
end GR
end
section
set_option maxRecDepth 100000 in
theorem lk_L_9 : Cond.methodLink RL 9 yX7_init ∈ gtb := gtb_of 59 (by decide +kernel) (by decide +kernel)
set_option maxRecDepth 100000 in
theorem lk_X7_3 : Cond.methodLink RX7 3 objectInit ∈ gtb := gtb_of 62 (by decide +kernel) (by decide +kernel)
set_option maxRecDepth 100000 in
theorem lk_X7_11 : Cond.methodLink RX7 11 yX5_init ∈ gtb := gtb_of 67 (by decide +kernel) (by decide +kernel)
set_option maxRecDepth 100000 in
theorem lk_X5_3 : Cond.methodLink RX5 3 objectInit ∈ gtb := gtb_of 70 (by decide +kernel) (by decide +kernel)
set_option maxRecDepth 100000 in
theorem lk_X5_34 : Cond.fieldLink RX5 34 (TX5 0).1 (TX5 0).2.1 (TX5 0).2.2.1 ∈ gtb := gtb_of 71 (by decide +kernel) (by decide +kernel)
set_option maxRecDepth 100000 in
theorem lk_X4_19 : Cond.fieldLink RX4 19 (TX5 0).1 (TX5 0).2.1 (TX5 0).2.2.1 ∈ gtb := gtb_of 72 (by decide +kernel) (by decide +kernel)
set_option maxRecDepth 100000 in
theorem lk_X6_50 : Cond.fieldLink RX6 50 (TX5 0).1 (TX5 0).2.1 (TX5 0).2.2.1 ∈ gtb := gtb_of 73 (by decide +kernel) (by decide +kernel)
set_option maxRecDepth 100000 in
theorem lk_X7_58 : Cond.fieldLink RX7 58 (TX5 0).1 (TX5 0).2.1 (TX5 0).2.2.1 ∈ gtb := gtb_of 74 (by decide +kernel) (by decide +kernel)
set_option maxRecDepth 100000 in
theorem lk_X3_158 : Cond.fieldLink RX3 158 (TX5 0).1 (TX5 0).2.1 (TX5 0).2.2.1 ∈ gtb := gtb_of 75 (by decide +kernel) (by decide +kernel)
set_option maxRecDepth 100000 in
theorem lk_X5_9 : Cond.fieldLink RX5 9 (TX5 1).1 (TX5 1).2.1 (TX5 1).2.2.1 ∈ gtb := gtb_of 76 (by decide +kernel) (by decide +kernel)
set_option maxRecDepth 100000 in
theorem lk_X4_34 : Cond.fieldLink RX4 34 (TX5 1).1 (TX5 1).2.1 (TX5 1).2.2.1 ∈ gtb := gtb_of 77 (by decide +kernel) (by decide +kernel)
set_option maxRecDepth 100000 in
theorem lk_X7_76 : Cond.fieldLink RX7 76 (TX5 1).1 (TX5 1).2.1 (TX5 1).2.2.1 ∈ gtb := gtb_of 78 (by decide +kernel) (by decide +kernel)
set_option maxRecDepth 100000 in
theorem lk_X5_15 : Cond.fieldLink RX5 15 (TX5 2).1 (TX5 2).2.1 (TX5 2).2.2.1 ∈ gtb := gtb_of 79 (by decide +kernel) (by decide +kernel)
set_option maxRecDepth 100000 in
theorem lk_X4_37 : Cond.fieldLink RX4 37 (TX5 2).1 (TX5 2).2.1 (TX5 2).2.2.1 ∈ gtb := gtb_of 80 (by decide +kernel) (by decide +kernel)
set_option maxRecDepth 100000 in
theorem lk_X6_73 : Cond.fieldLink RX6 73 (TX5 2).1 (TX5 2).2.1 (TX5 2).2.2.1 ∈ gtb := gtb_of 81 (by decide +kernel) (by decide +kernel)
set_option maxRecDepth 100000 in
theorem lk_X7_86 : Cond.fieldLink RX7 86 (TX5 2).1 (TX5 2).2.1 (TX5 2).2.2.1 ∈ gtb := gtb_of 82 (by decide +kernel) (by decide +kernel)
set_option maxRecDepth 100000 in
theorem lk_X5_18 : Cond.fieldLink RX5 18 (TX5 3).1 (TX5 3).2.1 (TX5 3).2.2.1 ∈ gtb := gtb_of 83 (by decide +kernel) (by decide +kernel)
set_option maxRecDepth 100000 in
theorem lk_X6_55 : Cond.fieldLink RX6 55 (TX5 3).1 (TX5 3).2.1 (TX5 3).2.2.1 ∈ gtb := gtb_of 84 (by decide +kernel) (by decide +kernel)
set_option maxRecDepth 100000 in
theorem lk_X4_27 : Cond.fieldLink RX4 27 (TX5 3).1 (TX5 3).2.1 (TX5 3).2.2.1 ∈ gtb := gtb_of 85 (by decide +kernel) (by decide +kernel)
set_option maxRecDepth 100000 in
theorem lk_X7_80 : Cond.fieldLink RX7 80 (TX5 3).1 (TX5 3).2.1 (TX5 3).2.2.1 ∈ gtb := gtb_of 86 (by decide +kernel) (by decide +kernel)
set_option maxRecDepth 100000 in
theorem lk_X5_21 : Cond.fieldLink RX5 21 (TX5 4).1 (TX5 4).2.1 (TX5 4).2.2.1 ∈ gtb := gtb_of 87 (by decide +kernel) (by decide +kernel)
set_option maxRecDepth 100000 in
theorem lk_X4_24 : Cond.fieldLink RX4 24 (TX5 4).1 (TX5 4).2.1 (TX5 4).2.2.1 ∈ gtb := gtb_of 88 (by decide +kernel) (by decide +kernel)
set_option maxRecDepth 100000 in
theorem lk_X6_58 : Cond.fieldLink RX6 58 (TX5 4).1 (TX5 4).2.1 (TX5 4).2.2.1 ∈ gtb := gtb_of 89 (by decide +kernel) (by decide +kernel)
set_option maxRecDepth 100000 in
theorem lk_X7_83 : Cond.fieldLink RX7 83 (TX5 4).1 (TX5 4).2.1 (TX5 4).2.2.1 ∈ gtb := gtb_of 90 (by decide +kernel) (by decide +kernel)
set_option maxRecDepth 100000 in
theorem lk_X5_24 : Cond.fieldLink RX5 24 (TX5 5).1 (TX5 5).2.1 (TX5 5).2.2.1 ∈ gtb := gtb_of 91 (by decide +kernel) (by decide +kernel)
set_option maxRecDepth 100000 in
theorem lk_X7_89 : Cond.fieldLink RX7 89 (TX5 5).1 (TX5 5).2.1 (TX5 5).2.2.1 ∈ gtb := gtb_of 92 (by decide +kernel) (by decide +kernel)
set_option maxRecDepth 100000 in
theorem lk_X5_28 : Cond.fieldLink RX5 28 (TX5 6).1 (TX5 6).2.1 (TX5 6).2.2.1 ∈ gtb := gtb_of 93 (by decide +kernel) (by decide +kernel)
set_option maxRecDepth 100000 in
theorem lk_X7_92 : Cond.fieldLink RX7 92 (TX5 6).1 (TX5 6).2.1 (TX5 6).2.2.1 ∈ gtb := gtb_of 94 (by decide +kernel) (by decide +kernel)
set_option maxRecDepth 100000 in
theorem lk_X5_31 : Cond.fieldLink RX5 31 (TX5 7).1 (TX5 7).2.1 (TX5 7).2.2.1 ∈ gtb := gtb_of 95 (by decide +kernel) (by decide +kernel)
set_option maxRecDepth 100000 in
theorem lk_X7_154 : Cond.fieldLink RX7 154 (TX5 7).1 (TX5 7).2.1 (TX5 7).2.2.1 ∈ gtb := gtb_of 96 (by decide +kernel) (by decide +kernel)
set_option maxRecDepth 100000 in
theorem lk_X4_3 : Cond.methodLink RX4 3 objectInit ∈ gtb := gtb_of 121 (by decide +kernel) (by decide +kernel)
set_option maxRecDepth 100000 in
theorem lk_X4_9 : Cond.fieldLink RX4 9 (TX4 0).1 (TX4 0).2.1 (TX4 0).2.2.1 ∈ gtb := gtb_of 122 (by decide +kernel) (by decide +kernel)
set_option maxRecDepth 100000 in
theorem lk_X7_102 : Cond.fieldLink RX7 102 (TX4 0).1 (TX4 0).2.1 (TX4 0).2.2.1 ∈ gtb := gtb_of 123 (by decide +kernel) (by decide +kernel)
set_option maxRecDepth 100000 in
theorem lk_X4_15 : Cond.fieldLink RX4 15 (TX4 1).1 (TX4 1).2.1 (TX4 1).2.2.1 ∈ gtb := gtb_of 124 (by decide +kernel) (by decide +kernel)
set_option maxRecDepth 100000 in
theorem lk_X7_170 : Cond.fieldLink RX7 170 (TX4 1).1 (TX4 1).2.1 (TX4 1).2.2.1 ∈ gtb := gtb_of 125 (by decide +kernel) (by decide +kernel)
set_option maxRecDepth 100000 in
theorem lk_X6_3 : Cond.methodLink RX6 3 objectInit ∈ gtb := gtb_of 136 (by decide +kernel) (by decide +kernel)
set_option maxRecDepth 100000 in
theorem lk_X6_9 : Cond.fieldLink RX6 9 (TX6 0).1 (TX6 0).2.1 (TX6 0).2.2.1 ∈ gtb := gtb_of 137 (by decide +kernel) (by decide +kernel)
set_option maxRecDepth 100000 in
theorem lk_X7_201 : Cond.fieldLink RX7 201 (TX6 0).1 (TX6 0).2.1 (TX6 0).2.2.1 ∈ gtb := gtb_of 138 (by decide +kernel) (by decide +kernel)
set_option maxRecDepth 100000 in
theorem lk_X6_15 : Cond.fieldLink RX6 15 (TX6 1).1 (TX6 1).2.1 (TX6 1).2.2.1 ∈ gtb := gtb_of 139 (by decide +kernel) (by decide +kernel)
set_option maxRecDepth 100000 in
theorem lk_X6_18 : Cond.fieldLink RX6 18 (TX6 2).1 (TX6 2).2.1 (TX6 2).2.2.1 ∈ gtb := gtb_of 140 (by decide +kernel) (by decide +kernel)
set_option maxRecDepth 100000 in
theorem lk_X6_21 : Cond.fieldLink RX6 21 (TX6 3).1 (TX6 3).2.1 (TX6 3).2.2.1 ∈ gtb := gtb_of 141 (by decide +kernel) (by decide +kernel)
set_option maxRecDepth 100000 in
theorem lk_X6_24 : Cond.fieldLink RX6 24 (TX6 4).1 (TX6 4).2.1 (TX6 4).2.2.1 ∈ gtb := gtb_of 142 (by decide +kernel) (by decide +kernel)
set_option maxRecDepth 100000 in
theorem lk_X6_27 : Cond.fieldLink RX6 27 (TX6 5).1 (TX6 5).2.1 (TX6 5).2.2.1 ∈ gtb := gtb_of 143 (by decide +kernel) (by decide +kernel)
set_option maxRecDepth 100000 in
theorem lk_X6_36 : Cond.fieldLink RX6 36 (TX6 6).1 (TX6 6).2.1 (TX6 6).2.2.1 ∈ gtb := gtb_of 144 (by decide +kernel) (by decide +kernel)
set_option maxRecDepth 100000 in
theorem lk_X6_40 : Cond.fieldLink RX6 40 (TX6 7).1 (TX6 7).2.1 (TX6 7).2.2.1 ∈ gtb := gtb_of 145 (by decide +kernel) (by decide +kernel)
set_option maxRecDepth 100000 in
theorem lk_X6_43 : Cond.fieldLink RX6 43 (TX6 8).1 (TX6 8).2.1 (TX6 8).2.2.1 ∈ gtb := gtb_of 146 (by decide +kernel) (by decide +kernel)
set_option maxRecDepth 100000 in
theorem lk_X6_46 : Cond.fieldLink RX6 46 (TX6 9).1 (TX6 9).2.1 (TX6 9).2.2.1 ∈ gtb := gtb_of 147 (by decide +kernel) (by decide +kernel)
set_option maxRecDepth 100000 in
theorem lk_X7_34 : Cond.methodLink RX7 34 yX6_measure ∈ gtb := gtb_of 169 (by decide +kernel) (by decide +kernel)
set_option maxRecDepth 100000 in
theorem lk_X6_103 : Cond.methodLink RX6 103 yX5_isFar ∈ gtb := gtb_of 173 (by decide +kernel) (by decide +kernel)
set_option maxRecDepth 100000 in
theorem lk_X5_43 : Cond.methodLink RX5 43 Lib.Math.abs.name ∈ gtb := gtb_of 177 (by decide +kernel) (by decide +kernel)
set_option maxRecDepth 100000 in
theorem lk_X7_40 : Cond.methodLink RX7 40 yX3_init ∈ gtb := gtb_of 182 (by decide +kernel) (by decide +kernel)
set_option maxRecDepth 100000 in
theorem lk_X3_3 : Cond.methodLink RX3 3 objectInit ∈ gtb := gtb_of 185 (by decide +kernel) (by decide +kernel)
set_option maxRecDepth 100000 in
theorem lk_X3_45 : Cond.methodLink RX3 45 yX1_init ∈ gtb := gtb_of 192 (by decide +kernel) (by decide +kernel)
set_option maxRecDepth 100000 in
theorem lk_X1_5 : Cond.methodLink RX1 5 objectInit ∈ gtb := gtb_of 195 (by decide +kernel) (by decide +kernel)
set_option maxRecDepth 100000 in
theorem lk_X1_27 : Cond.methodLink RX1 27 yJ7_fill_53178 ∈ gtb := gtb_of 196 (by decide +kernel) (by decide +kernel)
set_option maxRecDepth 100000 in
theorem lk_X1_21 : Cond.fieldLink RX1 21 (TX1 0).1 (TX1 0).2.1 (TX1 0).2.2.1 ∈ gtb := gtb_of 199 (by decide +kernel) (by decide +kernel)
set_option maxRecDepth 100000 in
theorem lk_X1_11 : Cond.fieldLink RX1 11 (TX1 1).1 (TX1 1).2.1 (TX1 1).2.2.1 ∈ gtb := gtb_of 200 (by decide +kernel) (by decide +kernel)
set_option maxRecDepth 100000 in
theorem lk_X1_15 : Cond.fieldLink RX1 15 (TX1 2).1 (TX1 2).2.1 (TX1 2).2.2.1 ∈ gtb := gtb_of 201 (by decide +kernel) (by decide +kernel)
set_option maxRecDepth 100000 in
theorem lk_X1_18 : Cond.fieldLink RX1 18 (TX1 3).1 (TX1 3).2.1 (TX1 3).2.2.1 ∈ gtb := gtb_of 202 (by decide +kernel) (by decide +kernel)
set_option maxRecDepth 100000 in
theorem lk_X1_37 : Cond.fieldLink RX1 37 (TX1 4).1 (TX1 4).2.1 (TX1 4).2.2.1 ∈ gtb := gtb_of 203 (by decide +kernel) (by decide +kernel)
set_option maxRecDepth 100000 in
theorem lk_X1_41 : Cond.fieldLink RX1 41 (TX1 5).1 (TX1 5).2.1 (TX1 5).2.2.1 ∈ gtb := gtb_of 204 (by decide +kernel) (by decide +kernel)
set_option maxRecDepth 100000 in
theorem lk_X1_66 : Cond.fieldLink RX1 66 (TX1 6).1 (TX1 6).2.1 (TX1 6).2.2.1 ∈ gtb := gtb_of 205 (by decide +kernel) (by decide +kernel)
set_option maxRecDepth 100000 in
theorem lk_X3_128 : Cond.fieldLink RX3 128 (TX1 6).1 (TX1 6).2.1 (TX1 6).2.2.1 ∈ gtb := gtb_of 206 (by decide +kernel) (by decide +kernel)
set_option maxRecDepth 100000 in
theorem lk_X2_3 : Cond.methodLink RX2 3 objectInit ∈ gtb := gtb_of 226 (by decide +kernel) (by decide +kernel)
set_option maxRecDepth 100000 in
theorem lk_X3_56 : Cond.fieldLink RX3 56 (TX2 0).1 (TX2 0).2.1 (TX2 0).2.2.1 ∈ gtb := gtb_of 227 (by decide +kernel) (by decide +kernel)
set_option maxRecDepth 100000 in
theorem lk_X3_140 : Cond.fieldLink RX3 140 (TX2 1).1 (TX2 1).2.1 (TX2 1).2.2.1 ∈ gtb := gtb_of 228 (by decide +kernel) (by decide +kernel)
set_option maxRecDepth 100000 in
theorem lk_X7_113 : Cond.fieldLink RX7 113 (TX2 1).1 (TX2 1).2.1 (TX2 1).2.2.1 ∈ gtb := gtb_of 229 (by decide +kernel) (by decide +kernel)
set_option maxRecDepth 100000 in
theorem lk_X3_143 : Cond.fieldLink RX3 143 (TX2 2).1 (TX2 2).2.1 (TX2 2).2.2.1 ∈ gtb := gtb_of 230 (by decide +kernel) (by decide +kernel)
set_option maxRecDepth 100000 in
theorem lk_X7_118 : Cond.fieldLink RX7 118 (TX2 2).1 (TX2 2).2.1 (TX2 2).2.2.1 ∈ gtb := gtb_of 231 (by decide +kernel) (by decide +kernel)
set_option maxRecDepth 100000 in
theorem lk_X3_146 : Cond.fieldLink RX3 146 (TX2 3).1 (TX2 3).2.1 (TX2 3).2.2.1 ∈ gtb := gtb_of 232 (by decide +kernel) (by decide +kernel)
set_option maxRecDepth 100000 in
theorem lk_X7_121 : Cond.fieldLink RX7 121 (TX2 3).1 (TX2 3).2.1 (TX2 3).2.2.1 ∈ gtb := gtb_of 233 (by decide +kernel) (by decide +kernel)
set_option maxRecDepth 100000 in
theorem lk_X2_9 : Cond.fieldLink RX2 9 (TX2 4).1 (TX2 4).2.1 (TX2 4).2.2.1 ∈ gtb := gtb_of 234 (by decide +kernel) (by decide +kernel)
set_option maxRecDepth 100000 in
theorem lk_X3_149 : Cond.fieldLink RX3 149 (TX2 4).1 (TX2 4).2.1 (TX2 4).2.2.1 ∈ gtb := gtb_of 235 (by decide +kernel) (by decide +kernel)
set_option maxRecDepth 100000 in
theorem lk_X7_128 : Cond.fieldLink RX7 128 (TX2 4).1 (TX2 4).2.1 (TX2 4).2.2.1 ∈ gtb := gtb_of 236 (by decide +kernel) (by decide +kernel)
set_option maxRecDepth 100000 in
theorem lk_X2_15 : Cond.fieldLink RX2 15 (TX2 5).1 (TX2 5).2.1 (TX2 5).2.2.1 ∈ gtb := gtb_of 237 (by decide +kernel) (by decide +kernel)
set_option maxRecDepth 100000 in
theorem lk_X3_151 : Cond.fieldLink RX3 151 (TX2 5).1 (TX2 5).2.1 (TX2 5).2.2.1 ∈ gtb := gtb_of 238 (by decide +kernel) (by decide +kernel)
set_option maxRecDepth 100000 in
theorem lk_X7_131 : Cond.fieldLink RX7 131 (TX2 5).1 (TX2 5).2.1 (TX2 5).2.2.1 ∈ gtb := gtb_of 239 (by decide +kernel) (by decide +kernel)
set_option maxRecDepth 100000 in
theorem lk_X3_53 : Cond.methodLink RX3 53 yX3_forget ∈ gtb := gtb_of 253 (by decide +kernel) (by decide +kernel)
set_option maxRecDepth 100000 in
theorem lk_X3_60 : Cond.methodLink RX3 60 yJ7_fill_53178 ∈ gtb := gtb_of 257 (by decide +kernel) (by decide +kernel)
set_option maxRecDepth 100000 in
theorem lk_X3_35 : Cond.fieldLink RX3 35 (TX3 0).1 (TX3 0).2.1 (TX3 0).2.2.1 ∈ gtb := gtb_of 258 (by decide +kernel) (by decide +kernel)
set_option maxRecDepth 100000 in
theorem lk_X3_39 : Cond.fieldLink RX3 39 (TX3 1).1 (TX3 1).2.1 (TX3 1).2.2.1 ∈ gtb := gtb_of 259 (by decide +kernel) (by decide +kernel)
set_option maxRecDepth 100000 in
theorem lk_X3_48 : Cond.fieldLink RX3 48 (TX3 2).1 (TX3 2).2.1 (TX3 2).2.2.1 ∈ gtb := gtb_of 260 (by decide +kernel) (by decide +kernel)
set_option maxRecDepth 100000 in
theorem lk_X3_11 : Cond.fieldLink RX3 11 (TX3 3).1 (TX3 3).2.1 (TX3 3).2.2.1 ∈ gtb := gtb_of 261 (by decide +kernel) (by decide +kernel)
set_option maxRecDepth 100000 in
theorem lk_X3_19 : Cond.fieldLink RX3 19 (TX3 4).1 (TX3 4).2.1 (TX3 4).2.2.1 ∈ gtb := gtb_of 262 (by decide +kernel) (by decide +kernel)
set_option maxRecDepth 100000 in
theorem lk_X3_22 : Cond.fieldLink RX3 22 (TX3 5).1 (TX3 5).2.1 (TX3 5).2.2.1 ∈ gtb := gtb_of 263 (by decide +kernel) (by decide +kernel)
set_option maxRecDepth 100000 in
theorem lk_X3_25 : Cond.fieldLink RX3 25 (TX3 6).1 (TX3 6).2.1 (TX3 6).2.2.1 ∈ gtb := gtb_of 264 (by decide +kernel) (by decide +kernel)
set_option maxRecDepth 100000 in
theorem lk_X3_29 : Cond.fieldLink RX3 29 (TX3 7).1 (TX3 7).2.1 (TX3 7).2.2.1 ∈ gtb := gtb_of 265 (by decide +kernel) (by decide +kernel)
set_option maxRecDepth 100000 in
theorem lk_X3_32 : Cond.fieldLink RX3 32 (TX3 8).1 (TX3 8).2.1 (TX3 8).2.2.1 ∈ gtb := gtb_of 266 (by decide +kernel) (by decide +kernel)
set_option maxRecDepth 100000 in
theorem lk_X3_88 : Cond.fieldLink RX3 88 (TX3 9).1 (TX3 9).2.1 (TX3 9).2.2.1 ∈ gtb := gtb_of 267 (by decide +kernel) (by decide +kernel)
set_option maxRecDepth 100000 in
theorem lk_X3_91 : Cond.fieldLink RX3 91 (TX3 10).1 (TX3 10).2.1 (TX3 10).2.2.1 ∈ gtb := gtb_of 268 (by decide +kernel) (by decide +kernel)
set_option maxRecDepth 100000 in
theorem lk_X3_66 : Cond.fieldLink RX3 66 (TX3 11).1 (TX3 11).2.1 (TX3 11).2.2.1 ∈ gtb := gtb_of 269 (by decide +kernel) (by decide +kernel)
set_option maxRecDepth 100000 in
theorem lk_X3_70 : Cond.fieldLink RX3 70 (TX3 12).1 (TX3 12).2.1 (TX3 12).2.2.1 ∈ gtb := gtb_of 270 (by decide +kernel) (by decide +kernel)
set_option maxRecDepth 100000 in
theorem lk_X3_79 : Cond.fieldLink RX3 79 (TX3 13).1 (TX3 13).2.1 (TX3 13).2.2.1 ∈ gtb := gtb_of 271 (by decide +kernel) (by decide +kernel)
set_option maxRecDepth 100000 in
theorem lk_X3_82 : Cond.fieldLink RX3 82 (TX3 14).1 (TX3 14).2.1 (TX3 14).2.2.1 ∈ gtb := gtb_of 272 (by decide +kernel) (by decide +kernel)
set_option maxRecDepth 100000 in
theorem lk_X3_131 : Cond.fieldLink RX3 131 (TX3 15).1 (TX3 15).2.1 (TX3 15).2.2.1 ∈ gtb := gtb_of 273 (by decide +kernel) (by decide +kernel)
set_option maxRecDepth 100000 in
theorem lk_X0_3 : Cond.methodLink RX0 3 objectInit ∈ gtb := gtb_of 312 (by decide +kernel) (by decide +kernel)
set_option maxRecDepth 100000 in
theorem lk_X0_9 : Cond.fieldLink RX0 9 (TX0 0).1 (TX0 0).2.1 (TX0 0).2.2.1 ∈ gtb := gtb_of 313 (by decide +kernel) (by decide +kernel)
set_option maxRecDepth 100000 in
theorem lk_X0_15 : Cond.fieldLink RX0 15 (TX0 1).1 (TX0 1).2.1 (TX0 1).2.2.1 ∈ gtb := gtb_of 314 (by decide +kernel) (by decide +kernel)
set_option maxRecDepth 100000 in
theorem lk_X0_19 : Cond.fieldLink RX0 19 (TX0 2).1 (TX0 2).2.1 (TX0 2).2.2.1 ∈ gtb := gtb_of 315 (by decide +kernel) (by decide +kernel)
set_option maxRecDepth 100000 in
theorem lk_X0_22 : Cond.fieldLink RX0 22 (TX0 3).1 (TX0 3).2.1 (TX0 3).2.2.1 ∈ gtb := gtb_of 316 (by decide +kernel) (by decide +kernel)
set_option maxRecDepth 100000 in
theorem lk_X0_31 : Cond.fieldLink RX0 31 (TX0 4).1 (TX0 4).2.1 (TX0 4).2.2.1 ∈ gtb := gtb_of 317 (by decide +kernel) (by decide +kernel)
set_option maxRecDepth 100000 in
theorem lk_X7_179 : Cond.fieldLink RX7 179 (TX0 4).1 (TX0 4).2.1 (TX0 4).2.2.1 ∈ gtb := gtb_of 318 (by decide +kernel) (by decide +kernel)
set_option maxRecDepth 100000 in
theorem lk_X0_39 : Cond.fieldLink RX0 39 (TX0 5).1 (TX0 5).2.1 (TX0 5).2.2.1 ∈ gtb := gtb_of 319 (by decide +kernel) (by decide +kernel)
set_option maxRecDepth 100000 in
theorem lk_X7_176 : Cond.fieldLink RX7 176 (TX0 5).1 (TX0 5).2.1 (TX0 5).2.2.1 ∈ gtb := gtb_of 320 (by decide +kernel) (by decide +kernel)
set_option maxRecDepth 100000 in
theorem lk_X7_12 : Cond.fieldLink RX7 12 (TX7 0).1 (TX7 0).2.1 (TX7 0).2.2.1 ∈ gtb := gtb_of 335 (by decide +kernel) (by decide +kernel)
set_option maxRecDepth 100000 in
theorem lk_X7_16 : Cond.fieldLink RX7 16 (TX7 1).1 (TX7 1).2.1 (TX7 1).2.2.1 ∈ gtb := gtb_of 336 (by decide +kernel) (by decide +kernel)
set_option maxRecDepth 100000 in
theorem lk_X7_192 : Cond.fieldLink RX7 192 (TX7 2).1 (TX7 2).2.1 (TX7 2).2.2.1 ∈ gtb := gtb_of 337 (by decide +kernel) (by decide +kernel)
set_option maxRecDepth 100000 in
theorem lk_X7_23 : Cond.fieldLink RX7 23 (TX7 3).1 (TX7 3).2.1 (TX7 3).2.2.1 ∈ gtb := gtb_of 338 (by decide +kernel) (by decide +kernel)
set_option maxRecDepth 100000 in
theorem lk_X7_30 : Cond.fieldLink RX7 30 (TX7 4).1 (TX7 4).2.1 (TX7 4).2.2.1 ∈ gtb := gtb_of 339 (by decide +kernel) (by decide +kernel)
set_option maxRecDepth 100000 in
theorem lk_X7_43 : Cond.fieldLink RX7 43 (TX7 5).1 (TX7 5).2.1 (TX7 5).2.2.1 ∈ gtb := gtb_of 340 (by decide +kernel) (by decide +kernel)
set_option maxRecDepth 100000 in
theorem lk_X7_50 : Cond.fieldLink RX7 50 (TX7 6).1 (TX7 6).2.1 (TX7 6).2.2.1 ∈ gtb := gtb_of 341 (by decide +kernel) (by decide +kernel)
set_option maxRecDepth 100000 in
theorem lk_L_13 : Cond.methodLink RL 13 yX7_put ∈ gtb := gtb_of 357 (by decide +kernel) (by decide +kernel)
set_option maxRecDepth 100000 in
theorem lk_X7_54 : Cond.methodLink RX7 54 yX7_isVariable ∈ gtb := gtb_of 361 (by decide +kernel) (by decide +kernel)
set_option maxRecDepth 100000 in
theorem lk_X7_62 : Cond.methodLink RX7 62 yX5_append ∈ gtb := gtb_of 364 (by decide +kernel) (by decide +kernel)
set_option maxRecDepth 100000 in
theorem lk_X7_66 : Cond.methodLink RX7 66 yX7_changed ∈ gtb := gtb_of 368 (by decide +kernel) (by decide +kernel)
set_option maxRecDepth 100000 in
theorem lk_X7_198 : Cond.methodLink RX7 198 yX3_forget ∈ gtb := gtb_of 372 (by decide +kernel) (by decide +kernel)
set_option maxRecDepth 100000 in
theorem lk_L_18 : Cond.methodLink RL 18 yX7_drop ∈ gtb := gtb_of 373 (by decide +kernel) (by decide +kernel)
set_option maxRecDepth 100000 in
theorem lk_X7_69 : Cond.methodLink RX7 69 yX5_has ∈ gtb := gtb_of 377 (by decide +kernel) (by decide +kernel)
set_option maxRecDepth 100000 in
theorem lk_X7_72 : Cond.methodLink RX7 72 yX5_remove ∈ gtb := gtb_of 381 (by decide +kernel) (by decide +kernel)
set_option maxRecDepth 100000 in
theorem lk_X5_37 : Cond.methodLink RX5 37 arraycopyName ∈ gtb := gtb_of 385 (by decide +kernel) (by decide +kernel)
set_option maxRecDepth 100000 in
theorem lk_L_23 : Cond.methodLink RL 23 yX7_cross ∈ gtb := gtb_of 388 (by decide +kernel) (by decide +kernel)
set_option maxRecDepth 100000 in
theorem lk_L_27 : Cond.methodLink RL 27 yX7_told ∈ gtb := gtb_of 392 (by decide +kernel) (by decide +kernel)
set_option maxRecDepth 100000 in
theorem lk_L_32 : Cond.methodLink RL 32 yX7_free ∈ gtb := gtb_of 396 (by decide +kernel) (by decide +kernel)
set_option maxRecDepth 100000 in
theorem lk_L_36 : Cond.methodLink RL 36 yX7_set ∈ gtb := gtb_of 400 (by decide +kernel) (by decide +kernel)
set_option maxRecDepth 100000 in
theorem lk_L_40 : Cond.methodLink RL 40 yX7_value ∈ gtb := gtb_of 404 (by decide +kernel) (by decide +kernel)
set_option maxRecDepth 100000 in
theorem lk_L_45 : Cond.methodLink RL 45 yX7_sight ∈ gtb := gtb_of 409 (by decide +kernel) (by decide +kernel)
set_option maxRecDepth 100000 in
theorem lk_X7_97 : Cond.methodLink RX7 97 yX4_look ∈ gtb := gtb_of 413 (by decide +kernel) (by decide +kernel)
set_option maxRecDepth 100000 in
theorem lk_X4_30 : Cond.methodLink RX4 30 yX4_add ∈ gtb := gtb_of 417 (by decide +kernel) (by decide +kernel)
set_option maxRecDepth 100000 in
theorem lk_X7_101 : Cond.methodLink RX7 101 yX4_has ∈ gtb := gtb_of 421 (by decide +kernel) (by decide +kernel)
set_option maxRecDepth 100000 in
theorem lk_L_49 : Cond.methodLink RL 49 yX7_plan ∈ gtb := gtb_of 425 (by decide +kernel) (by decide +kernel)
set_option maxRecDepth 100000 in
theorem lk_X7_105 : Cond.methodLink RX7 105 yX7_isPlan ∈ gtb := gtb_of 429 (by decide +kernel) (by decide +kernel)
set_option maxRecDepth 100000 in
theorem lk_X7_157 : Cond.methodLink RX7 157 yX7_isMode ∈ gtb := gtb_of 432 (by decide +kernel) (by decide +kernel)
set_option maxRecDepth 100000 in
theorem lk_X7_109 : Cond.methodLink RX7 109 yX3_planFor ∈ gtb := gtb_of 435 (by decide +kernel) (by decide +kernel)
set_option maxRecDepth 100000 in
theorem lk_X3_73 : Cond.methodLink RX3 73 yX5_turnable ∈ gtb := gtb_of 439 (by decide +kernel) (by decide +kernel)
set_option maxRecDepth 100000 in
theorem lk_X3_85 : Cond.methodLink RX3 85 yX3_listUsed ∈ gtb := gtb_of 443 (by decide +kernel) (by decide +kernel)
set_option maxRecDepth 100000 in
theorem lk_X3_102 : Cond.methodLink RX3 102 yX5_usedSet ∈ gtb := gtb_of 447 (by decide +kernel) (by decide +kernel)
set_option maxRecDepth 100000 in
theorem lk_X3_94 : Cond.methodLink RX3 94 yX3_divide ∈ gtb := gtb_of 451 (by decide +kernel) (by decide +kernel)
set_option maxRecDepth 100000 in
theorem lk_X3_105 : Cond.methodLink RX3 105 yX3_compare ∈ gtb := gtb_of 455 (by decide +kernel) (by decide +kernel)
set_option maxRecDepth 100000 in
theorem lk_X3_124 : Cond.methodLink RX3 124 yX1_leastBelow ∈ gtb := gtb_of 459 (by decide +kernel) (by decide +kernel)
set_option maxRecDepth 100000 in
theorem lk_X1_33 : Cond.methodLink RX1 33 yX6_trace ∈ gtb := gtb_of 463 (by decide +kernel) (by decide +kernel)
set_option maxRecDepth 100000 in
theorem lk_X6_30 : Cond.methodLink RX6 30 yJ7_fill_53178 ∈ gtb := gtb_of 467 (by decide +kernel) (by decide +kernel)
set_option maxRecDepth 100000 in
theorem lk_X6_61 : Cond.methodLink RX6 61 yX6_has ∈ gtb := gtb_of 468 (by decide +kernel) (by decide +kernel)
set_option maxRecDepth 100000 in
theorem lk_X6_65 : Cond.methodLink RX6 65 yX6_fork ∈ gtb := gtb_of 472 (by decide +kernel) (by decide +kernel)
set_option maxRecDepth 100000 in
theorem lk_X6_96 : Cond.methodLink RX6 96 yX6_addFork ∈ gtb := gtb_of 476 (by decide +kernel) (by decide +kernel)
set_option maxRecDepth 100000 in
theorem lk_X6_100 : Cond.methodLink RX6 100 yX6_pair ∈ gtb := gtb_of 480 (by decide +kernel) (by decide +kernel)
set_option maxRecDepth 100000 in
theorem lk_X6_69 : Cond.methodLink RX6 69 yX6_pass ∈ gtb := gtb_of 484 (by decide +kernel) (by decide +kernel)
set_option maxRecDepth 100000 in
theorem lk_X1_44 : Cond.methodLink RX1 44 yX1_findTwins ∈ gtb := gtb_of 488 (by decide +kernel) (by decide +kernel)
set_option maxRecDepth 100000 in
theorem lk_X1_51 : Cond.methodLink RX1 51 yX6_areTwins ∈ gtb := gtb_of 492 (by decide +kernel) (by decide +kernel)
set_option maxRecDepth 100000 in
theorem lk_X1_47 : Cond.methodLink RX1 47 yX1_lay ∈ gtb := gtb_of 496 (by decide +kernel) (by decide +kernel)
set_option maxRecDepth 100000 in
theorem lk_X1_55 : Cond.methodLink RX1 55 yX6_pairCost ∈ gtb := gtb_of 500 (by decide +kernel) (by decide +kernel)
set_option maxRecDepth 100000 in
theorem lk_X1_59 : Cond.methodLink RX1 59 yX6_forkCost ∈ gtb := gtb_of 504 (by decide +kernel) (by decide +kernel)
set_option maxRecDepth 100000 in
theorem lk_X6_90 : Cond.methodLink RX6 90 Lib.Math.min.name ∈ gtb := gtb_of 508 (by decide +kernel) (by decide +kernel)
set_option maxRecDepth 100000 in
theorem lk_X1_63 : Cond.methodLink RX1 63 yX1_keep ∈ gtb := gtb_of 511 (by decide +kernel) (by decide +kernel)
set_option maxRecDepth 100000 in
theorem lk_X3_134 : Cond.methodLink RX3 134 arraycopyName ∈ gtb := gtb_of 515 (by decide +kernel) (by decide +kernel)
set_option maxRecDepth 100000 in
theorem lk_X3_109 : Cond.methodLink RX3 109 Lib.Math.min.name ∈ gtb := gtb_of 516 (by decide +kernel) (by decide +kernel)
set_option maxRecDepth 100000 in
theorem lk_X3_115 : Cond.methodLink RX3 115 yJ6_bitCount_0f7a4 ∈ gtb := gtb_of 517 (by decide +kernel) (by decide +kernel)
set_option maxRecDepth 100000 in
theorem lk_X3_121 : Cond.methodLink RX3 121 Lib.Math.max.name ∈ gtb := gtb_of 523 (by decide +kernel) (by decide +kernel)
set_option maxRecDepth 100000 in
theorem lk_X3_98 : Cond.methodLink RX3 98 yX3_write ∈ gtb := gtb_of 526 (by decide +kernel) (by decide +kernel)
set_option maxRecDepth 100000 in
theorem lk_X3_154 : Cond.methodLink RX3 154 yX3_turnedIn ∈ gtb := gtb_of 530 (by decide +kernel) (by decide +kernel)
set_option maxRecDepth 100000 in
theorem lk_X3_161 : Cond.methodLink RX3 161 yX6_trace ∈ gtb := gtb_of 534 (by decide +kernel) (by decide +kernel)
set_option maxRecDepth 100000 in
theorem lk_X3_167 : Cond.methodLink RX3 167 yX6_cost ∈ gtb := gtb_of 535 (by decide +kernel) (by decide +kernel)
set_option maxRecDepth 100000 in
theorem lk_X6_76 : Cond.methodLink RX6 76 arraycopyName ∈ gtb := gtb_of 539 (by decide +kernel) (by decide +kernel)
set_option maxRecDepth 100000 in
theorem lk_X6_82 : Cond.methodLink RX6 82 yX6_forkCost ∈ gtb := gtb_of 540 (by decide +kernel) (by decide +kernel)
set_option maxRecDepth 100000 in
theorem lk_X6_86 : Cond.methodLink RX6 86 yX6_pairCost ∈ gtb := gtb_of 541 (by decide +kernel) (by decide +kernel)
set_option maxRecDepth 100000 in
theorem lk_L_54 : Cond.methodLink RL 54 yX7_place ∈ gtb := gtb_of 542 (by decide +kernel) (by decide +kernel)
set_option maxRecDepth 100000 in
theorem lk_X7_124 : Cond.methodLink RX7 124 yX5_usedSet ∈ gtb := gtb_of 546 (by decide +kernel) (by decide +kernel)
set_option maxRecDepth 100000 in
theorem lk_L_58 : Cond.methodLink RL 58 yX7_step ∈ gtb := gtb_of 547 (by decide +kernel) (by decide +kernel)
set_option maxRecDepth 100000 in
theorem lk_X7_134 : Cond.methodLink RX7 134 yX4_before ∈ gtb := gtb_of 551 (by decide +kernel) (by decide +kernel)
set_option maxRecDepth 100000 in
theorem lk_X7_138 : Cond.methodLink RX7 138 yX5_isFar ∈ gtb := gtb_of 555 (by decide +kernel) (by decide +kernel)
set_option maxRecDepth 100000 in
theorem lk_L_62 : Cond.methodLink RL 62 yX7_run ∈ gtb := gtb_of 556 (by decide +kernel) (by decide +kernel)
set_option maxRecDepth 100000 in
theorem lk_X7_141 : Cond.methodLink RX7 141 yX5_execute ∈ gtb := gtb_of 560 (by decide +kernel) (by decide +kernel)
set_option maxRecDepth 100000 in
theorem lk_X5_49 : Cond.methodLink RX5 49 yX5_result ∈ gtb := gtb_of 564 (by decide +kernel) (by decide +kernel)
set_option maxRecDepth 100000 in
theorem lk_X5_53 : Cond.methodLink RX5 53 Lib.Math.min.name ∈ gtb := gtb_of 567 (by decide +kernel) (by decide +kernel)
set_option maxRecDepth 100000 in
theorem lk_L_66 : Cond.methodLink RL 66 yX7_weight ∈ gtb := gtb_of 568 (by decide +kernel) (by decide +kernel)
set_option maxRecDepth 100000 in
theorem lk_X7_144 : Cond.methodLink RX7 144 yX7_weights ∈ gtb := gtb_of 572 (by decide +kernel) (by decide +kernel)
set_option maxRecDepth 100000 in
theorem lk_X7_163 : Cond.methodLink RX7 163 yX6_trace ∈ gtb := gtb_of 576 (by decide +kernel) (by decide +kernel)
set_option maxRecDepth 100000 in
theorem lk_L_70 : Cond.methodLink RL 70 yX7_taken ∈ gtb := gtb_of 577 (by decide +kernel) (by decide +kernel)
set_option maxRecDepth 100000 in
theorem lk_X7_148 : Cond.methodLink RX7 148 yX0_take ∈ gtb := gtb_of 581 (by decide +kernel) (by decide +kernel)
set_option maxRecDepth 100000 in
theorem lk_X0_25 : Cond.methodLink RX0 25 yJ7_fill_53178 ∈ gtb := gtb_of 585 (by decide +kernel) (by decide +kernel)
set_option maxRecDepth 100000 in
theorem lk_X0_35 : Cond.methodLink RX0 35 yX0_load ∈ gtb := gtb_of 586 (by decide +kernel) (by decide +kernel)
set_option maxRecDepth 100000 in
theorem lk_X0_42 : Cond.methodLink RX0 42 yX0_greatest ∈ gtb := gtb_of 590 (by decide +kernel) (by decide +kernel)
set_option maxRecDepth 100000 in
theorem lk_X0_46 : Cond.methodLink RX0 46 yX0_join ∈ gtb := gtb_of 594 (by decide +kernel) (by decide +kernel)
set_option maxRecDepth 100000 in
theorem lk_X7_152 : Cond.methodLink RX7 152 yX0_has ∈ gtb := gtb_of 598 (by decide +kernel) (by decide +kernel)
set_option maxRecDepth 100000 in
theorem lk_L_74 : Cond.methodLink RL 74 yX7_exchange ∈ gtb := gtb_of 602 (by decide +kernel) (by decide +kernel)
set_option maxRecDepth 100000 in
theorem lk_L_78 : Cond.methodLink RL 78 yX7_hand ∈ gtb := gtb_of 606 (by decide +kernel) (by decide +kernel)
set_option maxRecDepth 100000 in
theorem lk_X7_160 : Cond.methodLink RX7 160 yX5_turnable ∈ gtb := gtb_of 610 (by decide +kernel) (by decide +kernel)
set_option maxRecDepth 100000 in
theorem lk_X7_167 : Cond.methodLink RX7 167 yX6_cost ∈ gtb := gtb_of 611 (by decide +kernel) (by decide +kernel)
set_option maxRecDepth 100000 in
theorem lk_L_82 : Cond.methodLink RL 82 yX7_count ∈ gtb := gtb_of 612 (by decide +kernel) (by decide +kernel)
set_option maxRecDepth 100000 in
theorem lk_X7_173 : Cond.methodLink RX7 173 yX7_first ∈ gtb := gtb_of 616 (by decide +kernel) (by decide +kernel)
set_option maxRecDepth 100000 in
theorem lk_X7_182 : Cond.methodLink RX7 182 yJ6_bitCount_0f7a4 ∈ gtb := gtb_of 620 (by decide +kernel) (by decide +kernel)
set_option maxRecDepth 100000 in
theorem lk_X7_188 : Cond.methodLink RX7 188 yX0_leftByGreatest ∈ gtb := gtb_of 621 (by decide +kernel) (by decide +kernel)
set_option maxRecDepth 100000 in
theorem lk_L_86 : Cond.methodLink RL 86 yX7_image ∈ gtb := gtb_of 625 (by decide +kernel) (by decide +kernel)
set_option maxRecDepth 100000 in
theorem lk_X7_195 : Cond.methodLink RX7 195 yX5_copyFrom ∈ gtb := gtb_of 629 (by decide +kernel) (by decide +kernel)
set_option maxRecDepth 100000 in
theorem lk_L_90 : Cond.methodLink RL 90 yX7_restore ∈ gtb := gtb_of 633 (by decide +kernel) (by decide +kernel)
set_option maxRecDepth 100000 in
theorem lk_L_12 : Cond.methodLink RL 12 yX8_init ∈ gtb := gtb_of 639 (by decide +kernel) (by decide +kernel)
set_option maxRecDepth 100000 in
theorem lk_X8_1 : Cond.methodLink RX8 1 objectInit ∈ gtb := gtb_of 642 (by decide +kernel) (by decide +kernel)
set_option maxRecDepth 100000 in
theorem lk_X8_87 : Cond.fieldLink RX8 87 (TX8 0).1 (TX8 0).2.1 (TX8 0).2.2.1 ∈ gtb := gtb_of 643 (by decide +kernel) (by decide +kernel)
set_option maxRecDepth 100000 in
theorem lk_X8_7 : Cond.fieldLink RX8 7 (TX8 1).1 (TX8 1).2.1 (TX8 1).2.2.1 ∈ gtb := gtb_of 644 (by decide +kernel) (by decide +kernel)
set_option maxRecDepth 100000 in
theorem lk_X8_13 : Cond.fieldLink RX8 13 (TX8 2).1 (TX8 2).2.1 (TX8 2).2.2.1 ∈ gtb := gtb_of 645 (by decide +kernel) (by decide +kernel)
set_option maxRecDepth 100000 in
theorem lk_X8_16 : Cond.fieldLink RX8 16 (TX8 3).1 (TX8 3).2.1 (TX8 3).2.2.1 ∈ gtb := gtb_of 646 (by decide +kernel) (by decide +kernel)
set_option maxRecDepth 100000 in
theorem lk_X8_19 : Cond.fieldLink RX8 19 (TX8 4).1 (TX8 4).2.1 (TX8 4).2.2.1 ∈ gtb := gtb_of 647 (by decide +kernel) (by decide +kernel)
set_option maxRecDepth 100000 in
theorem lk_X8_22 : Cond.fieldLink RX8 22 (TX8 5).1 (TX8 5).2.1 (TX8 5).2.2.1 ∈ gtb := gtb_of 648 (by decide +kernel) (by decide +kernel)
set_option maxRecDepth 100000 in
theorem lk_X8_25 : Cond.fieldLink RX8 25 (TX8 6).1 (TX8 6).2.1 (TX8 6).2.2.1 ∈ gtb := gtb_of 649 (by decide +kernel) (by decide +kernel)
set_option maxRecDepth 100000 in
theorem lk_X8_28 : Cond.fieldLink RX8 28 (TX8 7).1 (TX8 7).2.1 (TX8 7).2.2.1 ∈ gtb := gtb_of 650 (by decide +kernel) (by decide +kernel)
set_option maxRecDepth 100000 in
theorem lk_X8_32 : Cond.fieldLink RX8 32 (TX8 8).1 (TX8 8).2.1 (TX8 8).2.2.1 ∈ gtb := gtb_of 651 (by decide +kernel) (by decide +kernel)
set_option maxRecDepth 100000 in
theorem lk_X8_35 : Cond.fieldLink RX8 35 (TX8 9).1 (TX8 9).2.1 (TX8 9).2.2.1 ∈ gtb := gtb_of 652 (by decide +kernel) (by decide +kernel)
set_option maxRecDepth 100000 in
theorem lk_X8_38 : Cond.fieldLink RX8 38 (TX8 10).1 (TX8 10).2.1 (TX8 10).2.2.1 ∈ gtb := gtb_of 653 (by decide +kernel) (by decide +kernel)
set_option maxRecDepth 100000 in
theorem lk_X8_41 : Cond.fieldLink RX8 41 (TX8 11).1 (TX8 11).2.1 (TX8 11).2.2.1 ∈ gtb := gtb_of 654 (by decide +kernel) (by decide +kernel)
set_option maxRecDepth 100000 in
theorem lk_X8_115 : Cond.fieldLink RX8 115 (TX8 12).1 (TX8 12).2.1 (TX8 12).2.2.1 ∈ gtb := gtb_of 655 (by decide +kernel) (by decide +kernel)
set_option maxRecDepth 100000 in
theorem lk_X8_44 : Cond.fieldLink RX8 44 (TX8 13).1 (TX8 13).2.1 (TX8 13).2.2.1 ∈ gtb := gtb_of 656 (by decide +kernel) (by decide +kernel)
set_option maxRecDepth 100000 in
theorem lk_X8_47 : Cond.fieldLink RX8 47 (TX8 14).1 (TX8 14).2.1 (TX8 14).2.2.1 ∈ gtb := gtb_of 657 (by decide +kernel) (by decide +kernel)
set_option maxRecDepth 100000 in
theorem lk_X8_50 : Cond.fieldLink RX8 50 (TX8 15).1 (TX8 15).2.1 (TX8 15).2.2.1 ∈ gtb := gtb_of 658 (by decide +kernel) (by decide +kernel)
set_option maxRecDepth 100000 in
theorem lk_X8_53 : Cond.fieldLink RX8 53 (TX8 16).1 (TX8 16).2.1 (TX8 16).2.2.1 ∈ gtb := gtb_of 659 (by decide +kernel) (by decide +kernel)
set_option maxRecDepth 100000 in
theorem lk_X8_56 : Cond.fieldLink RX8 56 (TX8 17).1 (TX8 17).2.1 (TX8 17).2.2.1 ∈ gtb := gtb_of 660 (by decide +kernel) (by decide +kernel)
set_option maxRecDepth 100000 in
theorem lk_X8_59 : Cond.fieldLink RX8 59 (TX8 18).1 (TX8 18).2.1 (TX8 18).2.2.1 ∈ gtb := gtb_of 661 (by decide +kernel) (by decide +kernel)
set_option maxRecDepth 100000 in
theorem lk_X8_159 : Cond.fieldLink RX8 159 (TX8 19).1 (TX8 19).2.1 (TX8 19).2.2.1 ∈ gtb := gtb_of 662 (by decide +kernel) (by decide +kernel)
set_option maxRecDepth 100000 in
theorem lk_X8_169 : Cond.fieldLink RX8 169 (TX8 20).1 (TX8 20).2.1 (TX8 20).2.2.1 ∈ gtb := gtb_of 663 (by decide +kernel) (by decide +kernel)
set_option maxRecDepth 100000 in
theorem lk_X8_62 : Cond.fieldLink RX8 62 (TX8 21).1 (TX8 21).2.1 (TX8 21).2.2.1 ∈ gtb := gtb_of 664 (by decide +kernel) (by decide +kernel)
set_option maxRecDepth 100000 in
theorem lk_X8_65 : Cond.fieldLink RX8 65 (TX8 22).1 (TX8 22).2.1 (TX8 22).2.2.1 ∈ gtb := gtb_of 665 (by decide +kernel) (by decide +kernel)
set_option maxRecDepth 100000 in
theorem lk_X8_68 : Cond.fieldLink RX8 68 (TX8 23).1 (TX8 23).2.1 (TX8 23).2.2.1 ∈ gtb := gtb_of 666 (by decide +kernel) (by decide +kernel)
set_option maxRecDepth 100000 in
theorem lk_X8_71 : Cond.fieldLink RX8 71 (TX8 24).1 (TX8 24).2.1 (TX8 24).2.2.1 ∈ gtb := gtb_of 667 (by decide +kernel) (by decide +kernel)
set_option maxRecDepth 100000 in
theorem lk_X8_74 : Cond.fieldLink RX8 74 (TX8 25).1 (TX8 25).2.1 (TX8 25).2.2.1 ∈ gtb := gtb_of 668 (by decide +kernel) (by decide +kernel)
set_option maxRecDepth 100000 in
theorem lk_X8_184 : Cond.fieldLink RX8 184 (TX8 26).1 (TX8 26).2.1 (TX8 26).2.2.1 ∈ gtb := gtb_of 669 (by decide +kernel) (by decide +kernel)
set_option maxRecDepth 100000 in
theorem lk_X8_77 : Cond.fieldLink RX8 77 (TX8 27).1 (TX8 27).2.1 (TX8 27).2.2.1 ∈ gtb := gtb_of 670 (by decide +kernel) (by decide +kernel)
set_option maxRecDepth 100000 in
theorem lk_X8_80 : Cond.fieldLink RX8 80 (TX8 28).1 (TX8 28).2.1 (TX8 28).2.2.1 ∈ gtb := gtb_of 671 (by decide +kernel) (by decide +kernel)
set_option maxRecDepth 100000 in
theorem lk_L_17 : Cond.methodLink RL 17 yX8_put ∈ gtb := gtb_of 731 (by decide +kernel) (by decide +kernel)
set_option maxRecDepth 100000 in
theorem lk_X8_83 : Cond.methodLink RX8 83 yX8_in ∈ gtb := gtb_of 735 (by decide +kernel) (by decide +kernel)
set_option maxRecDepth 100000 in
theorem lk_X8_91 : Cond.methodLink RX8 91 yX8_isVariable ∈ gtb := gtb_of 738 (by decide +kernel) (by decide +kernel)
set_option maxRecDepth 100000 in
theorem lk_X8_95 : Cond.methodLink RX8 95 yX8_change ∈ gtb := gtb_of 741 (by decide +kernel) (by decide +kernel)
set_option maxRecDepth 100000 in
theorem lk_L_22 : Cond.methodLink RL 22 yX8_drop ∈ gtb := gtb_of 745 (by decide +kernel) (by decide +kernel)
set_option maxRecDepth 100000 in
theorem lk_X8_98 : Cond.methodLink RX8 98 yX8_isStatement ∈ gtb := gtb_of 749 (by decide +kernel) (by decide +kernel)
set_option maxRecDepth 100000 in
theorem lk_L_26 : Cond.methodLink RL 26 yX8_cross ∈ gtb := gtb_of 753 (by decide +kernel) (by decide +kernel)
set_option maxRecDepth 100000 in
theorem lk_L_31 : Cond.methodLink RL 31 yX8_told ∈ gtb := gtb_of 757 (by decide +kernel) (by decide +kernel)
set_option maxRecDepth 100000 in
theorem lk_L_35 : Cond.methodLink RL 35 yX8_free ∈ gtb := gtb_of 761 (by decide +kernel) (by decide +kernel)
set_option maxRecDepth 100000 in
theorem lk_L_39 : Cond.methodLink RL 39 yX8_set ∈ gtb := gtb_of 765 (by decide +kernel) (by decide +kernel)
set_option maxRecDepth 100000 in
theorem lk_L_44 : Cond.methodLink RL 44 yX8_value ∈ gtb := gtb_of 769 (by decide +kernel) (by decide +kernel)
set_option maxRecDepth 100000 in
theorem lk_L_48 : Cond.methodLink RL 48 yX8_sight ∈ gtb := gtb_of 774 (by decide +kernel) (by decide +kernel)
set_option maxRecDepth 100000 in
theorem lk_X8_111 : Cond.methodLink RX8 111 yX8_layLine ∈ gtb := gtb_of 778 (by decide +kernel) (by decide +kernel)
set_option maxRecDepth 100000 in
theorem lk_X8_103 : Cond.methodLink RX8 103 yX8_has ∈ gtb := gtb_of 782 (by decide +kernel) (by decide +kernel)
set_option maxRecDepth 100000 in
theorem lk_X8_107 : Cond.methodLink RX8 107 yX8_seen ∈ gtb := gtb_of 785 (by decide +kernel) (by decide +kernel)
set_option maxRecDepth 100000 in
theorem lk_L_53 : Cond.methodLink RL 53 yX8_plan ∈ gtb := gtb_of 789 (by decide +kernel) (by decide +kernel)
set_option maxRecDepth 100000 in
theorem lk_X8_175 : Cond.methodLink RX8 175 yX8_isAsked ∈ gtb := gtb_of 793 (by decide +kernel) (by decide +kernel)
set_option maxRecDepth 100000 in
theorem lk_X8_178 : Cond.methodLink RX8 178 yX8_layPlan ∈ gtb := gtb_of 796 (by decide +kernel) (by decide +kernel)
set_option maxRecDepth 100000 in
theorem lk_X8_149 : Cond.methodLink RX8 149 yX8_laySets ∈ gtb := gtb_of 800 (by decide +kernel) (by decide +kernel)
set_option maxRecDepth 100000 in
theorem lk_X8_142 : Cond.methodLink RX8 142 yX8_usedOnes ∈ gtb := gtb_of 804 (by decide +kernel) (by decide +kernel)
set_option maxRecDepth 100000 in
theorem lk_X8_146 : Cond.methodLink RX8 146 yX8_laySet ∈ gtb := gtb_of 808 (by decide +kernel) (by decide +kernel)
set_option maxRecDepth 100000 in
theorem lk_X8_131 : Cond.methodLink RX8 131 yX8_layPay ∈ gtb := gtb_of 812 (by decide +kernel) (by decide +kernel)
set_option maxRecDepth 100000 in
theorem lk_X8_125 : Cond.methodLink RX8 125 yX8_payBehind ∈ gtb := gtb_of 816 (by decide +kernel) (by decide +kernel)
set_option maxRecDepth 100000 in
theorem lk_X8_121 : Cond.methodLink RX8 121 yX8_costOf ∈ gtb := gtb_of 820 (by decide +kernel) (by decide +kernel)
set_option maxRecDepth 100000 in
theorem lk_X8_118 : Cond.methodLink RX8 118 yX8_isFar ∈ gtb := gtb_of 824 (by decide +kernel) (by decide +kernel)
set_option maxRecDepth 100000 in
theorem lk_X8_128 : Cond.methodLink RX8 128 yX8_canTurn ∈ gtb := gtb_of 828 (by decide +kernel) (by decide +kernel)
set_option maxRecDepth 100000 in
theorem lk_X8_139 : Cond.methodLink RX8 139 yX8_isNext ∈ gtb := gtb_of 832 (by decide +kernel) (by decide +kernel)
set_option maxRecDepth 100000 in
theorem lk_X8_135 : Cond.methodLink RX8 135 yX8_swap ∈ gtb := gtb_of 836 (by decide +kernel) (by decide +kernel)
set_option maxRecDepth 100000 in
theorem lk_X8_153 : Cond.methodLink RX8 153 yX8_bits ∈ gtb := gtb_of 840 (by decide +kernel) (by decide +kernel)
set_option maxRecDepth 100000 in
theorem lk_X8_156 : Cond.methodLink RX8 156 yX8_power ∈ gtb := gtb_of 843 (by decide +kernel) (by decide +kernel)
set_option maxRecDepth 100000 in
theorem lk_X8_162 : Cond.methodLink RX8 162 yX8_part ∈ gtb := gtb_of 846 (by decide +kernel) (by decide +kernel)
set_option maxRecDepth 100000 in
theorem lk_X8_166 : Cond.methodLink RX8 166 yX8_costNow ∈ gtb := gtb_of 850 (by decide +kernel) (by decide +kernel)
set_option maxRecDepth 100000 in
theorem lk_X8_172 : Cond.methodLink RX8 172 yX8_turnedFor ∈ gtb := gtb_of 854 (by decide +kernel) (by decide +kernel)
set_option maxRecDepth 100000 in
theorem lk_L_57 : Cond.methodLink RL 57 yX8_place ∈ gtb := gtb_of 858 (by decide +kernel) (by decide +kernel)
set_option maxRecDepth 100000 in
theorem lk_L_61 : Cond.methodLink RL 61 yX8_step ∈ gtb := gtb_of 862 (by decide +kernel) (by decide +kernel)
set_option maxRecDepth 100000 in
theorem lk_L_65 : Cond.methodLink RL 65 yX8_run ∈ gtb := gtb_of 866 (by decide +kernel) (by decide +kernel)
set_option maxRecDepth 100000 in
theorem lk_L_69 : Cond.methodLink RL 69 yX8_weight ∈ gtb := gtb_of 870 (by decide +kernel) (by decide +kernel)
set_option maxRecDepth 100000 in
theorem lk_X8_181 : Cond.methodLink RX8 181 yX8_layWeights ∈ gtb := gtb_of 874 (by decide +kernel) (by decide +kernel)
set_option maxRecDepth 100000 in
theorem lk_L_73 : Cond.methodLink RL 73 yX8_taken ∈ gtb := gtb_of 878 (by decide +kernel) (by decide +kernel)
set_option maxRecDepth 100000 in
theorem lk_X8_190 : Cond.methodLink RX8 190 yX8_layTaken ∈ gtb := gtb_of 882 (by decide +kernel) (by decide +kernel)
set_option maxRecDepth 100000 in
theorem lk_X8_187 : Cond.methodLink RX8 187 yX8_heaviest ∈ gtb := gtb_of 886 (by decide +kernel) (by decide +kernel)
set_option maxRecDepth 100000 in
theorem lk_L_77 : Cond.methodLink RL 77 yX8_exchange ∈ gtb := gtb_of 890 (by decide +kernel) (by decide +kernel)
set_option maxRecDepth 100000 in
theorem lk_L_81 : Cond.methodLink RL 81 yX8_hand ∈ gtb := gtb_of 894 (by decide +kernel) (by decide +kernel)
set_option maxRecDepth 100000 in
theorem lk_L_85 : Cond.methodLink RL 85 yX8_count ∈ gtb := gtb_of 898 (by decide +kernel) (by decide +kernel)
set_option maxRecDepth 100000 in
theorem lk_X8_193 : Cond.methodLink RX8 193 yX8_greedyCost ∈ gtb := gtb_of 902 (by decide +kernel) (by decide +kernel)
set_option maxRecDepth 100000 in
theorem lk_X8_196 : Cond.methodLink RX8 196 yX8_bound ∈ gtb := gtb_of 906 (by decide +kernel) (by decide +kernel)
set_option maxRecDepth 100000 in
theorem lk_L_89 : Cond.methodLink RL 89 yX8_image ∈ gtb := gtb_of 910 (by decide +kernel) (by decide +kernel)
set_option maxRecDepth 100000 in
theorem lk_L_93 : Cond.methodLink RL 93 yX8_restore ∈ gtb := gtb_of 914 (by decide +kernel) (by decide +kernel)
set_option maxRecDepth 100000 in
theorem mf_X6_measure : MF yX6_measure cX6_measure 4 none 1 := ⟨gtb_of 172 (by decide +kernel) (by decide +kernel), gtb_of 47 (by decide +kernel) (by decide +kernel), ⟨by decide +kernel, by decide +kernel⟩, by decide +kernel⟩
set_option maxRecDepth 100000 in
theorem in_X6_measure : Cond.instanceMethod yX6_measure ∈ gtb := gtb_of 170 (by decide +kernel) (by decide +kernel)
set_option maxRecDepth 100000 in
theorem se_X6_measure : Cond.selects yX6_measure.cls yX6_measure yX6_measure ∈ gtb := gtb_of 171 (by decide +kernel) (by decide +kernel)
set_option maxRecDepth 100000 in
theorem mf_X5_isFar : MF yX5_isFar cX5_isFar 3 (some .boolean) 2 := ⟨gtb_of 176 (by decide +kernel) (by decide +kernel), gtb_of 45 (by decide +kernel) (by decide +kernel), ⟨by decide +kernel, by decide +kernel⟩, by decide +kernel⟩
set_option maxRecDepth 100000 in
theorem in_X5_isFar : Cond.instanceMethod yX5_isFar ∈ gtb := gtb_of 174 (by decide +kernel) (by decide +kernel)
set_option maxRecDepth 100000 in
theorem se_X5_isFar : Cond.selects yX5_isFar.cls yX5_isFar yX5_isFar ∈ gtb := gtb_of 175 (by decide +kernel) (by decide +kernel)
set_option maxRecDepth 100000 in
theorem cd_abs : Cond.code Lib.Math.abs.name Lib.Math.abs.code 1 (some .int) ∈ gtb := gtb_of 179 (by decide +kernel) (by decide +kernel)
set_option maxRecDepth 100000 in
theorem sm_abs : Cond.static Lib.Math.abs.name ∈ gtb := gtb_of 178 (by decide +kernel) (by decide +kernel)
set_option maxRecDepth 100000 in
theorem mf_J7_fill_53178 : MF yJ7_fill_53178 cJ7_fill_53178 4 none 2 := ⟨gtb_of 198 (by decide +kernel) (by decide +kernel), gtb_of 51 (by decide +kernel) (by decide +kernel), ⟨by decide +kernel, by decide +kernel⟩, by decide +kernel⟩
set_option maxRecDepth 100000 in
theorem sm_J7_fill_53178 : Cond.static yJ7_fill_53178 ∈ gtb := gtb_of 197 (by decide +kernel) (by decide +kernel)
set_option maxRecDepth 100000 in
theorem mf_X3_forget : MF yX3_forget cX3_forget 2 none 0 := ⟨gtb_of 256 (by decide +kernel) (by decide +kernel), gtb_of 49 (by decide +kernel) (by decide +kernel), ⟨by decide +kernel, by decide +kernel⟩, by decide +kernel⟩
set_option maxRecDepth 100000 in
theorem in_X3_forget : Cond.instanceMethod yX3_forget ∈ gtb := gtb_of 254 (by decide +kernel) (by decide +kernel)
set_option maxRecDepth 100000 in
theorem se_X3_forget : Cond.selects yX3_forget.cls yX3_forget yX3_forget ∈ gtb := gtb_of 255 (by decide +kernel) (by decide +kernel)
set_option maxRecDepth 100000 in
theorem mf_X7_put : MF yX7_put cX7_put 5 (some .int) 4 := ⟨gtb_of 360 (by decide +kernel) (by decide +kernel), gtb_of 44 (by decide +kernel) (by decide +kernel), ⟨by decide +kernel, by decide +kernel⟩, by decide +kernel⟩
set_option maxRecDepth 100000 in
theorem in_X7_put : Cond.instanceMethod yX7_put ∈ gtb := gtb_of 358 (by decide +kernel) (by decide +kernel)
set_option maxRecDepth 100000 in
theorem se_X7_put : Cond.selects yX7_put.cls yX7_put yX7_put ∈ gtb := gtb_of 359 (by decide +kernel) (by decide +kernel)
set_option maxRecDepth 100000 in
theorem mf_X7_isVariable : MF yX7_isVariable cX7_isVariable 1 (some .boolean) 1 := ⟨gtb_of 363 (by decide +kernel) (by decide +kernel), gtb_of 44 (by decide +kernel) (by decide +kernel), ⟨by decide +kernel, by decide +kernel⟩, by decide +kernel⟩
set_option maxRecDepth 100000 in
theorem sm_X7_isVariable : Cond.static yX7_isVariable ∈ gtb := gtb_of 362 (by decide +kernel) (by decide +kernel)
set_option maxRecDepth 100000 in
theorem mf_X5_append : MF yX5_append cX5_append 5 none 4 := ⟨gtb_of 367 (by decide +kernel) (by decide +kernel), gtb_of 45 (by decide +kernel) (by decide +kernel), ⟨by decide +kernel, by decide +kernel⟩, by decide +kernel⟩
set_option maxRecDepth 100000 in
theorem in_X5_append : Cond.instanceMethod yX5_append ∈ gtb := gtb_of 365 (by decide +kernel) (by decide +kernel)
set_option maxRecDepth 100000 in
theorem se_X5_append : Cond.selects yX5_append.cls yX5_append yX5_append ∈ gtb := gtb_of 366 (by decide +kernel) (by decide +kernel)
set_option maxRecDepth 100000 in
theorem mf_X7_changed : MF yX7_changed cX7_changed 1 none 0 := ⟨gtb_of 371 (by decide +kernel) (by decide +kernel), gtb_of 44 (by decide +kernel) (by decide +kernel), ⟨by decide +kernel, by decide +kernel⟩, by decide +kernel⟩
set_option maxRecDepth 100000 in
theorem in_X7_changed : Cond.instanceMethod yX7_changed ∈ gtb := gtb_of 370 (by decide +kernel) (by decide +kernel)
set_option maxRecDepth 100000 in
theorem se_X7_changed : Cond.selects yX7_changed.cls yX7_changed yX7_changed ∈ gtb := gtb_of 0 (by decide +kernel) (by decide +kernel)
set_option maxRecDepth 100000 in
theorem mf_X7_drop : MF yX7_drop cX7_drop 2 (some .int) 1 := ⟨gtb_of 376 (by decide +kernel) (by decide +kernel), gtb_of 44 (by decide +kernel) (by decide +kernel), ⟨by decide +kernel, by decide +kernel⟩, by decide +kernel⟩
set_option maxRecDepth 100000 in
theorem in_X7_drop : Cond.instanceMethod yX7_drop ∈ gtb := gtb_of 374 (by decide +kernel) (by decide +kernel)
set_option maxRecDepth 100000 in
theorem se_X7_drop : Cond.selects yX7_drop.cls yX7_drop yX7_drop ∈ gtb := gtb_of 375 (by decide +kernel) (by decide +kernel)
set_option maxRecDepth 100000 in
theorem mf_X5_has : MF yX5_has cX5_has 2 (some .boolean) 1 := ⟨gtb_of 380 (by decide +kernel) (by decide +kernel), gtb_of 45 (by decide +kernel) (by decide +kernel), ⟨by decide +kernel, by decide +kernel⟩, by decide +kernel⟩
set_option maxRecDepth 100000 in
theorem in_X5_has : Cond.instanceMethod yX5_has ∈ gtb := gtb_of 378 (by decide +kernel) (by decide +kernel)
set_option maxRecDepth 100000 in
theorem se_X5_has : Cond.selects yX5_has.cls yX5_has yX5_has ∈ gtb := gtb_of 379 (by decide +kernel) (by decide +kernel)
set_option maxRecDepth 100000 in
theorem mf_X5_remove : MF yX5_remove cX5_remove 3 none 1 := ⟨gtb_of 384 (by decide +kernel) (by decide +kernel), gtb_of 45 (by decide +kernel) (by decide +kernel), ⟨by decide +kernel, by decide +kernel⟩, by decide +kernel⟩
set_option maxRecDepth 100000 in
theorem in_X5_remove : Cond.instanceMethod yX5_remove ∈ gtb := gtb_of 382 (by decide +kernel) (by decide +kernel)
set_option maxRecDepth 100000 in
theorem se_X5_remove : Cond.selects yX5_remove.cls yX5_remove yX5_remove ∈ gtb := gtb_of 383 (by decide +kernel) (by decide +kernel)
set_option maxRecDepth 100000 in
theorem mf_X7_cross : MF yX7_cross cX7_cross 3 (some .int) 1 := ⟨gtb_of 391 (by decide +kernel) (by decide +kernel), gtb_of 44 (by decide +kernel) (by decide +kernel), ⟨by decide +kernel, by decide +kernel⟩, by decide +kernel⟩
set_option maxRecDepth 100000 in
theorem in_X7_cross : Cond.instanceMethod yX7_cross ∈ gtb := gtb_of 389 (by decide +kernel) (by decide +kernel)
set_option maxRecDepth 100000 in
theorem se_X7_cross : Cond.selects yX7_cross.cls yX7_cross yX7_cross ∈ gtb := gtb_of 390 (by decide +kernel) (by decide +kernel)
set_option maxRecDepth 100000 in
theorem mf_X7_told : MF yX7_told cX7_told 3 (some .int) 2 := ⟨gtb_of 395 (by decide +kernel) (by decide +kernel), gtb_of 44 (by decide +kernel) (by decide +kernel), ⟨by decide +kernel, by decide +kernel⟩, by decide +kernel⟩
set_option maxRecDepth 100000 in
theorem in_X7_told : Cond.instanceMethod yX7_told ∈ gtb := gtb_of 393 (by decide +kernel) (by decide +kernel)
set_option maxRecDepth 100000 in
theorem se_X7_told : Cond.selects yX7_told.cls yX7_told yX7_told ∈ gtb := gtb_of 394 (by decide +kernel) (by decide +kernel)
set_option maxRecDepth 100000 in
theorem mf_X7_free : MF yX7_free cX7_free 5 (some .int) 2 := ⟨gtb_of 399 (by decide +kernel) (by decide +kernel), gtb_of 44 (by decide +kernel) (by decide +kernel), ⟨by decide +kernel, by decide +kernel⟩, by decide +kernel⟩
set_option maxRecDepth 100000 in
theorem in_X7_free : Cond.instanceMethod yX7_free ∈ gtb := gtb_of 397 (by decide +kernel) (by decide +kernel)
set_option maxRecDepth 100000 in
theorem se_X7_free : Cond.selects yX7_free.cls yX7_free yX7_free ∈ gtb := gtb_of 398 (by decide +kernel) (by decide +kernel)
set_option maxRecDepth 100000 in
theorem mf_X7_set : MF yX7_set cX7_set 5 (some .int) 2 := ⟨gtb_of 403 (by decide +kernel) (by decide +kernel), gtb_of 44 (by decide +kernel) (by decide +kernel), ⟨by decide +kernel, by decide +kernel⟩, by decide +kernel⟩
set_option maxRecDepth 100000 in
theorem in_X7_set : Cond.instanceMethod yX7_set ∈ gtb := gtb_of 401 (by decide +kernel) (by decide +kernel)
set_option maxRecDepth 100000 in
theorem se_X7_set : Cond.selects yX7_set.cls yX7_set yX7_set ∈ gtb := gtb_of 402 (by decide +kernel) (by decide +kernel)
set_option maxRecDepth 100000 in
theorem mf_X7_value : MF yX7_value cX7_value 2 (some .long) 1 := ⟨gtb_of 407 (by decide +kernel) (by decide +kernel), gtb_of 44 (by decide +kernel) (by decide +kernel), ⟨by decide +kernel, by decide +kernel⟩, by decide +kernel⟩
set_option maxRecDepth 100000 in
theorem in_X7_value : Cond.instanceMethod yX7_value ∈ gtb := gtb_of 405 (by decide +kernel) (by decide +kernel)
set_option maxRecDepth 100000 in
theorem se_X7_value : Cond.selects yX7_value.cls yX7_value yX7_value ∈ gtb := gtb_of 406 (by decide +kernel) (by decide +kernel)
set_option maxRecDepth 100000 in
theorem mf_X7_sight : MF yX7_sight cX7_sight 2 (some .int) 1 := ⟨gtb_of 412 (by decide +kernel) (by decide +kernel), gtb_of 44 (by decide +kernel) (by decide +kernel), ⟨by decide +kernel, by decide +kernel⟩, by decide +kernel⟩
set_option maxRecDepth 100000 in
theorem in_X7_sight : Cond.instanceMethod yX7_sight ∈ gtb := gtb_of 410 (by decide +kernel) (by decide +kernel)
set_option maxRecDepth 100000 in
theorem se_X7_sight : Cond.selects yX7_sight.cls yX7_sight yX7_sight ∈ gtb := gtb_of 411 (by decide +kernel) (by decide +kernel)
set_option maxRecDepth 100000 in
theorem mf_X4_look : MF yX4_look cX4_look 5 none 2 := ⟨gtb_of 416 (by decide +kernel) (by decide +kernel), gtb_of 46 (by decide +kernel) (by decide +kernel), ⟨by decide +kernel, by decide +kernel⟩, by decide +kernel⟩
set_option maxRecDepth 100000 in
theorem in_X4_look : Cond.instanceMethod yX4_look ∈ gtb := gtb_of 414 (by decide +kernel) (by decide +kernel)
set_option maxRecDepth 100000 in
theorem se_X4_look : Cond.selects yX4_look.cls yX4_look yX4_look ∈ gtb := gtb_of 415 (by decide +kernel) (by decide +kernel)
set_option maxRecDepth 100000 in
theorem mf_X4_add : MF yX4_add cX4_add 2 none 1 := ⟨gtb_of 420 (by decide +kernel) (by decide +kernel), gtb_of 46 (by decide +kernel) (by decide +kernel), ⟨by decide +kernel, by decide +kernel⟩, by decide +kernel⟩
set_option maxRecDepth 100000 in
theorem in_X4_add : Cond.instanceMethod yX4_add ∈ gtb := gtb_of 419 (by decide +kernel) (by decide +kernel)
set_option maxRecDepth 100000 in
theorem se_X4_add : Cond.selects yX4_add.cls yX4_add yX4_add ∈ gtb := gtb_of 1 (by decide +kernel) (by decide +kernel)
set_option maxRecDepth 100000 in
theorem mf_X4_has : MF yX4_has cX4_has 2 (some .boolean) 1 := ⟨gtb_of 424 (by decide +kernel) (by decide +kernel), gtb_of 46 (by decide +kernel) (by decide +kernel), ⟨by decide +kernel, by decide +kernel⟩, by decide +kernel⟩
set_option maxRecDepth 100000 in
theorem in_X4_has : Cond.instanceMethod yX4_has ∈ gtb := gtb_of 422 (by decide +kernel) (by decide +kernel)
set_option maxRecDepth 100000 in
theorem se_X4_has : Cond.selects yX4_has.cls yX4_has yX4_has ∈ gtb := gtb_of 423 (by decide +kernel) (by decide +kernel)
set_option maxRecDepth 100000 in
theorem mf_X7_plan : MF yX7_plan cX7_plan 5 (some .int) 3 := ⟨gtb_of 428 (by decide +kernel) (by decide +kernel), gtb_of 44 (by decide +kernel) (by decide +kernel), ⟨by decide +kernel, by decide +kernel⟩, by decide +kernel⟩
set_option maxRecDepth 100000 in
theorem in_X7_plan : Cond.instanceMethod yX7_plan ∈ gtb := gtb_of 426 (by decide +kernel) (by decide +kernel)
set_option maxRecDepth 100000 in
theorem se_X7_plan : Cond.selects yX7_plan.cls yX7_plan yX7_plan ∈ gtb := gtb_of 427 (by decide +kernel) (by decide +kernel)
set_option maxRecDepth 100000 in
theorem mf_X7_isPlan : MF yX7_isPlan cX7_isPlan 2 (some .boolean) 2 := ⟨gtb_of 431 (by decide +kernel) (by decide +kernel), gtb_of 44 (by decide +kernel) (by decide +kernel), ⟨by decide +kernel, by decide +kernel⟩, by decide +kernel⟩
set_option maxRecDepth 100000 in
theorem sm_X7_isPlan : Cond.static yX7_isPlan ∈ gtb := gtb_of 430 (by decide +kernel) (by decide +kernel)
set_option maxRecDepth 100000 in
theorem mf_X7_isMode : MF yX7_isMode cX7_isMode 1 (some .boolean) 1 := ⟨gtb_of 434 (by decide +kernel) (by decide +kernel), gtb_of 44 (by decide +kernel) (by decide +kernel), ⟨by decide +kernel, by decide +kernel⟩, by decide +kernel⟩
set_option maxRecDepth 100000 in
theorem sm_X7_isMode : Cond.static yX7_isMode ∈ gtb := gtb_of 433 (by decide +kernel) (by decide +kernel)
set_option maxRecDepth 100000 in
theorem mf_X3_planFor : MF yX3_planFor cX3_planFor 4 (some (.object "StepRegisters$Plan")) 2 := ⟨gtb_of 438 (by decide +kernel) (by decide +kernel), gtb_of 49 (by decide +kernel) (by decide +kernel), ⟨by decide +kernel, by decide +kernel⟩, by decide +kernel⟩
set_option maxRecDepth 100000 in
theorem in_X3_planFor : Cond.instanceMethod yX3_planFor ∈ gtb := gtb_of 436 (by decide +kernel) (by decide +kernel)
set_option maxRecDepth 100000 in
theorem se_X3_planFor : Cond.selects yX3_planFor.cls yX3_planFor yX3_planFor ∈ gtb := gtb_of 437 (by decide +kernel) (by decide +kernel)
set_option maxRecDepth 100000 in
theorem mf_X5_turnable : MF yX5_turnable cX5_turnable 3 (some .int) 0 := ⟨gtb_of 442 (by decide +kernel) (by decide +kernel), gtb_of 45 (by decide +kernel) (by decide +kernel), ⟨by decide +kernel, by decide +kernel⟩, by decide +kernel⟩
set_option maxRecDepth 100000 in
theorem in_X5_turnable : Cond.instanceMethod yX5_turnable ∈ gtb := gtb_of 440 (by decide +kernel) (by decide +kernel)
set_option maxRecDepth 100000 in
theorem se_X5_turnable : Cond.selects yX5_turnable.cls yX5_turnable yX5_turnable ∈ gtb := gtb_of 441 (by decide +kernel) (by decide +kernel)
set_option maxRecDepth 100000 in
theorem mf_X3_listUsed : MF yX3_listUsed cX3_listUsed 3 none 0 := ⟨gtb_of 446 (by decide +kernel) (by decide +kernel), gtb_of 49 (by decide +kernel) (by decide +kernel), ⟨by decide +kernel, by decide +kernel⟩, by decide +kernel⟩
set_option maxRecDepth 100000 in
theorem in_X3_listUsed : Cond.instanceMethod yX3_listUsed ∈ gtb := gtb_of 445 (by decide +kernel) (by decide +kernel)
set_option maxRecDepth 100000 in
theorem se_X3_listUsed : Cond.selects yX3_listUsed.cls yX3_listUsed yX3_listUsed ∈ gtb := gtb_of 2 (by decide +kernel) (by decide +kernel)
set_option maxRecDepth 100000 in
theorem mf_X5_usedSet : MF yX5_usedSet cX5_usedSet 3 (some .int) 0 := ⟨gtb_of 450 (by decide +kernel) (by decide +kernel), gtb_of 45 (by decide +kernel) (by decide +kernel), ⟨by decide +kernel, by decide +kernel⟩, by decide +kernel⟩
set_option maxRecDepth 100000 in
theorem in_X5_usedSet : Cond.instanceMethod yX5_usedSet ∈ gtb := gtb_of 448 (by decide +kernel) (by decide +kernel)
set_option maxRecDepth 100000 in
theorem se_X5_usedSet : Cond.selects yX5_usedSet.cls yX5_usedSet yX5_usedSet ∈ gtb := gtb_of 449 (by decide +kernel) (by decide +kernel)
set_option maxRecDepth 100000 in
theorem mf_X3_divide : MF yX3_divide cX3_divide 6 none 2 := ⟨gtb_of 454 (by decide +kernel) (by decide +kernel), gtb_of 49 (by decide +kernel) (by decide +kernel), ⟨by decide +kernel, by decide +kernel⟩, by decide +kernel⟩
set_option maxRecDepth 100000 in
theorem in_X3_divide : Cond.instanceMethod yX3_divide ∈ gtb := gtb_of 453 (by decide +kernel) (by decide +kernel)
set_option maxRecDepth 100000 in
theorem se_X3_divide : Cond.selects yX3_divide.cls yX3_divide yX3_divide ∈ gtb := gtb_of 3 (by decide +kernel) (by decide +kernel)
set_option maxRecDepth 100000 in
theorem mf_X3_compare : MF yX3_compare cX3_compare 8 none 1 := ⟨gtb_of 458 (by decide +kernel) (by decide +kernel), gtb_of 49 (by decide +kernel) (by decide +kernel), ⟨by decide +kernel, by decide +kernel⟩, by decide +kernel⟩
set_option maxRecDepth 100000 in
theorem in_X3_compare : Cond.instanceMethod yX3_compare ∈ gtb := gtb_of 457 (by decide +kernel) (by decide +kernel)
set_option maxRecDepth 100000 in
theorem se_X3_compare : Cond.selects yX3_compare.cls yX3_compare yX3_compare ∈ gtb := gtb_of 4 (by decide +kernel) (by decide +kernel)
set_option maxRecDepth 100000 in
theorem mf_X1_leastBelow : MF yX1_leastBelow cX1_leastBelow 6 (some .int) 4 := ⟨gtb_of 462 (by decide +kernel) (by decide +kernel), gtb_of 50 (by decide +kernel) (by decide +kernel), ⟨by decide +kernel, by decide +kernel⟩, by decide +kernel⟩
set_option maxRecDepth 100000 in
theorem in_X1_leastBelow : Cond.instanceMethod yX1_leastBelow ∈ gtb := gtb_of 460 (by decide +kernel) (by decide +kernel)
set_option maxRecDepth 100000 in
theorem se_X1_leastBelow : Cond.selects yX1_leastBelow.cls yX1_leastBelow yX1_leastBelow ∈ gtb := gtb_of 461 (by decide +kernel) (by decide +kernel)
set_option maxRecDepth 100000 in
theorem mf_X6_trace : MF yX6_trace cX6_trace 8 none 4 := ⟨gtb_of 466 (by decide +kernel) (by decide +kernel), gtb_of 47 (by decide +kernel) (by decide +kernel), ⟨by decide +kernel, by decide +kernel⟩, by decide +kernel⟩
set_option maxRecDepth 100000 in
theorem in_X6_trace : Cond.instanceMethod yX6_trace ∈ gtb := gtb_of 464 (by decide +kernel) (by decide +kernel)
set_option maxRecDepth 100000 in
theorem se_X6_trace : Cond.selects yX6_trace.cls yX6_trace yX6_trace ∈ gtb := gtb_of 465 (by decide +kernel) (by decide +kernel)
set_option maxRecDepth 100000 in
theorem mf_X6_has : MF yX6_has cX6_has 2 (some .boolean) 1 := ⟨gtb_of 471 (by decide +kernel) (by decide +kernel), gtb_of 47 (by decide +kernel) (by decide +kernel), ⟨by decide +kernel, by decide +kernel⟩, by decide +kernel⟩
set_option maxRecDepth 100000 in
theorem in_X6_has : Cond.instanceMethod yX6_has ∈ gtb := gtb_of 470 (by decide +kernel) (by decide +kernel)
set_option maxRecDepth 100000 in
theorem se_X6_has : Cond.selects yX6_has.cls yX6_has yX6_has ∈ gtb := gtb_of 5 (by decide +kernel) (by decide +kernel)
set_option maxRecDepth 100000 in
theorem mf_X6_fork : MF yX6_fork cX6_fork 3 none 2 := ⟨gtb_of 475 (by decide +kernel) (by decide +kernel), gtb_of 47 (by decide +kernel) (by decide +kernel), ⟨by decide +kernel, by decide +kernel⟩, by decide +kernel⟩
set_option maxRecDepth 100000 in
theorem in_X6_fork : Cond.instanceMethod yX6_fork ∈ gtb := gtb_of 474 (by decide +kernel) (by decide +kernel)
set_option maxRecDepth 100000 in
theorem se_X6_fork : Cond.selects yX6_fork.cls yX6_fork yX6_fork ∈ gtb := gtb_of 6 (by decide +kernel) (by decide +kernel)
set_option maxRecDepth 100000 in
theorem mf_X6_addFork : MF yX6_addFork cX6_addFork 4 none 3 := ⟨gtb_of 479 (by decide +kernel) (by decide +kernel), gtb_of 47 (by decide +kernel) (by decide +kernel), ⟨by decide +kernel, by decide +kernel⟩, by decide +kernel⟩
set_option maxRecDepth 100000 in
theorem in_X6_addFork : Cond.instanceMethod yX6_addFork ∈ gtb := gtb_of 478 (by decide +kernel) (by decide +kernel)
set_option maxRecDepth 100000 in
theorem se_X6_addFork : Cond.selects yX6_addFork.cls yX6_addFork yX6_addFork ∈ gtb := gtb_of 7 (by decide +kernel) (by decide +kernel)
set_option maxRecDepth 100000 in
theorem mf_X6_pair : MF yX6_pair cX6_pair 3 none 2 := ⟨gtb_of 483 (by decide +kernel) (by decide +kernel), gtb_of 47 (by decide +kernel) (by decide +kernel), ⟨by decide +kernel, by decide +kernel⟩, by decide +kernel⟩
set_option maxRecDepth 100000 in
theorem in_X6_pair : Cond.instanceMethod yX6_pair ∈ gtb := gtb_of 482 (by decide +kernel) (by decide +kernel)
set_option maxRecDepth 100000 in
theorem se_X6_pair : Cond.selects yX6_pair.cls yX6_pair yX6_pair ∈ gtb := gtb_of 8 (by decide +kernel) (by decide +kernel)
set_option maxRecDepth 100000 in
theorem mf_X6_pass : MF yX6_pass cX6_pass 2 none 1 := ⟨gtb_of 487 (by decide +kernel) (by decide +kernel), gtb_of 47 (by decide +kernel) (by decide +kernel), ⟨by decide +kernel, by decide +kernel⟩, by decide +kernel⟩
set_option maxRecDepth 100000 in
theorem in_X6_pass : Cond.instanceMethod yX6_pass ∈ gtb := gtb_of 486 (by decide +kernel) (by decide +kernel)
set_option maxRecDepth 100000 in
theorem se_X6_pass : Cond.selects yX6_pass.cls yX6_pass yX6_pass ∈ gtb := gtb_of 9 (by decide +kernel) (by decide +kernel)
set_option maxRecDepth 100000 in
theorem mf_X1_findTwins : MF yX1_findTwins cX1_findTwins 3 none 0 := ⟨gtb_of 491 (by decide +kernel) (by decide +kernel), gtb_of 50 (by decide +kernel) (by decide +kernel), ⟨by decide +kernel, by decide +kernel⟩, by decide +kernel⟩
set_option maxRecDepth 100000 in
theorem in_X1_findTwins : Cond.instanceMethod yX1_findTwins ∈ gtb := gtb_of 490 (by decide +kernel) (by decide +kernel)
set_option maxRecDepth 100000 in
theorem se_X1_findTwins : Cond.selects yX1_findTwins.cls yX1_findTwins yX1_findTwins ∈ gtb := gtb_of 10 (by decide +kernel) (by decide +kernel)
set_option maxRecDepth 100000 in
theorem mf_X6_areTwins : MF yX6_areTwins cX6_areTwins 5 (some .boolean) 3 := ⟨gtb_of 495 (by decide +kernel) (by decide +kernel), gtb_of 47 (by decide +kernel) (by decide +kernel), ⟨by decide +kernel, by decide +kernel⟩, by decide +kernel⟩
set_option maxRecDepth 100000 in
theorem in_X6_areTwins : Cond.instanceMethod yX6_areTwins ∈ gtb := gtb_of 493 (by decide +kernel) (by decide +kernel)
set_option maxRecDepth 100000 in
theorem se_X6_areTwins : Cond.selects yX6_areTwins.cls yX6_areTwins yX6_areTwins ∈ gtb := gtb_of 494 (by decide +kernel) (by decide +kernel)
set_option maxRecDepth 100000 in
theorem mf_X1_lay : MF yX1_lay cX1_lay 10 none 3 := ⟨gtb_of 499 (by decide +kernel) (by decide +kernel), gtb_of 50 (by decide +kernel) (by decide +kernel), ⟨by decide +kernel, by decide +kernel⟩, by decide +kernel⟩
set_option maxRecDepth 100000 in
theorem in_X1_lay : Cond.instanceMethod yX1_lay ∈ gtb := gtb_of 498 (by decide +kernel) (by decide +kernel)
set_option maxRecDepth 100000 in
theorem se_X1_lay : Cond.selects yX1_lay.cls yX1_lay yX1_lay ∈ gtb := gtb_of 11 (by decide +kernel) (by decide +kernel)
set_option maxRecDepth 100000 in
theorem mf_X6_pairCost : MF yX6_pairCost cX6_pairCost 6 (some .int) 2 := ⟨gtb_of 503 (by decide +kernel) (by decide +kernel), gtb_of 47 (by decide +kernel) (by decide +kernel), ⟨by decide +kernel, by decide +kernel⟩, by decide +kernel⟩
set_option maxRecDepth 100000 in
theorem in_X6_pairCost : Cond.instanceMethod yX6_pairCost ∈ gtb := gtb_of 501 (by decide +kernel) (by decide +kernel)
set_option maxRecDepth 100000 in
theorem se_X6_pairCost : Cond.selects yX6_pairCost.cls yX6_pairCost yX6_pairCost ∈ gtb := gtb_of 502 (by decide +kernel) (by decide +kernel)
set_option maxRecDepth 100000 in
theorem mf_X6_forkCost : MF yX6_forkCost cX6_forkCost 11 (some .int) 1 := ⟨gtb_of 507 (by decide +kernel) (by decide +kernel), gtb_of 47 (by decide +kernel) (by decide +kernel), ⟨by decide +kernel, by decide +kernel⟩, by decide +kernel⟩
set_option maxRecDepth 100000 in
theorem in_X6_forkCost : Cond.instanceMethod yX6_forkCost ∈ gtb := gtb_of 505 (by decide +kernel) (by decide +kernel)
set_option maxRecDepth 100000 in
theorem se_X6_forkCost : Cond.selects yX6_forkCost.cls yX6_forkCost yX6_forkCost ∈ gtb := gtb_of 506 (by decide +kernel) (by decide +kernel)
set_option maxRecDepth 100000 in
theorem cd_min : Cond.code Lib.Math.min.name Lib.Math.min.code 2 (some .int) ∈ gtb := gtb_of 510 (by decide +kernel) (by decide +kernel)
set_option maxRecDepth 100000 in
theorem sm_min : Cond.static Lib.Math.min.name ∈ gtb := gtb_of 509 (by decide +kernel) (by decide +kernel)
set_option maxRecDepth 100000 in
theorem mf_X1_keep : MF yX1_keep cX1_keep 2 none 0 := ⟨gtb_of 514 (by decide +kernel) (by decide +kernel), gtb_of 50 (by decide +kernel) (by decide +kernel), ⟨by decide +kernel, by decide +kernel⟩, by decide +kernel⟩
set_option maxRecDepth 100000 in
theorem in_X1_keep : Cond.instanceMethod yX1_keep ∈ gtb := gtb_of 513 (by decide +kernel) (by decide +kernel)
set_option maxRecDepth 100000 in
theorem se_X1_keep : Cond.selects yX1_keep.cls yX1_keep yX1_keep ∈ gtb := gtb_of 12 (by decide +kernel) (by decide +kernel)
set_option maxRecDepth 100000 in
theorem mf_J6_bitCount_0f7a4 : MF yJ6_bitCount_0f7a4 cJ6_bitCount_0f7a4 1 (some .int) 1 := ⟨gtb_of 519 (by decide +kernel) (by decide +kernel), gtb_of 56 (by decide +kernel) (by decide +kernel), ⟨by decide +kernel, by decide +kernel⟩, by decide +kernel⟩
set_option maxRecDepth 100000 in
theorem sm_J6_bitCount_0f7a4 : Cond.static yJ6_bitCount_0f7a4 ∈ gtb := gtb_of 518 (by decide +kernel) (by decide +kernel)
set_option maxRecDepth 100000 in
theorem cd_max : Cond.code Lib.Math.max.name Lib.Math.max.code 2 (some .int) ∈ gtb := gtb_of 525 (by decide +kernel) (by decide +kernel)
set_option maxRecDepth 100000 in
theorem sm_max : Cond.static Lib.Math.max.name ∈ gtb := gtb_of 524 (by decide +kernel) (by decide +kernel)
set_option maxRecDepth 100000 in
theorem mf_X3_write : MF yX3_write cX3_write 5 none 1 := ⟨gtb_of 529 (by decide +kernel) (by decide +kernel), gtb_of 49 (by decide +kernel) (by decide +kernel), ⟨by decide +kernel, by decide +kernel⟩, by decide +kernel⟩
set_option maxRecDepth 100000 in
theorem in_X3_write : Cond.instanceMethod yX3_write ∈ gtb := gtb_of 528 (by decide +kernel) (by decide +kernel)
set_option maxRecDepth 100000 in
theorem se_X3_write : Cond.selects yX3_write.cls yX3_write yX3_write ∈ gtb := gtb_of 13 (by decide +kernel) (by decide +kernel)
set_option maxRecDepth 100000 in
theorem mf_X3_turnedIn : MF yX3_turnedIn cX3_turnedIn 7 (some .int) 2 := ⟨gtb_of 533 (by decide +kernel) (by decide +kernel), gtb_of 49 (by decide +kernel) (by decide +kernel), ⟨by decide +kernel, by decide +kernel⟩, by decide +kernel⟩
set_option maxRecDepth 100000 in
theorem in_X3_turnedIn : Cond.instanceMethod yX3_turnedIn ∈ gtb := gtb_of 532 (by decide +kernel) (by decide +kernel)
set_option maxRecDepth 100000 in
theorem se_X3_turnedIn : Cond.selects yX3_turnedIn.cls yX3_turnedIn yX3_turnedIn ∈ gtb := gtb_of 14 (by decide +kernel) (by decide +kernel)
set_option maxRecDepth 100000 in
theorem mf_X6_cost : MF yX6_cost cX6_cost 4 (some .int) 1 := ⟨gtb_of 538 (by decide +kernel) (by decide +kernel), gtb_of 47 (by decide +kernel) (by decide +kernel), ⟨by decide +kernel, by decide +kernel⟩, by decide +kernel⟩
set_option maxRecDepth 100000 in
theorem in_X6_cost : Cond.instanceMethod yX6_cost ∈ gtb := gtb_of 536 (by decide +kernel) (by decide +kernel)
set_option maxRecDepth 100000 in
theorem se_X6_cost : Cond.selects yX6_cost.cls yX6_cost yX6_cost ∈ gtb := gtb_of 537 (by decide +kernel) (by decide +kernel)
set_option maxRecDepth 100000 in
theorem mf_X7_place : MF yX7_place cX7_place 6 (some .int) 4 := ⟨gtb_of 545 (by decide +kernel) (by decide +kernel), gtb_of 44 (by decide +kernel) (by decide +kernel), ⟨by decide +kernel, by decide +kernel⟩, by decide +kernel⟩
set_option maxRecDepth 100000 in
theorem in_X7_place : Cond.instanceMethod yX7_place ∈ gtb := gtb_of 543 (by decide +kernel) (by decide +kernel)
set_option maxRecDepth 100000 in
theorem se_X7_place : Cond.selects yX7_place.cls yX7_place yX7_place ∈ gtb := gtb_of 544 (by decide +kernel) (by decide +kernel)
set_option maxRecDepth 100000 in
theorem mf_X7_step : MF yX7_step cX7_step 9 (some .int) 4 := ⟨gtb_of 550 (by decide +kernel) (by decide +kernel), gtb_of 44 (by decide +kernel) (by decide +kernel), ⟨by decide +kernel, by decide +kernel⟩, by decide +kernel⟩
set_option maxRecDepth 100000 in
theorem in_X7_step : Cond.instanceMethod yX7_step ∈ gtb := gtb_of 548 (by decide +kernel) (by decide +kernel)
set_option maxRecDepth 100000 in
theorem se_X7_step : Cond.selects yX7_step.cls yX7_step yX7_step ∈ gtb := gtb_of 549 (by decide +kernel) (by decide +kernel)
set_option maxRecDepth 100000 in
theorem mf_X4_before : MF yX4_before cX4_before 5 (some .int) 2 := ⟨gtb_of 554 (by decide +kernel) (by decide +kernel), gtb_of 46 (by decide +kernel) (by decide +kernel), ⟨by decide +kernel, by decide +kernel⟩, by decide +kernel⟩
set_option maxRecDepth 100000 in
theorem in_X4_before : Cond.instanceMethod yX4_before ∈ gtb := gtb_of 552 (by decide +kernel) (by decide +kernel)
set_option maxRecDepth 100000 in
theorem se_X4_before : Cond.selects yX4_before.cls yX4_before yX4_before ∈ gtb := gtb_of 553 (by decide +kernel) (by decide +kernel)
set_option maxRecDepth 100000 in
theorem mf_X7_run : MF yX7_run cX7_run 3 (some .int) 2 := ⟨gtb_of 559 (by decide +kernel) (by decide +kernel), gtb_of 44 (by decide +kernel) (by decide +kernel), ⟨by decide +kernel, by decide +kernel⟩, by decide +kernel⟩
set_option maxRecDepth 100000 in
theorem in_X7_run : Cond.instanceMethod yX7_run ∈ gtb := gtb_of 557 (by decide +kernel) (by decide +kernel)
set_option maxRecDepth 100000 in
theorem se_X7_run : Cond.selects yX7_run.cls yX7_run yX7_run ∈ gtb := gtb_of 558 (by decide +kernel) (by decide +kernel)
set_option maxRecDepth 100000 in
theorem mf_X5_execute : MF yX5_execute cX5_execute 2 none 0 := ⟨gtb_of 563 (by decide +kernel) (by decide +kernel), gtb_of 45 (by decide +kernel) (by decide +kernel), ⟨by decide +kernel, by decide +kernel⟩, by decide +kernel⟩
set_option maxRecDepth 100000 in
theorem in_X5_execute : Cond.instanceMethod yX5_execute ∈ gtb := gtb_of 561 (by decide +kernel) (by decide +kernel)
set_option maxRecDepth 100000 in
theorem se_X5_execute : Cond.selects yX5_execute.cls yX5_execute yX5_execute ∈ gtb := gtb_of 562 (by decide +kernel) (by decide +kernel)
set_option maxRecDepth 100000 in
theorem mf_X5_result : MF yX5_result cX5_result 3 (some .int) 3 := ⟨gtb_of 566 (by decide +kernel) (by decide +kernel), gtb_of 45 (by decide +kernel) (by decide +kernel), ⟨by decide +kernel, by decide +kernel⟩, by decide +kernel⟩
set_option maxRecDepth 100000 in
theorem sm_X5_result : Cond.static yX5_result ∈ gtb := gtb_of 565 (by decide +kernel) (by decide +kernel)
set_option maxRecDepth 100000 in
theorem mf_X7_weight : MF yX7_weight cX7_weight 3 (some .int) 2 := ⟨gtb_of 571 (by decide +kernel) (by decide +kernel), gtb_of 44 (by decide +kernel) (by decide +kernel), ⟨by decide +kernel, by decide +kernel⟩, by decide +kernel⟩
set_option maxRecDepth 100000 in
theorem in_X7_weight : Cond.instanceMethod yX7_weight ∈ gtb := gtb_of 569 (by decide +kernel) (by decide +kernel)
set_option maxRecDepth 100000 in
theorem se_X7_weight : Cond.selects yX7_weight.cls yX7_weight yX7_weight ∈ gtb := gtb_of 570 (by decide +kernel) (by decide +kernel)
set_option maxRecDepth 100000 in
theorem mf_X7_weights : MF yX7_weights cX7_weights 1 (some (.array .int)) 0 := ⟨gtb_of 575 (by decide +kernel) (by decide +kernel), gtb_of 44 (by decide +kernel) (by decide +kernel), ⟨by decide +kernel, by decide +kernel⟩, by decide +kernel⟩
set_option maxRecDepth 100000 in
theorem in_X7_weights : Cond.instanceMethod yX7_weights ∈ gtb := gtb_of 574 (by decide +kernel) (by decide +kernel)
set_option maxRecDepth 100000 in
theorem se_X7_weights : Cond.selects yX7_weights.cls yX7_weights yX7_weights ∈ gtb := gtb_of 15 (by decide +kernel) (by decide +kernel)
set_option maxRecDepth 100000 in
theorem mf_X7_taken : MF yX7_taken cX7_taken 3 (some .int) 2 := ⟨gtb_of 580 (by decide +kernel) (by decide +kernel), gtb_of 44 (by decide +kernel) (by decide +kernel), ⟨by decide +kernel, by decide +kernel⟩, by decide +kernel⟩
set_option maxRecDepth 100000 in
theorem in_X7_taken : Cond.instanceMethod yX7_taken ∈ gtb := gtb_of 578 (by decide +kernel) (by decide +kernel)
set_option maxRecDepth 100000 in
theorem se_X7_taken : Cond.selects yX7_taken.cls yX7_taken yX7_taken ∈ gtb := gtb_of 579 (by decide +kernel) (by decide +kernel)
set_option maxRecDepth 100000 in
theorem mf_X0_take : MF yX0_take cX0_take 6 none 1 := ⟨gtb_of 584 (by decide +kernel) (by decide +kernel), gtb_of 53 (by decide +kernel) (by decide +kernel), ⟨by decide +kernel, by decide +kernel⟩, by decide +kernel⟩
set_option maxRecDepth 100000 in
theorem in_X0_take : Cond.instanceMethod yX0_take ∈ gtb := gtb_of 582 (by decide +kernel) (by decide +kernel)
set_option maxRecDepth 100000 in
theorem se_X0_take : Cond.selects yX0_take.cls yX0_take yX0_take ∈ gtb := gtb_of 583 (by decide +kernel) (by decide +kernel)
set_option maxRecDepth 100000 in
theorem mf_X0_load : MF yX0_load cX0_load 6 (some .int) 1 := ⟨gtb_of 589 (by decide +kernel) (by decide +kernel), gtb_of 53 (by decide +kernel) (by decide +kernel), ⟨by decide +kernel, by decide +kernel⟩, by decide +kernel⟩
set_option maxRecDepth 100000 in
theorem in_X0_load : Cond.instanceMethod yX0_load ∈ gtb := gtb_of 588 (by decide +kernel) (by decide +kernel)
set_option maxRecDepth 100000 in
theorem se_X0_load : Cond.selects yX0_load.cls yX0_load yX0_load ∈ gtb := gtb_of 16 (by decide +kernel) (by decide +kernel)
set_option maxRecDepth 100000 in
theorem mf_X0_greatest : MF yX0_greatest cX0_greatest 4 (some .int) 0 := ⟨gtb_of 593 (by decide +kernel) (by decide +kernel), gtb_of 53 (by decide +kernel) (by decide +kernel), ⟨by decide +kernel, by decide +kernel⟩, by decide +kernel⟩
set_option maxRecDepth 100000 in
theorem in_X0_greatest : Cond.instanceMethod yX0_greatest ∈ gtb := gtb_of 592 (by decide +kernel) (by decide +kernel)
set_option maxRecDepth 100000 in
theorem se_X0_greatest : Cond.selects yX0_greatest.cls yX0_greatest yX0_greatest ∈ gtb := gtb_of 17 (by decide +kernel) (by decide +kernel)
set_option maxRecDepth 100000 in
theorem mf_X0_join : MF yX0_join cX0_join 5 none 2 := ⟨gtb_of 597 (by decide +kernel) (by decide +kernel), gtb_of 53 (by decide +kernel) (by decide +kernel), ⟨by decide +kernel, by decide +kernel⟩, by decide +kernel⟩
set_option maxRecDepth 100000 in
theorem in_X0_join : Cond.instanceMethod yX0_join ∈ gtb := gtb_of 596 (by decide +kernel) (by decide +kernel)
set_option maxRecDepth 100000 in
theorem se_X0_join : Cond.selects yX0_join.cls yX0_join yX0_join ∈ gtb := gtb_of 18 (by decide +kernel) (by decide +kernel)
set_option maxRecDepth 100000 in
theorem mf_X0_has : MF yX0_has cX0_has 3 (some .boolean) 2 := ⟨gtb_of 601 (by decide +kernel) (by decide +kernel), gtb_of 53 (by decide +kernel) (by decide +kernel), ⟨by decide +kernel, by decide +kernel⟩, by decide +kernel⟩
set_option maxRecDepth 100000 in
theorem in_X0_has : Cond.instanceMethod yX0_has ∈ gtb := gtb_of 599 (by decide +kernel) (by decide +kernel)
set_option maxRecDepth 100000 in
theorem se_X0_has : Cond.selects yX0_has.cls yX0_has yX0_has ∈ gtb := gtb_of 600 (by decide +kernel) (by decide +kernel)
set_option maxRecDepth 100000 in
theorem mf_X7_exchange : MF yX7_exchange cX7_exchange 4 (some .int) 2 := ⟨gtb_of 605 (by decide +kernel) (by decide +kernel), gtb_of 44 (by decide +kernel) (by decide +kernel), ⟨by decide +kernel, by decide +kernel⟩, by decide +kernel⟩
set_option maxRecDepth 100000 in
theorem in_X7_exchange : Cond.instanceMethod yX7_exchange ∈ gtb := gtb_of 603 (by decide +kernel) (by decide +kernel)
set_option maxRecDepth 100000 in
theorem se_X7_exchange : Cond.selects yX7_exchange.cls yX7_exchange yX7_exchange ∈ gtb := gtb_of 604 (by decide +kernel) (by decide +kernel)
set_option maxRecDepth 100000 in
theorem mf_X7_hand : MF yX7_hand cX7_hand 2 (some .int) 1 := ⟨gtb_of 609 (by decide +kernel) (by decide +kernel), gtb_of 44 (by decide +kernel) (by decide +kernel), ⟨by decide +kernel, by decide +kernel⟩, by decide +kernel⟩
set_option maxRecDepth 100000 in
theorem in_X7_hand : Cond.instanceMethod yX7_hand ∈ gtb := gtb_of 607 (by decide +kernel) (by decide +kernel)
set_option maxRecDepth 100000 in
theorem se_X7_hand : Cond.selects yX7_hand.cls yX7_hand yX7_hand ∈ gtb := gtb_of 608 (by decide +kernel) (by decide +kernel)
set_option maxRecDepth 100000 in
theorem mf_X7_count : MF yX7_count cX7_count 2 (some .int) 1 := ⟨gtb_of 615 (by decide +kernel) (by decide +kernel), gtb_of 44 (by decide +kernel) (by decide +kernel), ⟨by decide +kernel, by decide +kernel⟩, by decide +kernel⟩
set_option maxRecDepth 100000 in
theorem in_X7_count : Cond.instanceMethod yX7_count ∈ gtb := gtb_of 613 (by decide +kernel) (by decide +kernel)
set_option maxRecDepth 100000 in
theorem se_X7_count : Cond.selects yX7_count.cls yX7_count yX7_count ∈ gtb := gtb_of 614 (by decide +kernel) (by decide +kernel)
set_option maxRecDepth 100000 in
theorem mf_X7_first : MF yX7_first cX7_first 1 (some .int) 0 := ⟨gtb_of 619 (by decide +kernel) (by decide +kernel), gtb_of 44 (by decide +kernel) (by decide +kernel), ⟨by decide +kernel, by decide +kernel⟩, by decide +kernel⟩
set_option maxRecDepth 100000 in
theorem in_X7_first : Cond.instanceMethod yX7_first ∈ gtb := gtb_of 618 (by decide +kernel) (by decide +kernel)
set_option maxRecDepth 100000 in
theorem se_X7_first : Cond.selects yX7_first.cls yX7_first yX7_first ∈ gtb := gtb_of 19 (by decide +kernel) (by decide +kernel)
set_option maxRecDepth 100000 in
theorem mf_X0_leftByGreatest : MF yX0_leftByGreatest cX0_leftByGreatest 6 (some .int) 2 := ⟨gtb_of 624 (by decide +kernel) (by decide +kernel), gtb_of 53 (by decide +kernel) (by decide +kernel), ⟨by decide +kernel, by decide +kernel⟩, by decide +kernel⟩
set_option maxRecDepth 100000 in
theorem in_X0_leftByGreatest : Cond.instanceMethod yX0_leftByGreatest ∈ gtb := gtb_of 622 (by decide +kernel) (by decide +kernel)
set_option maxRecDepth 100000 in
theorem se_X0_leftByGreatest : Cond.selects yX0_leftByGreatest.cls yX0_leftByGreatest yX0_leftByGreatest ∈ gtb := gtb_of 623 (by decide +kernel) (by decide +kernel)
set_option maxRecDepth 100000 in
theorem mf_X7_image : MF yX7_image cX7_image 2 (some .int) 1 := ⟨gtb_of 628 (by decide +kernel) (by decide +kernel), gtb_of 44 (by decide +kernel) (by decide +kernel), ⟨by decide +kernel, by decide +kernel⟩, by decide +kernel⟩
set_option maxRecDepth 100000 in
theorem in_X7_image : Cond.instanceMethod yX7_image ∈ gtb := gtb_of 626 (by decide +kernel) (by decide +kernel)
set_option maxRecDepth 100000 in
theorem se_X7_image : Cond.selects yX7_image.cls yX7_image yX7_image ∈ gtb := gtb_of 627 (by decide +kernel) (by decide +kernel)
set_option maxRecDepth 100000 in
theorem mf_X5_copyFrom : MF yX5_copyFrom cX5_copyFrom 2 none 1 := ⟨gtb_of 632 (by decide +kernel) (by decide +kernel), gtb_of 45 (by decide +kernel) (by decide +kernel), ⟨by decide +kernel, by decide +kernel⟩, by decide +kernel⟩
set_option maxRecDepth 100000 in
theorem in_X5_copyFrom : Cond.instanceMethod yX5_copyFrom ∈ gtb := gtb_of 630 (by decide +kernel) (by decide +kernel)
set_option maxRecDepth 100000 in
theorem se_X5_copyFrom : Cond.selects yX5_copyFrom.cls yX5_copyFrom yX5_copyFrom ∈ gtb := gtb_of 631 (by decide +kernel) (by decide +kernel)
set_option maxRecDepth 100000 in
theorem mf_X7_restore : MF yX7_restore cX7_restore 2 (some .int) 1 := ⟨gtb_of 636 (by decide +kernel) (by decide +kernel), gtb_of 44 (by decide +kernel) (by decide +kernel), ⟨by decide +kernel, by decide +kernel⟩, by decide +kernel⟩
set_option maxRecDepth 100000 in
theorem in_X7_restore : Cond.instanceMethod yX7_restore ∈ gtb := gtb_of 634 (by decide +kernel) (by decide +kernel)
set_option maxRecDepth 100000 in
theorem se_X7_restore : Cond.selects yX7_restore.cls yX7_restore yX7_restore ∈ gtb := gtb_of 635 (by decide +kernel) (by decide +kernel)
set_option maxRecDepth 100000 in
theorem mf_X8_put : MF yX8_put cX8_put 5 (some .int) 4 := ⟨gtb_of 734 (by decide +kernel) (by decide +kernel), gtb_of 54 (by decide +kernel) (by decide +kernel), ⟨by decide +kernel, by decide +kernel⟩, by decide +kernel⟩
set_option maxRecDepth 100000 in
theorem in_X8_put : Cond.instanceMethod yX8_put ∈ gtb := gtb_of 732 (by decide +kernel) (by decide +kernel)
set_option maxRecDepth 100000 in
theorem se_X8_put : Cond.selects yX8_put.cls yX8_put yX8_put ∈ gtb := gtb_of 733 (by decide +kernel) (by decide +kernel)
set_option maxRecDepth 100000 in
theorem mf_X8_in : MF yX8_in cX8_in 3 (some .boolean) 3 := ⟨gtb_of 737 (by decide +kernel) (by decide +kernel), gtb_of 54 (by decide +kernel) (by decide +kernel), ⟨by decide +kernel, by decide +kernel⟩, by decide +kernel⟩
set_option maxRecDepth 100000 in
theorem sm_X8_in : Cond.static yX8_in ∈ gtb := gtb_of 736 (by decide +kernel) (by decide +kernel)
set_option maxRecDepth 100000 in
theorem mf_X8_isVariable : MF yX8_isVariable cX8_isVariable 1 (some .boolean) 1 := ⟨gtb_of 740 (by decide +kernel) (by decide +kernel), gtb_of 54 (by decide +kernel) (by decide +kernel), ⟨by decide +kernel, by decide +kernel⟩, by decide +kernel⟩
set_option maxRecDepth 100000 in
theorem sm_X8_isVariable : Cond.static yX8_isVariable ∈ gtb := gtb_of 739 (by decide +kernel) (by decide +kernel)
set_option maxRecDepth 100000 in
theorem mf_X8_change : MF yX8_change cX8_change 1 none 0 := ⟨gtb_of 744 (by decide +kernel) (by decide +kernel), gtb_of 54 (by decide +kernel) (by decide +kernel), ⟨by decide +kernel, by decide +kernel⟩, by decide +kernel⟩
set_option maxRecDepth 100000 in
theorem in_X8_change : Cond.instanceMethod yX8_change ∈ gtb := gtb_of 743 (by decide +kernel) (by decide +kernel)
set_option maxRecDepth 100000 in
theorem se_X8_change : Cond.selects yX8_change.cls yX8_change yX8_change ∈ gtb := gtb_of 20 (by decide +kernel) (by decide +kernel)
set_option maxRecDepth 100000 in
theorem mf_X8_drop : MF yX8_drop cX8_drop 3 (some .int) 1 := ⟨gtb_of 748 (by decide +kernel) (by decide +kernel), gtb_of 54 (by decide +kernel) (by decide +kernel), ⟨by decide +kernel, by decide +kernel⟩, by decide +kernel⟩
set_option maxRecDepth 100000 in
theorem in_X8_drop : Cond.instanceMethod yX8_drop ∈ gtb := gtb_of 746 (by decide +kernel) (by decide +kernel)
set_option maxRecDepth 100000 in
theorem se_X8_drop : Cond.selects yX8_drop.cls yX8_drop yX8_drop ∈ gtb := gtb_of 747 (by decide +kernel) (by decide +kernel)
set_option maxRecDepth 100000 in
theorem mf_X8_isStatement : MF yX8_isStatement cX8_isStatement 2 (some .boolean) 1 := ⟨gtb_of 752 (by decide +kernel) (by decide +kernel), gtb_of 54 (by decide +kernel) (by decide +kernel), ⟨by decide +kernel, by decide +kernel⟩, by decide +kernel⟩
set_option maxRecDepth 100000 in
theorem in_X8_isStatement : Cond.instanceMethod yX8_isStatement ∈ gtb := gtb_of 751 (by decide +kernel) (by decide +kernel)
set_option maxRecDepth 100000 in
theorem se_X8_isStatement : Cond.selects yX8_isStatement.cls yX8_isStatement yX8_isStatement ∈ gtb := gtb_of 21 (by decide +kernel) (by decide +kernel)
set_option maxRecDepth 100000 in
theorem mf_X8_cross : MF yX8_cross cX8_cross 3 (some .int) 1 := ⟨gtb_of 756 (by decide +kernel) (by decide +kernel), gtb_of 54 (by decide +kernel) (by decide +kernel), ⟨by decide +kernel, by decide +kernel⟩, by decide +kernel⟩
set_option maxRecDepth 100000 in
theorem in_X8_cross : Cond.instanceMethod yX8_cross ∈ gtb := gtb_of 754 (by decide +kernel) (by decide +kernel)
set_option maxRecDepth 100000 in
theorem se_X8_cross : Cond.selects yX8_cross.cls yX8_cross yX8_cross ∈ gtb := gtb_of 755 (by decide +kernel) (by decide +kernel)
set_option maxRecDepth 100000 in
theorem mf_X8_told : MF yX8_told cX8_told 3 (some .int) 2 := ⟨gtb_of 760 (by decide +kernel) (by decide +kernel), gtb_of 54 (by decide +kernel) (by decide +kernel), ⟨by decide +kernel, by decide +kernel⟩, by decide +kernel⟩
set_option maxRecDepth 100000 in
theorem in_X8_told : Cond.instanceMethod yX8_told ∈ gtb := gtb_of 758 (by decide +kernel) (by decide +kernel)
set_option maxRecDepth 100000 in
theorem se_X8_told : Cond.selects yX8_told.cls yX8_told yX8_told ∈ gtb := gtb_of 759 (by decide +kernel) (by decide +kernel)
set_option maxRecDepth 100000 in
theorem mf_X8_free : MF yX8_free cX8_free 5 (some .int) 2 := ⟨gtb_of 764 (by decide +kernel) (by decide +kernel), gtb_of 54 (by decide +kernel) (by decide +kernel), ⟨by decide +kernel, by decide +kernel⟩, by decide +kernel⟩
set_option maxRecDepth 100000 in
theorem in_X8_free : Cond.instanceMethod yX8_free ∈ gtb := gtb_of 762 (by decide +kernel) (by decide +kernel)
set_option maxRecDepth 100000 in
theorem se_X8_free : Cond.selects yX8_free.cls yX8_free yX8_free ∈ gtb := gtb_of 763 (by decide +kernel) (by decide +kernel)
set_option maxRecDepth 100000 in
theorem mf_X8_set : MF yX8_set cX8_set 5 (some .int) 2 := ⟨gtb_of 768 (by decide +kernel) (by decide +kernel), gtb_of 54 (by decide +kernel) (by decide +kernel), ⟨by decide +kernel, by decide +kernel⟩, by decide +kernel⟩
set_option maxRecDepth 100000 in
theorem in_X8_set : Cond.instanceMethod yX8_set ∈ gtb := gtb_of 766 (by decide +kernel) (by decide +kernel)
set_option maxRecDepth 100000 in
theorem se_X8_set : Cond.selects yX8_set.cls yX8_set yX8_set ∈ gtb := gtb_of 767 (by decide +kernel) (by decide +kernel)
set_option maxRecDepth 100000 in
theorem mf_X8_value : MF yX8_value cX8_value 2 (some .long) 1 := ⟨gtb_of 772 (by decide +kernel) (by decide +kernel), gtb_of 54 (by decide +kernel) (by decide +kernel), ⟨by decide +kernel, by decide +kernel⟩, by decide +kernel⟩
set_option maxRecDepth 100000 in
theorem in_X8_value : Cond.instanceMethod yX8_value ∈ gtb := gtb_of 770 (by decide +kernel) (by decide +kernel)
set_option maxRecDepth 100000 in
theorem se_X8_value : Cond.selects yX8_value.cls yX8_value yX8_value ∈ gtb := gtb_of 771 (by decide +kernel) (by decide +kernel)
set_option maxRecDepth 100000 in
theorem mf_X8_sight : MF yX8_sight cX8_sight 2 (some .int) 1 := ⟨gtb_of 777 (by decide +kernel) (by decide +kernel), gtb_of 54 (by decide +kernel) (by decide +kernel), ⟨by decide +kernel, by decide +kernel⟩, by decide +kernel⟩
set_option maxRecDepth 100000 in
theorem in_X8_sight : Cond.instanceMethod yX8_sight ∈ gtb := gtb_of 775 (by decide +kernel) (by decide +kernel)
set_option maxRecDepth 100000 in
theorem se_X8_sight : Cond.selects yX8_sight.cls yX8_sight yX8_sight ∈ gtb := gtb_of 776 (by decide +kernel) (by decide +kernel)
set_option maxRecDepth 100000 in
theorem mf_X8_layLine : MF yX8_layLine cX8_layLine 5 (some .int) 1 := ⟨gtb_of 781 (by decide +kernel) (by decide +kernel), gtb_of 54 (by decide +kernel) (by decide +kernel), ⟨by decide +kernel, by decide +kernel⟩, by decide +kernel⟩
set_option maxRecDepth 100000 in
theorem in_X8_layLine : Cond.instanceMethod yX8_layLine ∈ gtb := gtb_of 780 (by decide +kernel) (by decide +kernel)
set_option maxRecDepth 100000 in
theorem se_X8_layLine : Cond.selects yX8_layLine.cls yX8_layLine yX8_layLine ∈ gtb := gtb_of 22 (by decide +kernel) (by decide +kernel)
set_option maxRecDepth 100000 in
theorem mf_X8_has : MF yX8_has cX8_has 2 (some .boolean) 2 := ⟨gtb_of 784 (by decide +kernel) (by decide +kernel), gtb_of 54 (by decide +kernel) (by decide +kernel), ⟨by decide +kernel, by decide +kernel⟩, by decide +kernel⟩
set_option maxRecDepth 100000 in
theorem sm_X8_has : Cond.static yX8_has ∈ gtb := gtb_of 783 (by decide +kernel) (by decide +kernel)
set_option maxRecDepth 100000 in
theorem mf_X8_seen : MF yX8_seen cX8_seen 4 (some .int) 3 := ⟨gtb_of 788 (by decide +kernel) (by decide +kernel), gtb_of 54 (by decide +kernel) (by decide +kernel), ⟨by decide +kernel, by decide +kernel⟩, by decide +kernel⟩
set_option maxRecDepth 100000 in
theorem in_X8_seen : Cond.instanceMethod yX8_seen ∈ gtb := gtb_of 787 (by decide +kernel) (by decide +kernel)
set_option maxRecDepth 100000 in
theorem se_X8_seen : Cond.selects yX8_seen.cls yX8_seen yX8_seen ∈ gtb := gtb_of 23 (by decide +kernel) (by decide +kernel)
set_option maxRecDepth 100000 in
theorem mf_X8_plan : MF yX8_plan cX8_plan 5 (some .int) 3 := ⟨gtb_of 792 (by decide +kernel) (by decide +kernel), gtb_of 54 (by decide +kernel) (by decide +kernel), ⟨by decide +kernel, by decide +kernel⟩, by decide +kernel⟩
set_option maxRecDepth 100000 in
theorem in_X8_plan : Cond.instanceMethod yX8_plan ∈ gtb := gtb_of 790 (by decide +kernel) (by decide +kernel)
set_option maxRecDepth 100000 in
theorem se_X8_plan : Cond.selects yX8_plan.cls yX8_plan yX8_plan ∈ gtb := gtb_of 791 (by decide +kernel) (by decide +kernel)
set_option maxRecDepth 100000 in
theorem mf_X8_isAsked : MF yX8_isAsked cX8_isAsked 2 (some .boolean) 2 := ⟨gtb_of 795 (by decide +kernel) (by decide +kernel), gtb_of 54 (by decide +kernel) (by decide +kernel), ⟨by decide +kernel, by decide +kernel⟩, by decide +kernel⟩
set_option maxRecDepth 100000 in
theorem sm_X8_isAsked : Cond.static yX8_isAsked ∈ gtb := gtb_of 794 (by decide +kernel) (by decide +kernel)
set_option maxRecDepth 100000 in
theorem mf_X8_layPlan : MF yX8_layPlan cX8_layPlan 8 none 2 := ⟨gtb_of 799 (by decide +kernel) (by decide +kernel), gtb_of 54 (by decide +kernel) (by decide +kernel), ⟨by decide +kernel, by decide +kernel⟩, by decide +kernel⟩
set_option maxRecDepth 100000 in
theorem in_X8_layPlan : Cond.instanceMethod yX8_layPlan ∈ gtb := gtb_of 798 (by decide +kernel) (by decide +kernel)
set_option maxRecDepth 100000 in
theorem se_X8_layPlan : Cond.selects yX8_layPlan.cls yX8_layPlan yX8_layPlan ∈ gtb := gtb_of 24 (by decide +kernel) (by decide +kernel)
set_option maxRecDepth 100000 in
theorem mf_X8_laySets : MF yX8_laySets cX8_laySets 4 none 1 := ⟨gtb_of 803 (by decide +kernel) (by decide +kernel), gtb_of 54 (by decide +kernel) (by decide +kernel), ⟨by decide +kernel, by decide +kernel⟩, by decide +kernel⟩
set_option maxRecDepth 100000 in
theorem in_X8_laySets : Cond.instanceMethod yX8_laySets ∈ gtb := gtb_of 802 (by decide +kernel) (by decide +kernel)
set_option maxRecDepth 100000 in
theorem se_X8_laySets : Cond.selects yX8_laySets.cls yX8_laySets yX8_laySets ∈ gtb := gtb_of 25 (by decide +kernel) (by decide +kernel)
set_option maxRecDepth 100000 in
theorem mf_X8_usedOnes : MF yX8_usedOnes cX8_usedOnes 4 (some .int) 0 := ⟨gtb_of 807 (by decide +kernel) (by decide +kernel), gtb_of 54 (by decide +kernel) (by decide +kernel), ⟨by decide +kernel, by decide +kernel⟩, by decide +kernel⟩
set_option maxRecDepth 100000 in
theorem in_X8_usedOnes : Cond.instanceMethod yX8_usedOnes ∈ gtb := gtb_of 806 (by decide +kernel) (by decide +kernel)
set_option maxRecDepth 100000 in
theorem se_X8_usedOnes : Cond.selects yX8_usedOnes.cls yX8_usedOnes yX8_usedOnes ∈ gtb := gtb_of 26 (by decide +kernel) (by decide +kernel)
set_option maxRecDepth 100000 in
theorem mf_X8_laySet : MF yX8_laySet cX8_laySet 8 none 2 := ⟨gtb_of 811 (by decide +kernel) (by decide +kernel), gtb_of 54 (by decide +kernel) (by decide +kernel), ⟨by decide +kernel, by decide +kernel⟩, by decide +kernel⟩
set_option maxRecDepth 100000 in
theorem in_X8_laySet : Cond.instanceMethod yX8_laySet ∈ gtb := gtb_of 810 (by decide +kernel) (by decide +kernel)
set_option maxRecDepth 100000 in
theorem se_X8_laySet : Cond.selects yX8_laySet.cls yX8_laySet yX8_laySet ∈ gtb := gtb_of 27 (by decide +kernel) (by decide +kernel)
set_option maxRecDepth 100000 in
theorem mf_X8_layPay : MF yX8_layPay cX8_layPay 7 (some .int) 2 := ⟨gtb_of 815 (by decide +kernel) (by decide +kernel), gtb_of 54 (by decide +kernel) (by decide +kernel), ⟨by decide +kernel, by decide +kernel⟩, by decide +kernel⟩
set_option maxRecDepth 100000 in
theorem in_X8_layPay : Cond.instanceMethod yX8_layPay ∈ gtb := gtb_of 814 (by decide +kernel) (by decide +kernel)
set_option maxRecDepth 100000 in
theorem se_X8_layPay : Cond.selects yX8_layPay.cls yX8_layPay yX8_layPay ∈ gtb := gtb_of 28 (by decide +kernel) (by decide +kernel)
set_option maxRecDepth 100000 in
theorem mf_X8_payBehind : MF yX8_payBehind cX8_payBehind 6 (some .int) 4 := ⟨gtb_of 819 (by decide +kernel) (by decide +kernel), gtb_of 54 (by decide +kernel) (by decide +kernel), ⟨by decide +kernel, by decide +kernel⟩, by decide +kernel⟩
set_option maxRecDepth 100000 in
theorem in_X8_payBehind : Cond.instanceMethod yX8_payBehind ∈ gtb := gtb_of 818 (by decide +kernel) (by decide +kernel)
set_option maxRecDepth 100000 in
theorem se_X8_payBehind : Cond.selects yX8_payBehind.cls yX8_payBehind yX8_payBehind ∈ gtb := gtb_of 29 (by decide +kernel) (by decide +kernel)
set_option maxRecDepth 100000 in
theorem mf_X8_costOf : MF yX8_costOf cX8_costOf 8 (some .int) 4 := ⟨gtb_of 823 (by decide +kernel) (by decide +kernel), gtb_of 54 (by decide +kernel) (by decide +kernel), ⟨by decide +kernel, by decide +kernel⟩, by decide +kernel⟩
set_option maxRecDepth 100000 in
theorem in_X8_costOf : Cond.instanceMethod yX8_costOf ∈ gtb := gtb_of 822 (by decide +kernel) (by decide +kernel)
set_option maxRecDepth 100000 in
theorem se_X8_costOf : Cond.selects yX8_costOf.cls yX8_costOf yX8_costOf ∈ gtb := gtb_of 30 (by decide +kernel) (by decide +kernel)
set_option maxRecDepth 100000 in
theorem mf_X8_isFar : MF yX8_isFar cX8_isFar 4 (some .boolean) 2 := ⟨gtb_of 827 (by decide +kernel) (by decide +kernel), gtb_of 54 (by decide +kernel) (by decide +kernel), ⟨by decide +kernel, by decide +kernel⟩, by decide +kernel⟩
set_option maxRecDepth 100000 in
theorem in_X8_isFar : Cond.instanceMethod yX8_isFar ∈ gtb := gtb_of 826 (by decide +kernel) (by decide +kernel)
set_option maxRecDepth 100000 in
theorem se_X8_isFar : Cond.selects yX8_isFar.cls yX8_isFar yX8_isFar ∈ gtb := gtb_of 31 (by decide +kernel) (by decide +kernel)
set_option maxRecDepth 100000 in
theorem mf_X8_canTurn : MF yX8_canTurn cX8_canTurn 2 (some .boolean) 1 := ⟨gtb_of 831 (by decide +kernel) (by decide +kernel), gtb_of 54 (by decide +kernel) (by decide +kernel), ⟨by decide +kernel, by decide +kernel⟩, by decide +kernel⟩
set_option maxRecDepth 100000 in
theorem in_X8_canTurn : Cond.instanceMethod yX8_canTurn ∈ gtb := gtb_of 830 (by decide +kernel) (by decide +kernel)
set_option maxRecDepth 100000 in
theorem se_X8_canTurn : Cond.selects yX8_canTurn.cls yX8_canTurn yX8_canTurn ∈ gtb := gtb_of 32 (by decide +kernel) (by decide +kernel)
set_option maxRecDepth 100000 in
theorem mf_X8_isNext : MF yX8_isNext cX8_isNext 6 (some .boolean) 1 := ⟨gtb_of 835 (by decide +kernel) (by decide +kernel), gtb_of 54 (by decide +kernel) (by decide +kernel), ⟨by decide +kernel, by decide +kernel⟩, by decide +kernel⟩
set_option maxRecDepth 100000 in
theorem in_X8_isNext : Cond.instanceMethod yX8_isNext ∈ gtb := gtb_of 834 (by decide +kernel) (by decide +kernel)
set_option maxRecDepth 100000 in
theorem se_X8_isNext : Cond.selects yX8_isNext.cls yX8_isNext yX8_isNext ∈ gtb := gtb_of 33 (by decide +kernel) (by decide +kernel)
set_option maxRecDepth 100000 in
theorem mf_X8_swap : MF yX8_swap cX8_swap 4 none 2 := ⟨gtb_of 839 (by decide +kernel) (by decide +kernel), gtb_of 54 (by decide +kernel) (by decide +kernel), ⟨by decide +kernel, by decide +kernel⟩, by decide +kernel⟩
set_option maxRecDepth 100000 in
theorem in_X8_swap : Cond.instanceMethod yX8_swap ∈ gtb := gtb_of 838 (by decide +kernel) (by decide +kernel)
set_option maxRecDepth 100000 in
theorem se_X8_swap : Cond.selects yX8_swap.cls yX8_swap yX8_swap ∈ gtb := gtb_of 34 (by decide +kernel) (by decide +kernel)
set_option maxRecDepth 100000 in
theorem mf_X8_bits : MF yX8_bits cX8_bits 3 (some .int) 1 := ⟨gtb_of 842 (by decide +kernel) (by decide +kernel), gtb_of 54 (by decide +kernel) (by decide +kernel), ⟨by decide +kernel, by decide +kernel⟩, by decide +kernel⟩
set_option maxRecDepth 100000 in
theorem sm_X8_bits : Cond.static yX8_bits ∈ gtb := gtb_of 841 (by decide +kernel) (by decide +kernel)
set_option maxRecDepth 100000 in
theorem mf_X8_power : MF yX8_power cX8_power 4 (some .int) 2 := ⟨gtb_of 845 (by decide +kernel) (by decide +kernel), gtb_of 54 (by decide +kernel) (by decide +kernel), ⟨by decide +kernel, by decide +kernel⟩, by decide +kernel⟩
set_option maxRecDepth 100000 in
theorem sm_X8_power : Cond.static yX8_power ∈ gtb := gtb_of 844 (by decide +kernel) (by decide +kernel)
set_option maxRecDepth 100000 in
theorem mf_X8_part : MF yX8_part cX8_part 6 none 3 := ⟨gtb_of 849 (by decide +kernel) (by decide +kernel), gtb_of 54 (by decide +kernel) (by decide +kernel), ⟨by decide +kernel, by decide +kernel⟩, by decide +kernel⟩
set_option maxRecDepth 100000 in
theorem in_X8_part : Cond.instanceMethod yX8_part ∈ gtb := gtb_of 848 (by decide +kernel) (by decide +kernel)
set_option maxRecDepth 100000 in
theorem se_X8_part : Cond.selects yX8_part.cls yX8_part yX8_part ∈ gtb := gtb_of 35 (by decide +kernel) (by decide +kernel)
set_option maxRecDepth 100000 in
theorem mf_X8_costNow : MF yX8_costNow cX8_costNow 2 (some .int) 1 := ⟨gtb_of 853 (by decide +kernel) (by decide +kernel), gtb_of 54 (by decide +kernel) (by decide +kernel), ⟨by decide +kernel, by decide +kernel⟩, by decide +kernel⟩
set_option maxRecDepth 100000 in
theorem in_X8_costNow : Cond.instanceMethod yX8_costNow ∈ gtb := gtb_of 852 (by decide +kernel) (by decide +kernel)
set_option maxRecDepth 100000 in
theorem se_X8_costNow : Cond.selects yX8_costNow.cls yX8_costNow yX8_costNow ∈ gtb := gtb_of 36 (by decide +kernel) (by decide +kernel)
set_option maxRecDepth 100000 in
theorem mf_X8_turnedFor : MF yX8_turnedFor cX8_turnedFor 7 (some .int) 2 := ⟨gtb_of 857 (by decide +kernel) (by decide +kernel), gtb_of 54 (by decide +kernel) (by decide +kernel), ⟨by decide +kernel, by decide +kernel⟩, by decide +kernel⟩
set_option maxRecDepth 100000 in
theorem in_X8_turnedFor : Cond.instanceMethod yX8_turnedFor ∈ gtb := gtb_of 856 (by decide +kernel) (by decide +kernel)
set_option maxRecDepth 100000 in
theorem se_X8_turnedFor : Cond.selects yX8_turnedFor.cls yX8_turnedFor yX8_turnedFor ∈ gtb := gtb_of 37 (by decide +kernel) (by decide +kernel)
set_option maxRecDepth 100000 in
theorem mf_X8_place : MF yX8_place cX8_place 5 (some .int) 4 := ⟨gtb_of 861 (by decide +kernel) (by decide +kernel), gtb_of 54 (by decide +kernel) (by decide +kernel), ⟨by decide +kernel, by decide +kernel⟩, by decide +kernel⟩
set_option maxRecDepth 100000 in
theorem in_X8_place : Cond.instanceMethod yX8_place ∈ gtb := gtb_of 859 (by decide +kernel) (by decide +kernel)
set_option maxRecDepth 100000 in
theorem se_X8_place : Cond.selects yX8_place.cls yX8_place yX8_place ∈ gtb := gtb_of 860 (by decide +kernel) (by decide +kernel)
set_option maxRecDepth 100000 in
theorem mf_X8_step : MF yX8_step cX8_step 8 (some .int) 4 := ⟨gtb_of 865 (by decide +kernel) (by decide +kernel), gtb_of 54 (by decide +kernel) (by decide +kernel), ⟨by decide +kernel, by decide +kernel⟩, by decide +kernel⟩
set_option maxRecDepth 100000 in
theorem in_X8_step : Cond.instanceMethod yX8_step ∈ gtb := gtb_of 863 (by decide +kernel) (by decide +kernel)
set_option maxRecDepth 100000 in
theorem se_X8_step : Cond.selects yX8_step.cls yX8_step yX8_step ∈ gtb := gtb_of 864 (by decide +kernel) (by decide +kernel)
set_option maxRecDepth 100000 in
theorem mf_X8_run : MF yX8_run cX8_run 6 (some .int) 2 := ⟨gtb_of 869 (by decide +kernel) (by decide +kernel), gtb_of 54 (by decide +kernel) (by decide +kernel), ⟨by decide +kernel, by decide +kernel⟩, by decide +kernel⟩
set_option maxRecDepth 100000 in
theorem in_X8_run : Cond.instanceMethod yX8_run ∈ gtb := gtb_of 867 (by decide +kernel) (by decide +kernel)
set_option maxRecDepth 100000 in
theorem se_X8_run : Cond.selects yX8_run.cls yX8_run yX8_run ∈ gtb := gtb_of 868 (by decide +kernel) (by decide +kernel)
set_option maxRecDepth 100000 in
theorem mf_X8_weight : MF yX8_weight cX8_weight 3 (some .int) 2 := ⟨gtb_of 873 (by decide +kernel) (by decide +kernel), gtb_of 54 (by decide +kernel) (by decide +kernel), ⟨by decide +kernel, by decide +kernel⟩, by decide +kernel⟩
set_option maxRecDepth 100000 in
theorem in_X8_weight : Cond.instanceMethod yX8_weight ∈ gtb := gtb_of 871 (by decide +kernel) (by decide +kernel)
set_option maxRecDepth 100000 in
theorem se_X8_weight : Cond.selects yX8_weight.cls yX8_weight yX8_weight ∈ gtb := gtb_of 872 (by decide +kernel) (by decide +kernel)
set_option maxRecDepth 100000 in
theorem mf_X8_layWeights : MF yX8_layWeights cX8_layWeights 3 none 0 := ⟨gtb_of 877 (by decide +kernel) (by decide +kernel), gtb_of 54 (by decide +kernel) (by decide +kernel), ⟨by decide +kernel, by decide +kernel⟩, by decide +kernel⟩
set_option maxRecDepth 100000 in
theorem in_X8_layWeights : Cond.instanceMethod yX8_layWeights ∈ gtb := gtb_of 876 (by decide +kernel) (by decide +kernel)
set_option maxRecDepth 100000 in
theorem se_X8_layWeights : Cond.selects yX8_layWeights.cls yX8_layWeights yX8_layWeights ∈ gtb := gtb_of 38 (by decide +kernel) (by decide +kernel)
set_option maxRecDepth 100000 in
theorem mf_X8_taken : MF yX8_taken cX8_taken 3 (some .int) 2 := ⟨gtb_of 881 (by decide +kernel) (by decide +kernel), gtb_of 54 (by decide +kernel) (by decide +kernel), ⟨by decide +kernel, by decide +kernel⟩, by decide +kernel⟩
set_option maxRecDepth 100000 in
theorem in_X8_taken : Cond.instanceMethod yX8_taken ∈ gtb := gtb_of 879 (by decide +kernel) (by decide +kernel)
set_option maxRecDepth 100000 in
theorem se_X8_taken : Cond.selects yX8_taken.cls yX8_taken yX8_taken ∈ gtb := gtb_of 880 (by decide +kernel) (by decide +kernel)
set_option maxRecDepth 100000 in
theorem mf_X8_layTaken : MF yX8_layTaken cX8_layTaken 6 none 0 := ⟨gtb_of 885 (by decide +kernel) (by decide +kernel), gtb_of 54 (by decide +kernel) (by decide +kernel), ⟨by decide +kernel, by decide +kernel⟩, by decide +kernel⟩
set_option maxRecDepth 100000 in
theorem in_X8_layTaken : Cond.instanceMethod yX8_layTaken ∈ gtb := gtb_of 884 (by decide +kernel) (by decide +kernel)
set_option maxRecDepth 100000 in
theorem se_X8_layTaken : Cond.selects yX8_layTaken.cls yX8_layTaken yX8_layTaken ∈ gtb := gtb_of 39 (by decide +kernel) (by decide +kernel)
set_option maxRecDepth 100000 in
theorem mf_X8_heaviest : MF yX8_heaviest cX8_heaviest 4 (some .int) 0 := ⟨gtb_of 889 (by decide +kernel) (by decide +kernel), gtb_of 54 (by decide +kernel) (by decide +kernel), ⟨by decide +kernel, by decide +kernel⟩, by decide +kernel⟩
set_option maxRecDepth 100000 in
theorem in_X8_heaviest : Cond.instanceMethod yX8_heaviest ∈ gtb := gtb_of 888 (by decide +kernel) (by decide +kernel)
set_option maxRecDepth 100000 in
theorem se_X8_heaviest : Cond.selects yX8_heaviest.cls yX8_heaviest yX8_heaviest ∈ gtb := gtb_of 40 (by decide +kernel) (by decide +kernel)
set_option maxRecDepth 100000 in
theorem mf_X8_exchange : MF yX8_exchange cX8_exchange 4 (some .int) 2 := ⟨gtb_of 893 (by decide +kernel) (by decide +kernel), gtb_of 54 (by decide +kernel) (by decide +kernel), ⟨by decide +kernel, by decide +kernel⟩, by decide +kernel⟩
set_option maxRecDepth 100000 in
theorem in_X8_exchange : Cond.instanceMethod yX8_exchange ∈ gtb := gtb_of 891 (by decide +kernel) (by decide +kernel)
set_option maxRecDepth 100000 in
theorem se_X8_exchange : Cond.selects yX8_exchange.cls yX8_exchange yX8_exchange ∈ gtb := gtb_of 892 (by decide +kernel) (by decide +kernel)
set_option maxRecDepth 100000 in
theorem mf_X8_hand : MF yX8_hand cX8_hand 3 (some .int) 1 := ⟨gtb_of 897 (by decide +kernel) (by decide +kernel), gtb_of 54 (by decide +kernel) (by decide +kernel), ⟨by decide +kernel, by decide +kernel⟩, by decide +kernel⟩
set_option maxRecDepth 100000 in
theorem in_X8_hand : Cond.instanceMethod yX8_hand ∈ gtb := gtb_of 895 (by decide +kernel) (by decide +kernel)
set_option maxRecDepth 100000 in
theorem se_X8_hand : Cond.selects yX8_hand.cls yX8_hand yX8_hand ∈ gtb := gtb_of 896 (by decide +kernel) (by decide +kernel)
set_option maxRecDepth 100000 in
theorem mf_X8_count : MF yX8_count cX8_count 2 (some .int) 1 := ⟨gtb_of 901 (by decide +kernel) (by decide +kernel), gtb_of 54 (by decide +kernel) (by decide +kernel), ⟨by decide +kernel, by decide +kernel⟩, by decide +kernel⟩
set_option maxRecDepth 100000 in
theorem in_X8_count : Cond.instanceMethod yX8_count ∈ gtb := gtb_of 899 (by decide +kernel) (by decide +kernel)
set_option maxRecDepth 100000 in
theorem se_X8_count : Cond.selects yX8_count.cls yX8_count yX8_count ∈ gtb := gtb_of 900 (by decide +kernel) (by decide +kernel)
set_option maxRecDepth 100000 in
theorem mf_X8_greedyCost : MF yX8_greedyCost cX8_greedyCost 3 (some .int) 0 := ⟨gtb_of 905 (by decide +kernel) (by decide +kernel), gtb_of 54 (by decide +kernel) (by decide +kernel), ⟨by decide +kernel, by decide +kernel⟩, by decide +kernel⟩
set_option maxRecDepth 100000 in
theorem in_X8_greedyCost : Cond.instanceMethod yX8_greedyCost ∈ gtb := gtb_of 904 (by decide +kernel) (by decide +kernel)
set_option maxRecDepth 100000 in
theorem se_X8_greedyCost : Cond.selects yX8_greedyCost.cls yX8_greedyCost yX8_greedyCost ∈ gtb := gtb_of 41 (by decide +kernel) (by decide +kernel)
set_option maxRecDepth 100000 in
theorem mf_X8_bound : MF yX8_bound cX8_bound 5 (some .int) 0 := ⟨gtb_of 909 (by decide +kernel) (by decide +kernel), gtb_of 54 (by decide +kernel) (by decide +kernel), ⟨by decide +kernel, by decide +kernel⟩, by decide +kernel⟩
set_option maxRecDepth 100000 in
theorem in_X8_bound : Cond.instanceMethod yX8_bound ∈ gtb := gtb_of 908 (by decide +kernel) (by decide +kernel)
set_option maxRecDepth 100000 in
theorem se_X8_bound : Cond.selects yX8_bound.cls yX8_bound yX8_bound ∈ gtb := gtb_of 42 (by decide +kernel) (by decide +kernel)
set_option maxRecDepth 100000 in
theorem mf_X8_image : MF yX8_image cX8_image 4 (some .int) 1 := ⟨gtb_of 913 (by decide +kernel) (by decide +kernel), gtb_of 54 (by decide +kernel) (by decide +kernel), ⟨by decide +kernel, by decide +kernel⟩, by decide +kernel⟩
set_option maxRecDepth 100000 in
theorem in_X8_image : Cond.instanceMethod yX8_image ∈ gtb := gtb_of 911 (by decide +kernel) (by decide +kernel)
set_option maxRecDepth 100000 in
theorem se_X8_image : Cond.selects yX8_image.cls yX8_image yX8_image ∈ gtb := gtb_of 912 (by decide +kernel) (by decide +kernel)
set_option maxRecDepth 100000 in
theorem mf_X8_restore : MF yX8_restore cX8_restore 4 (some .int) 1 := ⟨gtb_of 917 (by decide +kernel) (by decide +kernel), gtb_of 54 (by decide +kernel) (by decide +kernel), ⟨by decide +kernel, by decide +kernel⟩, by decide +kernel⟩
set_option maxRecDepth 100000 in
theorem in_X8_restore : Cond.instanceMethod yX8_restore ∈ gtb := gtb_of 915 (by decide +kernel) (by decide +kernel)
set_option maxRecDepth 100000 in
theorem se_X8_restore : Cond.selects yX8_restore.cls yX8_restore yX8_restore ∈ gtb := gtb_of 916 (by decide +kernel) (by decide +kernel)
set_option maxRecDepth 100000 in
theorem ini_Math : Cond.initialized "java/lang/Math" ∈ gtb := gtb_of 48 (by decide +kernel) (by decide +kernel)
set_option maxRecDepth 100000 in
theorem ini_System : Cond.initialized "java/lang/System" ∈ gtb := gtb_of 55 (by decide +kernel) (by decide +kernel)
set_option maxRecDepth 100000 in
theorem sm_copy : Cond.static arraycopyName ∈ gtb := gtb_of 386 (by decide +kernel) (by decide +kernel)
set_option maxRecDepth 100000 in
theorem nat_copy : Cond.native arraycopyName ∈ gtb := gtb_of 387 (by decide +kernel) (by decide +kernel)
set_option maxRecDepth 100000 in
theorem kc_X7_95 : Cond.constantLong RX7 95 (-10000000001) ∈ gtb := gtb_of 408 (by decide +kernel) (by decide +kernel)
set_option maxRecDepth 100000 in
theorem kc_J6_265 : Cond.constant RJ6 265 (1431655765) ∈ gtb := gtb_of 520 (by decide +kernel) (by decide +kernel)
set_option maxRecDepth 100000 in
theorem kc_J6_266 : Cond.constant RJ6 266 (858993459) ∈ gtb := gtb_of 521 (by decide +kernel) (by decide +kernel)
set_option maxRecDepth 100000 in
theorem kc_J6_267 : Cond.constant RJ6 267 (252645135) ∈ gtb := gtb_of 522 (by decide +kernel) (by decide +kernel)
set_option maxRecDepth 100000 in
theorem kc_X8_101 : Cond.constantLong RX8 101 (-10000000001) ∈ gtb := gtb_of 773 (by decide +kernel) (by decide +kernel)
end
