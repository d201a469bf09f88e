section
-- ===== PART A: goes FIRST, ahead of the names: the tables' words, and 'selects' of the private methods out of them =====
/-- a private method of a class that the tables say can be made, by its rows of tables_1 -/
def lw_okq (q : MethodName × Nat) : Prop := (q.1.cls ≠ "java/lang/invoke/MethodHandle" ∧ q.1.cls ≠ "java/lang/invoke/VarHandle") ∧ Cond.instantiable q.1.cls q.2 ∈ tables_1 ∧ Cond.privateMethod q.1 ∈ tables_1 ∧ Cond.instanceMethod q.1 ∈ tables_1
theorem lw_p0 : lw_okq (⟨"SymbolicChecker$Diagrams", "clearMarks", "()V"⟩, 12) := ⟨⟨by decide +kernel, by decide +kernel⟩, List.mem_of_getElem? (i := 20) (by decide +kernel), List.mem_of_getElem? (i := 88) (by decide +kernel), List.mem_of_getElem? (i := 89) (by decide +kernel)⟩
theorem lw_p1 : lw_okq (⟨"SymbolicChecker$Diagrams", "blameUnder", "(II)V"⟩, 12) := ⟨⟨by decide +kernel, by decide +kernel⟩, List.mem_of_getElem? (i := 20) (by decide +kernel), List.mem_of_getElem? (i := 92) (by decide +kernel), List.mem_of_getElem? (i := 93) (by decide +kernel)⟩
theorem lw_p2 : lw_okq (⟨"SymbolicChecker$Diagrams", "blame", "(I)V"⟩, 12) := ⟨⟨by decide +kernel, by decide +kernel⟩, List.mem_of_getElem? (i := 20) (by decide +kernel), List.mem_of_getElem? (i := 96) (by decide +kernel), List.mem_of_getElem? (i := 97) (by decide +kernel)⟩
theorem lw_p3 : lw_okq (⟨"SymbolicChecker$Diagrams", "found", "(IIII)I"⟩, 12) := ⟨⟨by decide +kernel, by decide +kernel⟩, List.mem_of_getElem? (i := 20) (by decide +kernel), List.mem_of_getElem? (i := 103) (by decide +kernel), List.mem_of_getElem? (i := 104) (by decide +kernel)⟩
theorem lw_p4 : lw_okq (⟨"java/lang/Throwable", "fillInStackTrace", "(I)Ljava/lang/Throwable;"⟩, 6) := ⟨⟨by decide +kernel, by decide +kernel⟩, List.mem_of_getElem? (i := 156) (by decide +kernel), List.mem_of_getElem? (i := 154) (by decide +kernel), List.mem_of_getElem? (i := 155) (by decide +kernel)⟩
theorem lw_p5 : lw_okq (⟨"SymbolicChecker$Diagrams", "node", "(III)I"⟩, 12) := ⟨⟨by decide +kernel, by decide +kernel⟩, List.mem_of_getElem? (i := 20) (by decide +kernel), List.mem_of_getElem? (i := 194) (by decide +kernel), List.mem_of_getElem? (i := 195) (by decide +kernel)⟩
theorem lw_p6 : lw_okq (⟨"SymbolicChecker$Diagrams", "added", "(IIII)I"⟩, 12) := ⟨⟨by decide +kernel, by decide +kernel⟩, List.mem_of_getElem? (i := 20) (by decide +kernel), List.mem_of_getElem? (i := 198) (by decide +kernel), List.mem_of_getElem? (i := 199) (by decide +kernel)⟩
theorem lw_p7 : lw_okq (⟨"SymbolicChecker$Diagrams", "mark", "(II)I"⟩, 12) := ⟨⟨by decide +kernel, by decide +kernel⟩, List.mem_of_getElem? (i := 20) (by decide +kernel), List.mem_of_getElem? (i := 210) (by decide +kernel), List.mem_of_getElem? (i := 211) (by decide +kernel)⟩
theorem lw_p8 : lw_okq (⟨"SymbolicChecker$Diagrams", "sweep", "()V"⟩, 12) := ⟨⟨by decide +kernel, by decide +kernel⟩, List.mem_of_getElem? (i := 20) (by decide +kernel), List.mem_of_getElem? (i := 214) (by decide +kernel), List.mem_of_getElem? (i := 215) (by decide +kernel)⟩
theorem lw_p9 : lw_okq (⟨"SymbolicChecker$Diagrams", "join", "(IIII)I"⟩, 12) := ⟨⟨by decide +kernel, by decide +kernel⟩, List.mem_of_getElem? (i := 20) (by decide +kernel), List.mem_of_getElem? (i := 256) (by decide +kernel), List.mem_of_getElem? (i := 257) (by decide +kernel)⟩
theorem lw_p10 : lw_okq (⟨"SymbolicChecker$Diagrams", "upper", "(II)I"⟩, 12) := ⟨⟨by decide +kernel, by decide +kernel⟩, List.mem_of_getElem? (i := 20) (by decide +kernel), List.mem_of_getElem? (i := 260) (by decide +kernel), List.mem_of_getElem? (i := 261) (by decide +kernel)⟩
theorem lw_p11 : lw_okq (⟨"SymbolicChecker$Diagrams", "offWay", "(II)I"⟩, 12) := ⟨⟨by decide +kernel, by decide +kernel⟩, List.mem_of_getElem? (i := 20) (by decide +kernel), List.mem_of_getElem? (i := 264) (by decide +kernel), List.mem_of_getElem? (i := 265) (by decide +kernel)⟩
theorem lw_p12 : lw_okq (⟨"SymbolicChecker$Diagrams", "onWay", "(II)I"⟩, 12) := ⟨⟨by decide +kernel, by decide +kernel⟩, List.mem_of_getElem? (i := 20) (by decide +kernel), List.mem_of_getElem? (i := 269) (by decide +kernel), List.mem_of_getElem? (i := 270) (by decide +kernel)⟩
theorem lw_p13 : lw_okq (⟨"SymbolicChecker$Diagrams", "pick", "(IIII)I"⟩, 12) := ⟨⟨by decide +kernel, by decide +kernel⟩, List.mem_of_getElem? (i := 20) (by decide +kernel), List.mem_of_getElem? (i := 280) (by decide +kernel), List.mem_of_getElem? (i := 281) (by decide +kernel)⟩
theorem lw_p14 : lw_okq (⟨"SymbolicChecker$Diagrams", "fix", "(IIZI)I"⟩, 12) := ⟨⟨by decide +kernel, by decide +kernel⟩, List.mem_of_getElem? (i := 20) (by decide +kernel), List.mem_of_getElem? (i := 292) (by decide +kernel), List.mem_of_getElem? (i := 293) (by decide +kernel)⟩
theorem lw_p15 : lw_okq (⟨"SymbolicChecker$Diagrams", "overlap", "(IIII)I"⟩, 12) := ⟨⟨by decide +kernel, by decide +kernel⟩, List.mem_of_getElem? (i := 20) (by decide +kernel), List.mem_of_getElem? (i := 308) (by decide +kernel), List.mem_of_getElem? (i := 309) (by decide +kernel)⟩
def lw_privs_1 : List (MethodName × Nat) := [(⟨"SymbolicChecker$Diagrams", "clearMarks", "()V"⟩, 12), (⟨"SymbolicChecker$Diagrams", "blameUnder", "(II)V"⟩, 12), (⟨"SymbolicChecker$Diagrams", "blame", "(I)V"⟩, 12), (⟨"SymbolicChecker$Diagrams", "found", "(IIII)I"⟩, 12), (⟨"java/lang/Throwable", "fillInStackTrace", "(I)Ljava/lang/Throwable;"⟩, 6), (⟨"SymbolicChecker$Diagrams", "node", "(III)I"⟩, 12), (⟨"SymbolicChecker$Diagrams", "added", "(IIII)I"⟩, 12), (⟨"SymbolicChecker$Diagrams", "mark", "(II)I"⟩, 12), (⟨"SymbolicChecker$Diagrams", "sweep", "()V"⟩, 12), (⟨"SymbolicChecker$Diagrams", "join", "(IIII)I"⟩, 12), (⟨"SymbolicChecker$Diagrams", "upper", "(II)I"⟩, 12), (⟨"SymbolicChecker$Diagrams", "offWay", "(II)I"⟩, 12), (⟨"SymbolicChecker$Diagrams", "onWay", "(II)I"⟩, 12), (⟨"SymbolicChecker$Diagrams", "pick", "(IIII)I"⟩, 12), (⟨"SymbolicChecker$Diagrams", "fix", "(IIZI)I"⟩, 12), (⟨"SymbolicChecker$Diagrams", "overlap", "(IIII)I"⟩, 12)]
theorem lw_r1 : ∀ q ∈ lw_privs_1, lw_okq q := List.forall_mem_cons.mpr ⟨lw_p0, List.forall_mem_cons.mpr ⟨lw_p1, List.forall_mem_cons.mpr ⟨lw_p2, List.forall_mem_cons.mpr ⟨lw_p3, List.forall_mem_cons.mpr ⟨lw_p4, List.forall_mem_cons.mpr ⟨lw_p5, List.forall_mem_cons.mpr ⟨lw_p6, List.forall_mem_cons.mpr ⟨lw_p7, List.forall_mem_cons.mpr ⟨lw_p8, List.forall_mem_cons.mpr ⟨lw_p9, List.forall_mem_cons.mpr ⟨lw_p10, List.forall_mem_cons.mpr ⟨lw_p11, List.forall_mem_cons.mpr ⟨lw_p12, List.forall_mem_cons.mpr ⟨lw_p13, List.forall_mem_cons.mpr ⟨lw_p14, List.forall_mem_cons.mpr ⟨lw_p15, fun _ h => absurd h List.not_mem_nil⟩⟩⟩⟩⟩⟩⟩⟩⟩⟩⟩⟩⟩⟩⟩⟩
theorem lw_p16 : lw_okq (⟨"SymbolicChecker$Diagrams", "mirror", "(II)I"⟩, 12) := ⟨⟨by decide +kernel, by decide +kernel⟩, List.mem_of_getElem? (i := 20) (by decide +kernel), List.mem_of_getElem? (i := 334) (by decide +kernel), List.mem_of_getElem? (i := 335) (by decide +kernel)⟩
theorem lw_p17 : lw_okq (⟨"SymbolicChecker$Diagrams", "weight", "(II)I"⟩, 12) := ⟨⟨by decide +kernel, by decide +kernel⟩, List.mem_of_getElem? (i := 20) (by decide +kernel), List.mem_of_getElem? (i := 364) (by decide +kernel), List.mem_of_getElem? (i := 365) (by decide +kernel)⟩
theorem lw_p18 : lw_okq (⟨"SymbolicChecker$Diagrams", "support", "(II)I"⟩, 12) := ⟨⟨by decide +kernel, by decide +kernel⟩, List.mem_of_getElem? (i := 20) (by decide +kernel), List.mem_of_getElem? (i := 383) (by decide +kernel), List.mem_of_getElem? (i := 384) (by decide +kernel)⟩
theorem lw_p19 : lw_okq (⟨"SymbolicChecker$Diagrams", "seat", "(II)V"⟩, 12) := ⟨⟨by decide +kernel, by decide +kernel⟩, List.mem_of_getElem? (i := 20) (by decide +kernel), List.mem_of_getElem? (i := 425) (by decide +kernel), List.mem_of_getElem? (i := 426) (by decide +kernel)⟩
theorem lw_p20 : lw_okq (⟨"SymbolicChecker$Diagrams", "lift", "(III)V"⟩, 12) := ⟨⟨by decide +kernel, by decide +kernel⟩, List.mem_of_getElem? (i := 20) (by decide +kernel), List.mem_of_getElem? (i := 429) (by decide +kernel), List.mem_of_getElem? (i := 430) (by decide +kernel)⟩
theorem lw_p21 : lw_okq (⟨"SymbolicChecker", "needSet", "(I)V"⟩, 1) := ⟨⟨by decide +kernel, by decide +kernel⟩, List.mem_of_getElem? (i := 12) (by decide +kernel), List.mem_of_getElem? (i := 460) (by decide +kernel), List.mem_of_getElem? (i := 461) (by decide +kernel)⟩
theorem lw_p22 : lw_okq (⟨"SymbolicChecker", "after", "(II)I"⟩, 1) := ⟨⟨by decide +kernel, by decide +kernel⟩, List.mem_of_getElem? (i := 12) (by decide +kernel), List.mem_of_getElem? (i := 480) (by decide +kernel), List.mem_of_getElem? (i := 481) (by decide +kernel)⟩
theorem lw_p23 : lw_okq (⟨"SymbolicChecker", "states", "(I)I"⟩, 1) := ⟨⟨by decide +kernel, by decide +kernel⟩, List.mem_of_getElem? (i := 12) (by decide +kernel), List.mem_of_getElem? (i := 484) (by decide +kernel), List.mem_of_getElem? (i := 485) (by decide +kernel)⟩
theorem lw_p24 : lw_okq (⟨"SymbolicChecker", "before", "(II)I"⟩, 1) := ⟨⟨by decide +kernel, by decide +kernel⟩, List.mem_of_getElem? (i := 12) (by decide +kernel), List.mem_of_getElem? (i := 507) (by decide +kernel), List.mem_of_getElem? (i := 508) (by decide +kernel)⟩
theorem lw_p25 : lw_okq (⟨"SymbolicChecker", "settle", "(IIII)I"⟩, 1) := ⟨⟨by decide +kernel, by decide +kernel⟩, List.mem_of_getElem? (i := 12) (by decide +kernel), List.mem_of_getElem? (i := 511) (by decide +kernel), List.mem_of_getElem? (i := 512) (by decide +kernel)⟩
theorem lw_p26 : lw_okq (⟨"SymbolicCheckerModel", "clear", "()V"⟩, 13) := ⟨⟨by decide +kernel, by decide +kernel⟩, List.mem_of_getElem? (i := 515) (by decide +kernel), List.mem_of_getElem? (i := 585) (by decide +kernel), List.mem_of_getElem? (i := 586) (by decide +kernel)⟩
theorem lw_p27 : lw_okq (⟨"SymbolicCheckerModel", "set", "(IZ)V"⟩, 13) := ⟨⟨by decide +kernel, by decide +kernel⟩, List.mem_of_getElem? (i := 515) (by decide +kernel), List.mem_of_getElem? (i := 589) (by decide +kernel), List.mem_of_getElem? (i := 590) (by decide +kernel)⟩
theorem lw_p28 : lw_okq (⟨"SymbolicCheckerModel", "keep", "(I)V"⟩, 13) := ⟨⟨by decide +kernel, by decide +kernel⟩, List.mem_of_getElem? (i := 515) (by decide +kernel), List.mem_of_getElem? (i := 593) (by decide +kernel), List.mem_of_getElem? (i := 594) (by decide +kernel)⟩
theorem lw_p29 : lw_okq (⟨"SymbolicCheckerModel", "value", "(II)Z"⟩, 13) := ⟨⟨by decide +kernel, by decide +kernel⟩, List.mem_of_getElem? (i := 515) (by decide +kernel), List.mem_of_getElem? (i := 605) (by decide +kernel), List.mem_of_getElem? (i := 606) (by decide +kernel)⟩
theorem lw_p30 : lw_okq (⟨"SymbolicCheckerModel", "dependsOn", "(I)I"⟩, 13) := ⟨⟨by decide +kernel, by decide +kernel⟩, List.mem_of_getElem? (i := 515) (by decide +kernel), List.mem_of_getElem? (i := 656) (by decide +kernel), List.mem_of_getElem? (i := 657) (by decide +kernel)⟩
theorem lw_p31 : lw_okq (⟨"SymbolicCheckerModel", "nodesOf", "(II)I"⟩, 13) := ⟨⟨by decide +kernel, by decide +kernel⟩, List.mem_of_getElem? (i := 515) (by decide +kernel), List.mem_of_getElem? (i := 664) (by decide +kernel), List.mem_of_getElem? (i := 665) (by decide +kernel)⟩
def lw_privs_2 : List (MethodName × Nat) := [(⟨"SymbolicChecker$Diagrams", "mirror", "(II)I"⟩, 12), (⟨"SymbolicChecker$Diagrams", "weight", "(II)I"⟩, 12), (⟨"SymbolicChecker$Diagrams", "support", "(II)I"⟩, 12), (⟨"SymbolicChecker$Diagrams", "seat", "(II)V"⟩, 12), (⟨"SymbolicChecker$Diagrams", "lift", "(III)V"⟩, 12), (⟨"SymbolicChecker", "needSet", "(I)V"⟩, 1), (⟨"SymbolicChecker", "after", "(II)I"⟩, 1), (⟨"SymbolicChecker", "states", "(I)I"⟩, 1), (⟨"SymbolicChecker", "before", "(II)I"⟩, 1), (⟨"SymbolicChecker", "settle", "(IIII)I"⟩, 1), (⟨"SymbolicCheckerModel", "clear", "()V"⟩, 13), (⟨"SymbolicCheckerModel", "set", "(IZ)V"⟩, 13), (⟨"SymbolicCheckerModel", "keep", "(I)V"⟩, 13), (⟨"SymbolicCheckerModel", "value", "(II)Z"⟩, 13), (⟨"SymbolicCheckerModel", "dependsOn", "(I)I"⟩, 13), (⟨"SymbolicCheckerModel", "nodesOf", "(II)I"⟩, 13)]
theorem lw_r2 : ∀ q ∈ lw_privs_2, lw_okq q := List.forall_mem_cons.mpr ⟨lw_p16, List.forall_mem_cons.mpr ⟨lw_p17, List.forall_mem_cons.mpr ⟨lw_p18, List.forall_mem_cons.mpr ⟨lw_p19, List.forall_mem_cons.mpr ⟨lw_p20, List.forall_mem_cons.mpr ⟨lw_p21, List.forall_mem_cons.mpr ⟨lw_p22, List.forall_mem_cons.mpr ⟨lw_p23, List.forall_mem_cons.mpr ⟨lw_p24, List.forall_mem_cons.mpr ⟨lw_p25, List.forall_mem_cons.mpr ⟨lw_p26, List.forall_mem_cons.mpr ⟨lw_p27, List.forall_mem_cons.mpr ⟨lw_p28, List.forall_mem_cons.mpr ⟨lw_p29, List.forall_mem_cons.mpr ⟨lw_p30, List.forall_mem_cons.mpr ⟨lw_p31, fun _ h => absurd h List.not_mem_nil⟩⟩⟩⟩⟩⟩⟩⟩⟩⟩⟩⟩⟩⟩⟩⟩
theorem lw_p32 : lw_okq (⟨"SymbolicCheckerModel", "put", "(I)I"⟩, 13) := ⟨⟨by decide +kernel, by decide +kernel⟩, List.mem_of_getElem? (i := 515) (by decide +kernel), List.mem_of_getElem? (i := 668) (by decide +kernel), List.mem_of_getElem? (i := 669) (by decide +kernel)⟩
theorem lw_p33 : lw_okq (⟨"SymbolicCheckerModel", "tell", "(II)V"⟩, 13) := ⟨⟨by decide +kernel, by decide +kernel⟩, List.mem_of_getElem? (i := 515) (by decide +kernel), List.mem_of_getElem? (i := 673) (by decide +kernel), List.mem_of_getElem? (i := 674) (by decide +kernel)⟩
theorem lw_p34 : lw_okq (⟨"SymbolicCheckerModel", "cutBy", "(IIZ)V"⟩, 13) := ⟨⟨by decide +kernel, by decide +kernel⟩, List.mem_of_getElem? (i := 515) (by decide +kernel), List.mem_of_getElem? (i := 677) (by decide +kernel), List.mem_of_getElem? (i := 678) (by decide +kernel)⟩
theorem lw_p35 : lw_okq (⟨"SymbolicCheckerModel", "lay", "(II)V"⟩, 13) := ⟨⟨by decide +kernel, by decide +kernel⟩, List.mem_of_getElem? (i := 515) (by decide +kernel), List.mem_of_getElem? (i := 697) (by decide +kernel), List.mem_of_getElem? (i := 698) (by decide +kernel)⟩
theorem lw_p36 : lw_okq (⟨"SymbolicCheckerModel", "isSet", "(I)Z"⟩, 13) := ⟨⟨by decide +kernel, by decide +kernel⟩, List.mem_of_getElem? (i := 515) (by decide +kernel), List.mem_of_getElem? (i := 710) (by decide +kernel), List.mem_of_getElem? (i := 711) (by decide +kernel)⟩
theorem lw_p37 : lw_okq (⟨"SymbolicCheckerModel", "learnSteps", "(I)V"⟩, 13) := ⟨⟨by decide +kernel, by decide +kernel⟩, List.mem_of_getElem? (i := 515) (by decide +kernel), List.mem_of_getElem? (i := 714) (by decide +kernel), List.mem_of_getElem? (i := 715) (by decide +kernel)⟩
theorem lw_p38 : lw_okq (⟨"SymbolicCheckerModel", "statesOf", "(I)I"⟩, 13) := ⟨⟨by decide +kernel, by decide +kernel⟩, List.mem_of_getElem? (i := 515) (by decide +kernel), List.mem_of_getElem? (i := 721) (by decide +kernel), List.mem_of_getElem? (i := 722) (by decide +kernel)⟩
theorem lw_p39 : lw_okq (⟨"SymbolicCheckerModel", "imageOf", "(I)I"⟩, 13) := ⟨⟨by decide +kernel, by decide +kernel⟩, List.mem_of_getElem? (i := 515) (by decide +kernel), List.mem_of_getElem? (i := 725) (by decide +kernel), List.mem_of_getElem? (i := 726) (by decide +kernel)⟩
theorem lw_p40 : lw_okq (⟨"SymbolicCheckerModel", "keepStates", "(II)V"⟩, 13) := ⟨⟨by decide +kernel, by decide +kernel⟩, List.mem_of_getElem? (i := 515) (by decide +kernel), List.mem_of_getElem? (i := 729) (by decide +kernel), List.mem_of_getElem? (i := 730) (by decide +kernel)⟩
theorem lw_p41 : lw_okq (⟨"SymbolicCheckerModel", "formulaOf", "(III)I"⟩, 13) := ⟨⟨by decide +kernel, by decide +kernel⟩, List.mem_of_getElem? (i := 515) (by decide +kernel), List.mem_of_getElem? (i := 744) (by decide +kernel), List.mem_of_getElem? (i := 745) (by decide +kernel)⟩
theorem lw_p42 : lw_okq (⟨"SymbolicCheckerModel", "stepsTo", "(I)I"⟩, 13) := ⟨⟨by decide +kernel, by decide +kernel⟩, List.mem_of_getElem? (i := 515) (by decide +kernel), List.mem_of_getElem? (i := 749) (by decide +kernel), List.mem_of_getElem? (i := 750) (by decide +kernel)⟩
theorem lw_p43 : lw_okq (⟨"SymbolicCheckerModel", "until", "(II)I"⟩, 13) := ⟨⟨by decide +kernel, by decide +kernel⟩, List.mem_of_getElem? (i := 515) (by decide +kernel), List.mem_of_getElem? (i := 753) (by decide +kernel), List.mem_of_getElem? (i := 754) (by decide +kernel)⟩
theorem lw_p44 : lw_okq (⟨"SymbolicCheckerModel", "always", "(I)I"⟩, 13) := ⟨⟨by decide +kernel, by decide +kernel⟩, List.mem_of_getElem? (i := 515) (by decide +kernel), List.mem_of_getElem? (i := 757) (by decide +kernel), List.mem_of_getElem? (i := 758) (by decide +kernel)⟩
def lw_privs_3 : List (MethodName × Nat) := [(⟨"SymbolicCheckerModel", "put", "(I)I"⟩, 13), (⟨"SymbolicCheckerModel", "tell", "(II)V"⟩, 13), (⟨"SymbolicCheckerModel", "cutBy", "(IIZ)V"⟩, 13), (⟨"SymbolicCheckerModel", "lay", "(II)V"⟩, 13), (⟨"SymbolicCheckerModel", "isSet", "(I)Z"⟩, 13), (⟨"SymbolicCheckerModel", "learnSteps", "(I)V"⟩, 13), (⟨"SymbolicCheckerModel", "statesOf", "(I)I"⟩, 13), (⟨"SymbolicCheckerModel", "imageOf", "(I)I"⟩, 13), (⟨"SymbolicCheckerModel", "keepStates", "(II)V"⟩, 13), (⟨"SymbolicCheckerModel", "formulaOf", "(III)I"⟩, 13), (⟨"SymbolicCheckerModel", "stepsTo", "(I)I"⟩, 13), (⟨"SymbolicCheckerModel", "until", "(II)I"⟩, 13), (⟨"SymbolicCheckerModel", "always", "(I)I"⟩, 13)]
theorem lw_r3 : ∀ q ∈ lw_privs_3, lw_okq q := List.forall_mem_cons.mpr ⟨lw_p32, List.forall_mem_cons.mpr ⟨lw_p33, List.forall_mem_cons.mpr ⟨lw_p34, List.forall_mem_cons.mpr ⟨lw_p35, List.forall_mem_cons.mpr ⟨lw_p36, List.forall_mem_cons.mpr ⟨lw_p37, List.forall_mem_cons.mpr ⟨lw_p38, List.forall_mem_cons.mpr ⟨lw_p39, List.forall_mem_cons.mpr ⟨lw_p40, List.forall_mem_cons.mpr ⟨lw_p41, List.forall_mem_cons.mpr ⟨lw_p42, List.forall_mem_cons.mpr ⟨lw_p43, List.forall_mem_cons.mpr ⟨lw_p44, fun _ h => absurd h List.not_mem_nil⟩⟩⟩⟩⟩⟩⟩⟩⟩⟩⟩⟩⟩
def lw_privs : List (MethodName × Nat) := lw_privs_1 ++ (lw_privs_2 ++ (lw_privs_3))
def lw_tbl : List Cond := k2_sels lw_privs ++ tables_1
theorem lw_privs_ok : ∀ q ∈ lw_privs, lw_okq q := by
  show ∀ q ∈ lw_privs_1 ++ (lw_privs_2 ++ (lw_privs_3)), lw_okq q
  exact List.forall_mem_append.mpr ⟨lw_r1, List.forall_mem_append.mpr ⟨lw_r2, lw_r3⟩⟩
end
section
/-! Names, and the words of the tables by their places: printed by my program out of the listing and the Statement. -/
def R_X : String := "SymbolicChecker"
def R_D : String := "SymbolicChecker$Diagrams"
def R_M : String := "SymbolicCheckerModel"
def R_L : String := "SymbolicCheckerLaw"
def R_A : String := "java/util/Arrays"
def F_X : u_T := fun k => match k with
  | _ => ("SymbolicChecker", "diagrams", "LSymbolicChecker$Diagrams;", true)
def ty_X : Nat → FieldType := fun k => match k with
  | _ => .object "SymbolicChecker$Diagrams"
theorem nm_X : ∀ a, a < 1 → ∀ b, b < 1 → a ≠ b → (F_X a).2.1 ≠ (F_X b).2.1 := by decide +kernel
theorem ty_X_ok : ∀ k, k < 1 → parseFieldDescriptor (F_X k).2.2.1 = some (ty_X k) := by decide +kernel
def F_D : u_T := fun k => match k with
  | 0 => ("SymbolicChecker$Diagrams", "roots", "[I", true)
  | 1 => ("SymbolicChecker$Diagrams", "atLevel", "[I", true)
  | 2 => ("SymbolicChecker$Diagrams", "levelOf", "[I", true)
  | 3 => ("SymbolicChecker$Diagrams", "label", "[I", true)
  | 4 => ("SymbolicChecker$Diagrams", "low", "[I", true)
  | 5 => ("SymbolicChecker$Diagrams", "high", "[I", true)
  | 6 => ("SymbolicChecker$Diagrams", "next", "[I", true)
  | 7 => ("SymbolicChecker$Diagrams", "heads", "[I", true)
  | 8 => ("SymbolicChecker$Diagrams", "marked", "[Z", true)
  | 9 => ("SymbolicChecker$Diagrams", "live", "I", false)
  | 10 => ("SymbolicChecker$Diagrams", "end", "I", false)
  | _ => ("SymbolicChecker$Diagrams", "cursor", "I", false)
def ty_D : Nat → FieldType := fun k => match k with
  | 0 => .array .int
  | 1 => .array .int
  | 2 => .array .int
  | 3 => .array .int
  | 4 => .array .int
  | 5 => .array .int
  | 6 => .array .int
  | 7 => .array .int
  | 8 => .array .boolean
  | 9 => .int
  | 10 => .int
  | _ => .int
theorem nm_D : ∀ a, a < 12 → ∀ b, b < 12 → a ≠ b → (F_D a).2.1 ≠ (F_D b).2.1 := by decide +kernel
theorem ty_D_ok : ∀ k, k < 12 → parseFieldDescriptor (F_D k).2.2.1 = some (ty_D k) := by decide +kernel
def F_M : u_T := fun k => match k with
  | 0 => ("SymbolicCheckerModel", "code", "I", false)
  | 1 => ("SymbolicCheckerModel", "words", "[J", true)
  | 2 => ("SymbolicCheckerModel", "levels", "[I", true)
  | 3 => ("SymbolicCheckerModel", "before", "[I", true)
  | 4 => ("SymbolicCheckerModel", "cuts", "[J", true)
  | 5 => ("SymbolicCheckerModel", "many", "I", false)
  | 6 => ("SymbolicCheckerModel", "here", "[I", true)
  | 7 => ("SymbolicCheckerModel", "hereMany", "I", false)
  | 8 => ("SymbolicCheckerModel", "next", "[I", true)
  | 9 => ("SymbolicCheckerModel", "nextMany", "I", false)
  | 10 => ("SymbolicCheckerModel", "told", "[I", true)
  | 11 => ("SymbolicCheckerModel", "masks", "[J", true)
  | _ => ("SymbolicCheckerModel", "steps", "[I", true)
def ty_M : Nat → FieldType := fun k => match k with
  | 0 => .int
  | 1 => .array .long
  | 2 => .array .int
  | 3 => .array .int
  | 4 => .array .long
  | 5 => .int
  | 6 => .array .int
  | 7 => .int
  | 8 => .array .int
  | 9 => .int
  | 10 => .array .int
  | 11 => .array .long
  | _ => .array .int
theorem nm_M : ∀ a, a < 13 → ∀ b, b < 13 → a ≠ b → (F_M a).2.1 ≠ (F_M b).2.1 := by decide +kernel
theorem ty_M_ok : ∀ k, k < 13 → parseFieldDescriptor (F_M k).2.2.1 = some (ty_M k) := by decide +kernel
abbrev wt_cl : List vw_C := [(R_X, F_X, 1), (R_D, F_D, 12), (R_M, F_M, 13)]
abbrev bx_init : ByteArray := prog_1_method_1_code
def yx_init : MethodName := ⟨R_X, "<init>", "()V"⟩
abbrev bx_variable : ByteArray := prog_1_method_2_code
def yx_variable : MethodName := ⟨R_X, "variable", "(II)V"⟩
abbrev bx_constant : ByteArray := prog_1_method_3_code
def yx_constant : MethodName := ⟨R_X, "constant", "(IZ)V"⟩
abbrev bx_apply : ByteArray := prog_1_method_4_code
def yx_apply : MethodName := ⟨R_X, "apply", "(IIII)V"⟩
abbrev bx_choose : ByteArray := prog_1_method_5_code
def yx_choose : MethodName := ⟨R_X, "choose", "(IIII)V"⟩
abbrev bx_restrict : ByteArray := prog_1_method_6_code
def yx_restrict : MethodName := ⟨R_X, "restrict", "(IIIZ)V"⟩
abbrev bx_quantify : ByteArray := prog_1_method_7_code
def yx_quantify : MethodName := ⟨R_X, "quantify", "(IIIZ)V"⟩
abbrev bx_product : ByteArray := prog_1_method_8_code
def yx_product : MethodName := ⟨R_X, "product", "(IIII)V"⟩
abbrev bx_compose : ByteArray := prog_1_method_9_code
def yx_compose : MethodName := ⟨R_X, "compose", "(IIII)V"⟩
abbrev bx_turn : ByteArray := prog_1_method_10_code
def yx_turn : MethodName := ⟨R_X, "turn", "(II)V"⟩
abbrev bx_truth : ByteArray := prog_1_method_11_code
def yx_truth : MethodName := ⟨R_X, "truth", "(II)Z"⟩
abbrev bx_same : ByteArray := prog_1_method_12_code
def yx_same : MethodName := ⟨R_X, "same", "(II)Z"⟩
abbrev bx_count : ByteArray := prog_1_method_13_code
def yx_count : MethodName := ⟨R_X, "count", "(I)I"⟩
abbrev bx_least : ByteArray := prog_1_method_14_code
def yx_least : MethodName := ⟨R_X, "least", "(I)I"⟩
abbrev bx_depends : ByteArray := prog_1_method_15_code
def yx_depends : MethodName := ⟨R_X, "depends", "(I)I"⟩
abbrev bx_nodes : ByteArray := prog_1_method_16_code
def yx_nodes : MethodName := ⟨R_X, "nodes", "(I)I"⟩
abbrev bx_heap : ByteArray := prog_1_method_17_code
def yx_heap : MethodName := ⟨R_X, "heap", "()I"⟩
abbrev bx_order : ByteArray := prog_1_method_18_code
def yx_order : MethodName := ⟨R_X, "order", "(I)I"⟩
abbrev bx_swap : ByteArray := prog_1_method_19_code
def yx_swap : MethodName := ⟨R_X, "swap", "(I)I"⟩
abbrev bx_place : ByteArray := prog_1_method_20_code
def yx_place : MethodName := ⟨R_X, "place", "(II)I"⟩
abbrev bx_sift : ByteArray := prog_1_method_21_code
def yx_sift : MethodName := ⟨R_X, "sift", "(I)I"⟩
abbrev bx_image : ByteArray := prog_1_method_22_code
def yx_image : MethodName := ⟨R_X, "image", "(III)I"⟩
abbrev bx_reach : ByteArray := prog_1_method_23_code
def yx_reach : MethodName := ⟨R_X, "reach", "(III)I"⟩
abbrev bx_check : ByteArray := prog_1_method_24_code
def yx_check : MethodName := ⟨R_X, "check", "(IIIII)I"⟩
abbrev bx_astray : ByteArray := prog_1_method_25_code
def yx_astray : MethodName := ⟨R_X, "astray", "()I"⟩
abbrev bx_after : ByteArray := prog_1_method_26_code
def yx_after : MethodName := ⟨R_X, "after", "(II)I"⟩
abbrev bx_before : ByteArray := prog_1_method_27_code
def yx_before : MethodName := ⟨R_X, "before", "(II)I"⟩
abbrev bx_settle : ByteArray := prog_1_method_28_code
def yx_settle : MethodName := ⟨R_X, "settle", "(IIII)I"⟩
abbrev bx_states : ByteArray := prog_1_method_29_code
def yx_states : MethodName := ⟨R_X, "states", "(I)I"⟩
abbrev bx_needRegister : ByteArray := prog_1_method_30_code
def yx_needRegister : MethodName := ⟨R_X, "needRegister", "(I)V"⟩
abbrev bx_needVariable : ByteArray := prog_1_method_31_code
def yx_needVariable : MethodName := ⟨R_X, "needVariable", "(I)V"⟩
abbrev bx_needLevel : ByteArray := prog_1_method_32_code
def yx_needLevel : MethodName := ⟨R_X, "needLevel", "(II)V"⟩
abbrev bx_needBelow : ByteArray := prog_1_method_33_code
def yx_needBelow : MethodName := ⟨R_X, "needBelow", "(II)V"⟩
abbrev bx_needSet : ByteArray := prog_1_method_34_code
def yx_needSet : MethodName := ⟨R_X, "needSet", "(I)V"⟩
abbrev bd_init : ByteArray := prog_2_method_1_code
def yd_init : MethodName := ⟨R_D, "<init>", "()V"⟩
abbrev bd_root : ByteArray := prog_2_method_2_code
def yd_root : MethodName := ⟨R_D, "root", "(I)I"⟩
abbrev bd_live : ByteArray := prog_2_method_3_code
def yd_live : MethodName := ⟨R_D, "live", "()I"⟩
abbrev bd_variableAt : ByteArray := prog_2_method_4_code
def yd_variableAt : MethodName := ⟨R_D, "variableAt", "(I)I"⟩
abbrev bd_keep : ByteArray := prog_2_method_5_code
def yd_keep : MethodName := ⟨R_D, "keep", "(II)V"⟩
abbrev bd_hold : ByteArray := prog_2_method_6_code
def yd_hold : MethodName := ⟨R_D, "hold", "(II)V"⟩
abbrev bd_literal : ByteArray := prog_2_method_7_code
def yd_literal : MethodName := ⟨R_D, "literal", "(I)I"⟩
abbrev bd_negate : ByteArray := prog_2_method_8_code
def yd_negate : MethodName := ⟨R_D, "negate", "(I)I"⟩
abbrev bd_join : ByteArray := prog_2_method_9_code
def yd_join : MethodName := ⟨R_D, "join", "(IIII)I"⟩
abbrev bd_pick : ByteArray := prog_2_method_10_code
def yd_pick : MethodName := ⟨R_D, "pick", "(IIII)I"⟩
abbrev bd_fix : ByteArray := prog_2_method_11_code
def yd_fix : MethodName := ⟨R_D, "fix", "(IIZI)I"⟩
abbrev bd_overlap : ByteArray := prog_2_method_12_code
def yd_overlap : MethodName := ⟨R_D, "overlap", "(IIII)I"⟩
abbrev bd_mirror : ByteArray := prog_2_method_13_code
def yd_mirror : MethodName := ⟨R_D, "mirror", "(II)I"⟩
abbrev bd_value : ByteArray := prog_2_method_14_code
def yd_value : MethodName := ⟨R_D, "value", "(II)Z"⟩
abbrev bd_weight : ByteArray := prog_2_method_15_code
def yd_weight : MethodName := ⟨R_D, "weight", "(II)I"⟩
abbrev bd_support : ByteArray := prog_2_method_16_code
def yd_support : MethodName := ⟨R_D, "support", "(II)I"⟩
abbrev bd_size : ByteArray := prog_2_method_17_code
def yd_size : MethodName := ⟨R_D, "size", "(I)I"⟩
abbrev bd_move : ByteArray := prog_2_method_18_code
def yd_move : MethodName := ⟨R_D, "move", "(II)V"⟩
abbrev bd_exchange : ByteArray := prog_2_method_19_code
def yd_exchange : MethodName := ⟨R_D, "exchange", "(I)V"⟩
abbrev bd_seat : ByteArray := prog_2_method_20_code
def yd_seat : MethodName := ⟨R_D, "seat", "(II)V"⟩
abbrev bd_lift : ByteArray := prog_2_method_21_code
def yd_lift : MethodName := ⟨R_D, "lift", "(III)V"⟩
abbrev bd_collect : ByteArray := prog_2_method_22_code
def yd_collect : MethodName := ⟨R_D, "collect", "()V"⟩
abbrev bd_sweep : ByteArray := prog_2_method_23_code
def yd_sweep : MethodName := ⟨R_D, "sweep", "()V"⟩
abbrev bd_clearMarks : ByteArray := prog_2_method_24_code
def yd_clearMarks : MethodName := ⟨R_D, "clearMarks", "()V"⟩
abbrev bd_mark : ByteArray := prog_2_method_25_code
def yd_mark : MethodName := ⟨R_D, "mark", "(II)I"⟩
abbrev bd_faults : ByteArray := prog_2_method_26_code
def yd_faults : MethodName := ⟨R_D, "faults", "()I"⟩
abbrev bd_blame : ByteArray := prog_2_method_27_code
def yd_blame : MethodName := ⟨R_D, "blame", "(I)V"⟩
abbrev bd_blameUnder : ByteArray := prog_2_method_28_code
def yd_blameUnder : MethodName := ⟨R_D, "blameUnder", "(II)V"⟩
abbrev bd_upper : ByteArray := prog_2_method_29_code
def yd_upper : MethodName := ⟨R_D, "upper", "(II)I"⟩
abbrev bd_offWay : ByteArray := prog_2_method_30_code
def yd_offWay : MethodName := ⟨R_D, "offWay", "(II)I"⟩
abbrev bd_onWay : ByteArray := prog_2_method_31_code
def yd_onWay : MethodName := ⟨R_D, "onWay", "(II)I"⟩
abbrev bd_node : ByteArray := prog_2_method_32_code
def yd_node : MethodName := ⟨R_D, "node", "(III)I"⟩
abbrev bd_found : ByteArray := prog_2_method_33_code
def yd_found : MethodName := ⟨R_D, "found", "(IIII)I"⟩
abbrev bd_added : ByteArray := prog_2_method_34_code
def yd_added : MethodName := ⟨R_D, "added", "(IIII)I"⟩
abbrev bd_bucket : ByteArray := prog_2_method_35_code
def yd_bucket : MethodName := ⟨R_D, "bucket", "(III)I"⟩
abbrev bm_init : ByteArray := prog_4_method_1_code
def ym_init : MethodName := ⟨R_M, "<init>", "()V"⟩
abbrev bm_thrown : ByteArray := prog_4_method_2_code
def ym_thrown : MethodName := ⟨R_M, "thrown", "()I"⟩
abbrev bm_in : ByteArray := prog_4_method_3_code
def ym_in : MethodName := ⟨R_M, "in", "(III)Z"⟩
abbrev bm_isRegister : ByteArray := prog_4_method_4_code
def ym_isRegister : MethodName := ⟨R_M, "isRegister", "(I)Z"⟩
abbrev bm_isVariable : ByteArray := prog_4_method_5_code
def ym_isVariable : MethodName := ⟨R_M, "isVariable", "(I)Z"⟩
abbrev bm_value : ByteArray := prog_4_method_6_code
def ym_value : MethodName := ⟨R_M, "value", "(II)Z"⟩
abbrev bm_clear : ByteArray := prog_4_method_7_code
def ym_clear : MethodName := ⟨R_M, "clear", "()V"⟩
abbrev bm_set : ByteArray := prog_4_method_8_code
def ym_set : MethodName := ⟨R_M, "set", "(IZ)V"⟩
abbrev bm_keep : ByteArray := prog_4_method_9_code
def ym_keep : MethodName := ⟨R_M, "keep", "(I)V"⟩
abbrev bm_with : ByteArray := prog_4_method_10_code
def ym_with : MethodName := ⟨R_M, "with", "(IIZ)I"⟩
abbrev bm_variable : ByteArray := prog_4_method_11_code
def ym_variable : MethodName := ⟨R_M, "variable", "(II)V"⟩
abbrev bm_constant : ByteArray := prog_4_method_12_code
def ym_constant : MethodName := ⟨R_M, "constant", "(IZ)V"⟩
abbrev bm_apply : ByteArray := prog_4_method_13_code
def ym_apply : MethodName := ⟨R_M, "apply", "(IIII)V"⟩
abbrev bm_choose : ByteArray := prog_4_method_14_code
def ym_choose : MethodName := ⟨R_M, "choose", "(IIII)V"⟩
abbrev bm_restrict : ByteArray := prog_4_method_15_code
def ym_restrict : MethodName := ⟨R_M, "restrict", "(IIIZ)V"⟩
abbrev bm_quantify : ByteArray := prog_4_method_16_code
def ym_quantify : MethodName := ⟨R_M, "quantify", "(IIIZ)V"⟩
abbrev bm_product : ByteArray := prog_4_method_17_code
def ym_product : MethodName := ⟨R_M, "product", "(IIII)V"⟩
abbrev bm_compose : ByteArray := prog_4_method_18_code
def ym_compose : MethodName := ⟨R_M, "compose", "(IIII)V"⟩
abbrev bm_turn : ByteArray := prog_4_method_19_code
def ym_turn : MethodName := ⟨R_M, "turn", "(II)V"⟩
abbrev bm_truth : ByteArray := prog_4_method_20_code
def ym_truth : MethodName := ⟨R_M, "truth", "(II)Z"⟩
abbrev bm_same : ByteArray := prog_4_method_21_code
def ym_same : MethodName := ⟨R_M, "same", "(II)Z"⟩
abbrev bm_count : ByteArray := prog_4_method_22_code
def ym_count : MethodName := ⟨R_M, "count", "(I)I"⟩
abbrev bm_least : ByteArray := prog_4_method_23_code
def ym_least : MethodName := ⟨R_M, "least", "(I)I"⟩
abbrev bm_dependsOn : ByteArray := prog_4_method_24_code
def ym_dependsOn : MethodName := ⟨R_M, "dependsOn", "(I)I"⟩
abbrev bm_depends : ByteArray := prog_4_method_25_code
def ym_depends : MethodName := ⟨R_M, "depends", "(I)I"⟩
abbrev bm_cutBy : ByteArray := prog_4_method_26_code
def ym_cutBy : MethodName := ⟨R_M, "cutBy", "(IIZ)V"⟩
abbrev bm_put : ByteArray := prog_4_method_27_code
def ym_put : MethodName := ⟨R_M, "put", "(I)I"⟩
abbrev bm_tell : ByteArray := prog_4_method_28_code
def ym_tell : MethodName := ⟨R_M, "tell", "(II)V"⟩
abbrev bm_nodesOf : ByteArray := prog_4_method_29_code
def ym_nodesOf : MethodName := ⟨R_M, "nodesOf", "(II)I"⟩
abbrev bm_nodes : ByteArray := prog_4_method_30_code
def ym_nodes : MethodName := ⟨R_M, "nodes", "(I)I"⟩
abbrev bm_heap : ByteArray := prog_4_method_31_code
def ym_heap : MethodName := ⟨R_M, "heap", "()I"⟩
abbrev bm_order : ByteArray := prog_4_method_32_code
def ym_order : MethodName := ⟨R_M, "order", "(I)I"⟩
abbrev bm_swap : ByteArray := prog_4_method_33_code
def ym_swap : MethodName := ⟨R_M, "swap", "(I)I"⟩
abbrev bm_lay : ByteArray := prog_4_method_34_code
def ym_lay : MethodName := ⟨R_M, "lay", "(II)V"⟩
abbrev bm_place : ByteArray := prog_4_method_35_code
def ym_place : MethodName := ⟨R_M, "place", "(II)I"⟩
abbrev bm_sift : ByteArray := prog_4_method_36_code
def ym_sift : MethodName := ⟨R_M, "sift", "(I)I"⟩
abbrev bm_spread : ByteArray := prog_4_method_37_code
def ym_spread : MethodName := ⟨R_M, "spread", "(I)I"⟩
abbrev bm_isSet : ByteArray := prog_4_method_38_code
def ym_isSet : MethodName := ⟨R_M, "isSet", "(I)Z"⟩
abbrev bm_statesOf : ByteArray := prog_4_method_39_code
def ym_statesOf : MethodName := ⟨R_M, "statesOf", "(I)I"⟩
abbrev bm_keepStates : ByteArray := prog_4_method_40_code
def ym_keepStates : MethodName := ⟨R_M, "keepStates", "(II)V"⟩
abbrev bm_learnSteps : ByteArray := prog_4_method_41_code
def ym_learnSteps : MethodName := ⟨R_M, "learnSteps", "(I)V"⟩
abbrev bm_imageOf : ByteArray := prog_4_method_42_code
def ym_imageOf : MethodName := ⟨R_M, "imageOf", "(I)I"⟩
abbrev bm_stepsTo : ByteArray := prog_4_method_43_code
def ym_stepsTo : MethodName := ⟨R_M, "stepsTo", "(I)I"⟩
abbrev bm_sizeOf : ByteArray := prog_4_method_44_code
def ym_sizeOf : MethodName := ⟨R_M, "sizeOf", "(I)I"⟩
abbrev bm_image : ByteArray := prog_4_method_45_code
def ym_image : MethodName := ⟨R_M, "image", "(III)I"⟩
abbrev bm_reach : ByteArray := prog_4_method_46_code
def ym_reach : MethodName := ⟨R_M, "reach", "(III)I"⟩
abbrev bm_until : ByteArray := prog_4_method_47_code
def ym_until : MethodName := ⟨R_M, "until", "(II)I"⟩
abbrev bm_always : ByteArray := prog_4_method_48_code
def ym_always : MethodName := ⟨R_M, "always", "(I)I"⟩
abbrev bm_formulaOf : ByteArray := prog_4_method_49_code
def ym_formulaOf : MethodName := ⟨R_M, "formulaOf", "(III)I"⟩
abbrev bm_check : ByteArray := prog_4_method_50_code
def ym_check : MethodName := ⟨R_M, "check", "(IIIII)I"⟩
abbrev bm_astray : ByteArray := prog_4_method_51_code
def ym_astray : MethodName := ⟨R_M, "astray", "()I"⟩
abbrev bl_variable : ByteArray := method_3_code
def yl_variable : MethodName := ⟨R_L, "variable", "(LSymbolicChecker;II)I"⟩
abbrev bl_constant : ByteArray := method_4_code
def yl_constant : MethodName := ⟨R_L, "constant", "(LSymbolicChecker;IZ)I"⟩
abbrev bl_apply : ByteArray := method_5_code
def yl_apply : MethodName := ⟨R_L, "apply", "(LSymbolicChecker;IIII)I"⟩
abbrev bl_choose : ByteArray := method_6_code
def yl_choose : MethodName := ⟨R_L, "choose", "(LSymbolicChecker;IIII)I"⟩
abbrev bl_restrict : ByteArray := method_7_code
def yl_restrict : MethodName := ⟨R_L, "restrict", "(LSymbolicChecker;IIIZ)I"⟩
abbrev bl_quantify : ByteArray := method_8_code
def yl_quantify : MethodName := ⟨R_L, "quantify", "(LSymbolicChecker;IIIZ)I"⟩
abbrev bl_product : ByteArray := method_9_code
def yl_product : MethodName := ⟨R_L, "product", "(LSymbolicChecker;IIII)I"⟩
abbrev bl_compose : ByteArray := method_10_code
def yl_compose : MethodName := ⟨R_L, "compose", "(LSymbolicChecker;IIII)I"⟩
abbrev bl_turn : ByteArray := method_11_code
def yl_turn : MethodName := ⟨R_L, "turn", "(LSymbolicChecker;II)I"⟩
abbrev bl_truth : ByteArray := method_12_code
def yl_truth : MethodName := ⟨R_L, "truth", "(LSymbolicChecker;II[J)I"⟩
abbrev bl_same : ByteArray := method_13_code
def yl_same : MethodName := ⟨R_L, "same", "(LSymbolicChecker;II[J)I"⟩
abbrev bl_count : ByteArray := method_14_code
def yl_count : MethodName := ⟨R_L, "count", "(LSymbolicChecker;I[J)I"⟩
abbrev bl_least : ByteArray := method_15_code
def yl_least : MethodName := ⟨R_L, "least", "(LSymbolicChecker;I[J)I"⟩
abbrev bl_depends : ByteArray := method_16_code
def yl_depends : MethodName := ⟨R_L, "depends", "(LSymbolicChecker;I[J)I"⟩
abbrev bl_nodes : ByteArray := method_17_code
def yl_nodes : MethodName := ⟨R_L, "nodes", "(LSymbolicChecker;I[J)I"⟩
abbrev bl_order : ByteArray := method_18_code
def yl_order : MethodName := ⟨R_L, "order", "(LSymbolicChecker;I[J)I"⟩
abbrev bl_swap : ByteArray := method_19_code
def yl_swap : MethodName := ⟨R_L, "swap", "(LSymbolicChecker;I[J)I"⟩
abbrev bl_place : ByteArray := method_20_code
def yl_place : MethodName := ⟨R_L, "place", "(LSymbolicChecker;II[J)I"⟩
abbrev bl_sift : ByteArray := method_21_code
def yl_sift : MethodName := ⟨R_L, "sift", "(LSymbolicChecker;I[J)I"⟩
abbrev bl_image : ByteArray := method_22_code
def yl_image : MethodName := ⟨R_L, "image", "(LSymbolicChecker;III[J)I"⟩
abbrev bl_reach : ByteArray := method_23_code
def yl_reach : MethodName := ⟨R_L, "reach", "(LSymbolicChecker;III[J)I"⟩
abbrev bl_check : ByteArray := method_24_code
def yl_check : MethodName := ⟨R_L, "check", "(LSymbolicChecker;IIIII[J)I"⟩
abbrev ba_fill : ByteArray := prog_12_method_103_code
def ya_fill : MethodName := ⟨R_A, "fill", "([II)V"⟩
def wt_ok (w : Cond) : Bool := (w.onTables && w.keeps) || (match w with
  | .arrayClass _ => true
  | _ => false)
def wt_WS : List Cond := lw_tbl.filter wt_ok
theorem wt_in {w : Cond} (i : Nat) (h : lw_tbl[i]? = some w) (hk : wt_ok w = true) : w ∈ wt_WS := List.mem_filter.mpr ⟨List.mem_of_getElem? h, hk⟩
def wt_nest : List (String × Nat × MethodName × String) := [(R_X, 37, yd_join, R_X), (R_X, 41, yd_pick, R_X), (R_X, 44, yd_fix, R_X), (R_X, 51, yd_overlap, R_X), (R_X, 54, yd_mirror, R_X), (R_X, 62, yd_weight, R_X), (R_X, 65, yd_support, R_X)]
theorem lf_X_diagrams : Cond.fieldLink R_X 10 R_X "diagrams" "LSymbolicChecker$Diagrams;" ∈ wt_WS := wt_in 112 (by decide +kernel) (by decide +kernel)
theorem la_X_diagrams : Cond.laysFinal R_X R_X "diagrams" "LSymbolicChecker$Diagrams;" ∈ wt_WS := wt_in 113 (by decide +kernel) (by decide +kernel)
theorem in_X : ∀ w ∈ u_ws R_X F_X 1, w ∈ wt_WS := by
  intro w hw
  obtain ⟨k, hk, rfl⟩ := List.mem_map.mp hw
  have hk := List.mem_range.mp hk
  rcases (show k = 0 by omega) with rfl
  · exact la_X_diagrams
theorem lf_D_roots : Cond.fieldLink R_D 11 R_D "roots" "[I" ∈ wt_WS := wt_in 73 (by decide +kernel) (by decide +kernel)
theorem la_D_roots : Cond.laysFinal R_D R_D "roots" "[I" ∈ wt_WS := wt_in 85 (by decide +kernel) (by decide +kernel)
theorem lf_D_atLevel : Cond.fieldLink R_D 15 R_D "atLevel" "[I" ∈ wt_WS := wt_in 74 (by decide +kernel) (by decide +kernel)
theorem la_D_atLevel : Cond.laysFinal R_D R_D "atLevel" "[I" ∈ wt_WS := wt_in 87 (by decide +kernel) (by decide +kernel)
theorem lf_D_levelOf : Cond.fieldLink R_D 18 R_D "levelOf" "[I" ∈ wt_WS := wt_in 75 (by decide +kernel) (by decide +kernel)
theorem la_D_levelOf : Cond.laysFinal R_D R_D "levelOf" "[I" ∈ wt_WS := wt_in 89 (by decide +kernel) (by decide +kernel)
theorem lf_D_label : Cond.fieldLink R_D 21 R_D "label" "[I" ∈ wt_WS := wt_in 76 (by decide +kernel) (by decide +kernel)
theorem la_D_label : Cond.laysFinal R_D R_D "label" "[I" ∈ wt_WS := wt_in 91 (by decide +kernel) (by decide +kernel)
theorem lf_D_low : Cond.fieldLink R_D 24 R_D "low" "[I" ∈ wt_WS := wt_in 77 (by decide +kernel) (by decide +kernel)
theorem la_D_low : Cond.laysFinal R_D R_D "low" "[I" ∈ wt_WS := wt_in 93 (by decide +kernel) (by decide +kernel)
theorem lf_D_high : Cond.fieldLink R_D 27 R_D "high" "[I" ∈ wt_WS := wt_in 78 (by decide +kernel) (by decide +kernel)
theorem la_D_high : Cond.laysFinal R_D R_D "high" "[I" ∈ wt_WS := wt_in 95 (by decide +kernel) (by decide +kernel)
theorem lf_D_next : Cond.fieldLink R_D 30 R_D "next" "[I" ∈ wt_WS := wt_in 79 (by decide +kernel) (by decide +kernel)
theorem la_D_next : Cond.laysFinal R_D R_D "next" "[I" ∈ wt_WS := wt_in 97 (by decide +kernel) (by decide +kernel)
theorem lf_D_heads : Cond.fieldLink R_D 33 R_D "heads" "[I" ∈ wt_WS := wt_in 80 (by decide +kernel) (by decide +kernel)
theorem la_D_heads : Cond.laysFinal R_D R_D "heads" "[I" ∈ wt_WS := wt_in 99 (by decide +kernel) (by decide +kernel)
theorem lf_D_marked : Cond.fieldLink R_D 36 R_D "marked" "[Z" ∈ wt_WS := wt_in 81 (by decide +kernel) (by decide +kernel)
theorem la_D_marked : Cond.laysFinal R_D R_D "marked" "[Z" ∈ wt_WS := wt_in 101 (by decide +kernel) (by decide +kernel)
theorem lf_D_live : Cond.fieldLink R_D 40 R_D "live" "I" ∈ wt_WS := wt_in 82 (by decide +kernel) (by decide +kernel)
theorem la_D_live : Cond.lays R_D R_D "live" "I" ∈ wt_WS := wt_in 103 (by decide +kernel) (by decide +kernel)
theorem lf_D_end : Cond.fieldLink R_D 44 R_D "end" "I" ∈ wt_WS := wt_in 83 (by decide +kernel) (by decide +kernel)
theorem la_D_end : Cond.lays R_D R_D "end" "I" ∈ wt_WS := wt_in 105 (by decide +kernel) (by decide +kernel)
theorem lf_D_cursor : Cond.fieldLink R_D 47 R_D "cursor" "I" ∈ wt_WS := wt_in 84 (by decide +kernel) (by decide +kernel)
theorem la_D_cursor : Cond.lays R_D R_D "cursor" "I" ∈ wt_WS := wt_in 107 (by decide +kernel) (by decide +kernel)
theorem in_D : ∀ w ∈ u_ws R_D F_D 12, w ∈ wt_WS := by
  intro w hw
  obtain ⟨k, hk, rfl⟩ := List.mem_map.mp hw
  have hk := List.mem_range.mp hk
  rcases (show k = 0 ∨ k = 1 ∨ k = 2 ∨ k = 3 ∨ k = 4 ∨ k = 5 ∨ k = 6 ∨ k = 7 ∨ k = 8 ∨ k = 9 ∨ k = 10 ∨ k = 11 by omega) with rfl | rfl | rfl | rfl | rfl | rfl | rfl | rfl | rfl | rfl | rfl | rfl
  · exact la_D_roots
  · exact la_D_atLevel
  · exact la_D_levelOf
  · exact la_D_label
  · exact la_D_low
  · exact la_D_high
  · exact la_D_next
  · exact la_D_heads
  · exact la_D_marked
  · exact la_D_live
  · exact la_D_end
  · exact la_D_cursor
theorem lf_M_code : Cond.fieldLink R_M 50 R_M "code" "I" ∈ wt_WS := wt_in 571 (by decide +kernel) (by decide +kernel)
theorem la_M_code : Cond.lays R_M R_M "code" "I" ∈ wt_WS := wt_in 584 (by decide +kernel) (by decide +kernel)
theorem lf_M_words : Cond.fieldLink R_M 7 R_M "words" "[J" ∈ wt_WS := wt_in 572 (by decide +kernel) (by decide +kernel)
theorem la_M_words : Cond.laysFinal R_M R_M "words" "[J" ∈ wt_WS := wt_in 586 (by decide +kernel) (by decide +kernel)
theorem lf_M_levels : Cond.fieldLink R_M 13 R_M "levels" "[I" ∈ wt_WS := wt_in 573 (by decide +kernel) (by decide +kernel)
theorem la_M_levels : Cond.laysFinal R_M R_M "levels" "[I" ∈ wt_WS := wt_in 588 (by decide +kernel) (by decide +kernel)
theorem lf_M_before : Cond.fieldLink R_M 17 R_M "before" "[I" ∈ wt_WS := wt_in 574 (by decide +kernel) (by decide +kernel)
theorem la_M_before : Cond.laysFinal R_M R_M "before" "[I" ∈ wt_WS := wt_in 590 (by decide +kernel) (by decide +kernel)
theorem lf_M_cuts : Cond.fieldLink R_M 20 R_M "cuts" "[J" ∈ wt_WS := wt_in 575 (by decide +kernel) (by decide +kernel)
theorem la_M_cuts : Cond.laysFinal R_M R_M "cuts" "[J" ∈ wt_WS := wt_in 592 (by decide +kernel) (by decide +kernel)
theorem lf_M_many : Cond.fieldLink R_M 90 R_M "many" "I" ∈ wt_WS := wt_in 576 (by decide +kernel) (by decide +kernel)
theorem la_M_many : Cond.lays R_M R_M "many" "I" ∈ wt_WS := wt_in 594 (by decide +kernel) (by decide +kernel)
theorem lf_M_here : Cond.fieldLink R_M 23 R_M "here" "[I" ∈ wt_WS := wt_in 577 (by decide +kernel) (by decide +kernel)
theorem la_M_here : Cond.laysFinal R_M R_M "here" "[I" ∈ wt_WS := wt_in 596 (by decide +kernel) (by decide +kernel)
theorem lf_M_hereMany : Cond.fieldLink R_M 103 R_M "hereMany" "I" ∈ wt_WS := wt_in 578 (by decide +kernel) (by decide +kernel)
theorem la_M_hereMany : Cond.lays R_M R_M "hereMany" "I" ∈ wt_WS := wt_in 598 (by decide +kernel) (by decide +kernel)
theorem lf_M_next : Cond.fieldLink R_M 26 R_M "next" "[I" ∈ wt_WS := wt_in 579 (by decide +kernel) (by decide +kernel)
theorem la_M_next : Cond.laysFinal R_M R_M "next" "[I" ∈ wt_WS := wt_in 600 (by decide +kernel) (by decide +kernel)
theorem lf_M_nextMany : Cond.fieldLink R_M 93 R_M "nextMany" "I" ∈ wt_WS := wt_in 580 (by decide +kernel) (by decide +kernel)
theorem la_M_nextMany : Cond.lays R_M R_M "nextMany" "I" ∈ wt_WS := wt_in 602 (by decide +kernel) (by decide +kernel)
theorem lf_M_told : Cond.fieldLink R_M 29 R_M "told" "[I" ∈ wt_WS := wt_in 581 (by decide +kernel) (by decide +kernel)
theorem la_M_told : Cond.laysFinal R_M R_M "told" "[I" ∈ wt_WS := wt_in 604 (by decide +kernel) (by decide +kernel)
theorem lf_M_masks : Cond.fieldLink R_M 44 R_M "masks" "[J" ∈ wt_WS := wt_in 582 (by decide +kernel) (by decide +kernel)
theorem la_M_masks : Cond.laysFinal R_M R_M "masks" "[J" ∈ wt_WS := wt_in 606 (by decide +kernel) (by decide +kernel)
theorem lf_M_steps : Cond.fieldLink R_M 47 R_M "steps" "[I" ∈ wt_WS := wt_in 583 (by decide +kernel) (by decide +kernel)
theorem la_M_steps : Cond.laysFinal R_M R_M "steps" "[I" ∈ wt_WS := wt_in 608 (by decide +kernel) (by decide +kernel)
theorem in_M : ∀ w ∈ u_ws R_M F_M 13, w ∈ wt_WS := by
  intro w hw
  obtain ⟨k, hk, rfl⟩ := List.mem_map.mp hw
  have hk := List.mem_range.mp hk
  rcases (show k = 0 ∨ k = 1 ∨ k = 2 ∨ k = 3 ∨ k = 4 ∨ k = 5 ∨ k = 6 ∨ k = 7 ∨ k = 8 ∨ k = 9 ∨ k = 10 ∨ k = 11 ∨ k = 12 by omega) with rfl | rfl | rfl | rfl | rfl | rfl | rfl | rfl | rfl | rfl | rfl | rfl | rfl
  · exact la_M_code
  · exact la_M_words
  · exact la_M_levels
  · exact la_M_before
  · exact la_M_cuts
  · exact la_M_many
  · exact la_M_here
  · exact la_M_hereMany
  · exact la_M_next
  · exact la_M_nextMany
  · exact la_M_told
  · exact la_M_masks
  · exact la_M_steps
theorem lk_M_32 : Cond.constantLong R_M 32 (-6148914691236517206) ∈ wt_WS := wt_in 565 (by decide +kernel) (by decide +kernel)
theorem lk_M_34 : Cond.constantLong R_M 34 (-3689348814741910324) ∈ wt_WS := wt_in 566 (by decide +kernel) (by decide +kernel)
theorem lk_M_36 : Cond.constantLong R_M 36 (-1085102592571150096) ∈ wt_WS := wt_in 567 (by decide +kernel) (by decide +kernel)
theorem lk_M_38 : Cond.constantLong R_M 38 (-71777214294589696) ∈ wt_WS := wt_in 568 (by decide +kernel) (by decide +kernel)
theorem lk_M_40 : Cond.constantLong R_M 40 (-281470681808896) ∈ wt_WS := wt_in 569 (by decide +kernel) (by decide +kernel)
theorem lk_M_42 : Cond.constantLong R_M 42 (-4294967296) ∈ wt_WS := wt_in 570 (by decide +kernel) (by decide +kernel)
theorem lk_M_88 : Cond.constantLong R_M 88 (-1) ∈ wt_WS := wt_in 716 (by decide +kernel) (by decide +kernel)
theorem lk_M_117 : Cond.constant R_M 117 1000000 ∈ wt_WS := wt_in 749 (by decide +kernel) (by decide +kernel)
theorem lk_M_142 : Cond.constant R_M 142 65535 ∈ wt_WS := wt_in 792 (by decide +kernel) (by decide +kernel)
theorem mi_X : Cond.initialized R_X ∈ wt_WS := wt_in 46 (by decide +kernel) (by decide +kernel)
theorem mi_D : Cond.initialized R_D ∈ wt_WS := wt_in 47 (by decide +kernel) (by decide +kernel)
theorem mi_M : Cond.initialized R_M ∈ wt_WS := wt_in 49 (by decide +kernel) (by decide +kernel)
theorem mi_A : Cond.initialized R_A ∈ wt_WS := wt_in 48 (by decide +kernel) (by decide +kernel)
theorem mc_x_needRegister : Cond.code yx_needRegister bx_needRegister 1 none ∈ wt_WS := wt_in 161 (by decide +kernel) (by decide +kernel)
theorem ms_x_needRegister : Cond.static yx_needRegister ∈ wt_WS := wt_in 160 (by decide +kernel) (by decide +kernel)
theorem ml_X_x_needRegister : Cond.methodLink R_X 16 yx_needRegister ∈ wt_WS := wt_in 159 (by decide +kernel) (by decide +kernel)
theorem mc_x_needVariable : Cond.code yx_needVariable bx_needVariable 1 none ∈ wt_WS := wt_in 232 (by decide +kernel) (by decide +kernel)
theorem ms_x_needVariable : Cond.static yx_needVariable ∈ wt_WS := wt_in 231 (by decide +kernel) (by decide +kernel)
theorem ml_X_x_needVariable : Cond.methodLink R_X 20 yx_needVariable ∈ wt_WS := wt_in 230 (by decide +kernel) (by decide +kernel)
theorem mc_d_literal : Cond.code yd_literal bd_literal 2 (some .int) ∈ wt_WS := wt_in 237 (by decide +kernel) (by decide +kernel)
theorem mn_d_literal : Cond.instanceMethod yd_literal ∈ wt_WS := wt_in 235 (by decide +kernel) (by decide +kernel)
theorem me_d_literal : Cond.selects yd_literal.cls yd_literal yd_literal ∈ wt_WS := wt_in 236 (by decide +kernel) (by decide +kernel)
theorem ml_X_d_literal : Cond.methodLink R_X 23 yd_literal ∈ wt_WS := wt_in 234 (by decide +kernel) (by decide +kernel)
theorem mc_d_keep : Cond.code yd_keep bd_keep 4 none ∈ wt_WS := wt_in 249 (by decide +kernel) (by decide +kernel)
theorem mn_d_keep : Cond.instanceMethod yd_keep ∈ wt_WS := wt_in 247 (by decide +kernel) (by decide +kernel)
theorem me_d_keep : Cond.selects yd_keep.cls yd_keep yd_keep ∈ wt_WS := wt_in 248 (by decide +kernel) (by decide +kernel)
theorem ml_X_d_keep : Cond.methodLink R_X 27 yd_keep ∈ wt_WS := wt_in 246 (by decide +kernel) (by decide +kernel)
theorem mc_x_needBelow : Cond.code yx_needBelow bx_needBelow 2 none ∈ wt_WS := wt_in 279 (by decide +kernel) (by decide +kernel)
theorem ms_x_needBelow : Cond.static yx_needBelow ∈ wt_WS := wt_in 278 (by decide +kernel) (by decide +kernel)
theorem ml_X_x_needBelow : Cond.methodLink R_X 31 yx_needBelow ∈ wt_WS := wt_in 277 (by decide +kernel) (by decide +kernel)
theorem mc_d_root : Cond.code yd_root bd_root 2 (some .int) ∈ wt_WS := wt_in 299 (by decide +kernel) (by decide +kernel)
theorem mn_d_root : Cond.instanceMethod yd_root ∈ wt_WS := wt_in 297 (by decide +kernel) (by decide +kernel)
theorem me_d_root : Cond.selects yd_root.cls yd_root yd_root ∈ wt_WS := wt_in 298 (by decide +kernel) (by decide +kernel)
theorem ml_X_d_root : Cond.methodLink R_X 34 yd_root ∈ wt_WS := wt_in 296 (by decide +kernel) (by decide +kernel)
theorem mc_d_join : Cond.code yd_join bd_join 8 (some .int) ∈ wt_WS := wt_in 303 (by decide +kernel) (by decide +kernel)
theorem mn_d_join : Cond.instanceMethod yd_join ∈ wt_WS := wt_in 302 (by decide +kernel) (by decide +kernel)
theorem me_d_join : Cond.selects yd_join.cls yd_join yd_join ∈ wt_WS := wt_in 9 (by decide +kernel) (by decide +kernel)
theorem mc_d_pick : Cond.code yd_pick bd_pick 8 (some .int) ∈ wt_WS := wt_in 327 (by decide +kernel) (by decide +kernel)
theorem mn_d_pick : Cond.instanceMethod yd_pick ∈ wt_WS := wt_in 326 (by decide +kernel) (by decide +kernel)
theorem me_d_pick : Cond.selects yd_pick.cls yd_pick yd_pick ∈ wt_WS := wt_in 13 (by decide +kernel) (by decide +kernel)
theorem mc_d_fix : Cond.code yd_fix bd_fix 5 (some .int) ∈ wt_WS := wt_in 339 (by decide +kernel) (by decide +kernel)
theorem mn_d_fix : Cond.instanceMethod yd_fix ∈ wt_WS := wt_in 338 (by decide +kernel) (by decide +kernel)
theorem me_d_fix : Cond.selects yd_fix.cls yd_fix yd_fix ∈ wt_WS := wt_in 14 (by decide +kernel) (by decide +kernel)
theorem mc_d_negate : Cond.code yd_negate bd_negate 2 (some .int) ∈ wt_WS := wt_in 351 (by decide +kernel) (by decide +kernel)
theorem mn_d_negate : Cond.instanceMethod yd_negate ∈ wt_WS := wt_in 349 (by decide +kernel) (by decide +kernel)
theorem me_d_negate : Cond.selects yd_negate.cls yd_negate yd_negate ∈ wt_WS := wt_in 350 (by decide +kernel) (by decide +kernel)
theorem ml_X_d_negate : Cond.methodLink R_X 48 yd_negate ∈ wt_WS := wt_in 348 (by decide +kernel) (by decide +kernel)
theorem mc_d_overlap : Cond.code yd_overlap bd_overlap 8 (some .int) ∈ wt_WS := wt_in 355 (by decide +kernel) (by decide +kernel)
theorem mn_d_overlap : Cond.instanceMethod yd_overlap ∈ wt_WS := wt_in 354 (by decide +kernel) (by decide +kernel)
theorem me_d_overlap : Cond.selects yd_overlap.cls yd_overlap yd_overlap ∈ wt_WS := wt_in 15 (by decide +kernel) (by decide +kernel)
theorem mc_d_mirror : Cond.code yd_mirror bd_mirror 5 (some .int) ∈ wt_WS := wt_in 381 (by decide +kernel) (by decide +kernel)
theorem mn_d_mirror : Cond.instanceMethod yd_mirror ∈ wt_WS := wt_in 380 (by decide +kernel) (by decide +kernel)
theorem me_d_mirror : Cond.selects yd_mirror.cls yd_mirror yd_mirror ∈ wt_WS := wt_in 16 (by decide +kernel) (by decide +kernel)
theorem mc_d_value : Cond.code yd_value bd_value 5 (some .boolean) ∈ wt_WS := wt_in 393 (by decide +kernel) (by decide +kernel)
theorem mn_d_value : Cond.instanceMethod yd_value ∈ wt_WS := wt_in 391 (by decide +kernel) (by decide +kernel)
theorem me_d_value : Cond.selects yd_value.cls yd_value yd_value ∈ wt_WS := wt_in 392 (by decide +kernel) (by decide +kernel)
theorem ml_X_d_value : Cond.methodLink R_X 58 yd_value ∈ wt_WS := wt_in 390 (by decide +kernel) (by decide +kernel)
theorem mc_d_weight : Cond.code yd_weight bd_weight 3 (some .int) ∈ wt_WS := wt_in 411 (by decide +kernel) (by decide +kernel)
theorem mn_d_weight : Cond.instanceMethod yd_weight ∈ wt_WS := wt_in 410 (by decide +kernel) (by decide +kernel)
theorem me_d_weight : Cond.selects yd_weight.cls yd_weight yd_weight ∈ wt_WS := wt_in 17 (by decide +kernel) (by decide +kernel)
theorem mc_d_support : Cond.code yd_support bd_support 3 (some .int) ∈ wt_WS := wt_in 430 (by decide +kernel) (by decide +kernel)
theorem mn_d_support : Cond.instanceMethod yd_support ∈ wt_WS := wt_in 429 (by decide +kernel) (by decide +kernel)
theorem me_d_support : Cond.selects yd_support.cls yd_support yd_support ∈ wt_WS := wt_in 18 (by decide +kernel) (by decide +kernel)
theorem mc_d_size : Cond.code yd_size bd_size 2 (some .int) ∈ wt_WS := wt_in 442 (by decide +kernel) (by decide +kernel)
theorem mn_d_size : Cond.instanceMethod yd_size ∈ wt_WS := wt_in 440 (by decide +kernel) (by decide +kernel)
theorem me_d_size : Cond.selects yd_size.cls yd_size yd_size ∈ wt_WS := wt_in 441 (by decide +kernel) (by decide +kernel)
theorem ml_X_d_size : Cond.methodLink R_X 68 yd_size ∈ wt_WS := wt_in 439 (by decide +kernel) (by decide +kernel)
theorem mc_d_live : Cond.code yd_live bd_live 1 (some .int) ∈ wt_WS := wt_in 123 (by decide +kernel) (by decide +kernel)
theorem mn_d_live : Cond.instanceMethod yd_live ∈ wt_WS := wt_in 121 (by decide +kernel) (by decide +kernel)
theorem me_d_live : Cond.selects yd_live.cls yd_live yd_live ∈ wt_WS := wt_in 122 (by decide +kernel) (by decide +kernel)
theorem ml_X_d_live : Cond.methodLink R_X 71 yd_live ∈ wt_WS := wt_in 120 (by decide +kernel) (by decide +kernel)
theorem mc_x_needLevel : Cond.code yx_needLevel bx_needLevel 2 none ∈ wt_WS := wt_in 452 (by decide +kernel) (by decide +kernel)
theorem ms_x_needLevel : Cond.static yx_needLevel ∈ wt_WS := wt_in 451 (by decide +kernel) (by decide +kernel)
theorem ml_X_x_needLevel : Cond.methodLink R_X 75 yx_needLevel ∈ wt_WS := wt_in 450 (by decide +kernel) (by decide +kernel)
theorem mc_d_variableAt : Cond.code yd_variableAt bd_variableAt 2 (some .int) ∈ wt_WS := wt_in 457 (by decide +kernel) (by decide +kernel)
theorem mn_d_variableAt : Cond.instanceMethod yd_variableAt ∈ wt_WS := wt_in 455 (by decide +kernel) (by decide +kernel)
theorem me_d_variableAt : Cond.selects yd_variableAt.cls yd_variableAt yd_variableAt ∈ wt_WS := wt_in 456 (by decide +kernel) (by decide +kernel)
theorem ml_X_d_variableAt : Cond.methodLink R_X 78 yd_variableAt ∈ wt_WS := wt_in 454 (by decide +kernel) (by decide +kernel)
theorem mc_d_exchange : Cond.code yd_exchange bd_exchange 5 none ∈ wt_WS := wt_in 468 (by decide +kernel) (by decide +kernel)
theorem mn_d_exchange : Cond.instanceMethod yd_exchange ∈ wt_WS := wt_in 466 (by decide +kernel) (by decide +kernel)
theorem me_d_exchange : Cond.selects yd_exchange.cls yd_exchange yd_exchange ∈ wt_WS := wt_in 467 (by decide +kernel) (by decide +kernel)
theorem ml_X_d_exchange : Cond.methodLink R_X 81 yd_exchange ∈ wt_WS := wt_in 465 (by decide +kernel) (by decide +kernel)
theorem mc_d_move : Cond.code yd_move bd_move 4 none ∈ wt_WS := wt_in 487 (by decide +kernel) (by decide +kernel)
theorem mn_d_move : Cond.instanceMethod yd_move ∈ wt_WS := wt_in 485 (by decide +kernel) (by decide +kernel)
theorem me_d_move : Cond.selects yd_move.cls yd_move yd_move ∈ wt_WS := wt_in 486 (by decide +kernel) (by decide +kernel)
theorem ml_X_d_move : Cond.methodLink R_X 84 yd_move ∈ wt_WS := wt_in 484 (by decide +kernel) (by decide +kernel)
theorem mc_x_needSet : Cond.code yx_needSet bx_needSet 2 none ∈ wt_WS := wt_in 507 (by decide +kernel) (by decide +kernel)
theorem mn_x_needSet : Cond.instanceMethod yx_needSet ∈ wt_WS := wt_in 506 (by decide +kernel) (by decide +kernel)
theorem me_x_needSet : Cond.selects yx_needSet.cls yx_needSet yx_needSet ∈ wt_WS := wt_in 21 (by decide +kernel) (by decide +kernel)
theorem ml_X_x_needSet : Cond.methodLink R_X 87 yx_needSet ∈ wt_WS := wt_in 504 (by decide +kernel) (by decide +kernel)
theorem mc_x_after : Cond.code yx_after bx_after 3 (some .int) ∈ wt_WS := wt_in 527 (by decide +kernel) (by decide +kernel)
theorem mn_x_after : Cond.instanceMethod yx_after ∈ wt_WS := wt_in 526 (by decide +kernel) (by decide +kernel)
theorem me_x_after : Cond.selects yx_after.cls yx_after yx_after ∈ wt_WS := wt_in 22 (by decide +kernel) (by decide +kernel)
theorem ml_X_x_after : Cond.methodLink R_X 90 yx_after ∈ wt_WS := wt_in 524 (by decide +kernel) (by decide +kernel)
theorem mc_x_states : Cond.code yx_states bx_states 2 (some .int) ∈ wt_WS := wt_in 531 (by decide +kernel) (by decide +kernel)
theorem mn_x_states : Cond.instanceMethod yx_states ∈ wt_WS := wt_in 530 (by decide +kernel) (by decide +kernel)
theorem me_x_states : Cond.selects yx_states.cls yx_states yx_states ∈ wt_WS := wt_in 23 (by decide +kernel) (by decide +kernel)
theorem ml_X_x_states : Cond.methodLink R_X 93 yx_states ∈ wt_WS := wt_in 528 (by decide +kernel) (by decide +kernel)
theorem mc_d_hold : Cond.code yd_hold bd_hold 3 none ∈ wt_WS := wt_in 542 (by decide +kernel) (by decide +kernel)
theorem mn_d_hold : Cond.instanceMethod yd_hold ∈ wt_WS := wt_in 540 (by decide +kernel) (by decide +kernel)
theorem me_d_hold : Cond.selects yd_hold.cls yd_hold yd_hold ∈ wt_WS := wt_in 541 (by decide +kernel) (by decide +kernel)
theorem ml_X_d_hold : Cond.methodLink R_X 96 yd_hold ∈ wt_WS := wt_in 539 (by decide +kernel) (by decide +kernel)
theorem mc_d_collect : Cond.code yd_collect bd_collect 3 none ∈ wt_WS := wt_in 253 (by decide +kernel) (by decide +kernel)
theorem mn_d_collect : Cond.instanceMethod yd_collect ∈ wt_WS := wt_in 251 (by decide +kernel) (by decide +kernel)
theorem me_d_collect : Cond.selects yd_collect.cls yd_collect yd_collect ∈ wt_WS := wt_in 252 (by decide +kernel) (by decide +kernel)
theorem ml_X_d_collect : Cond.methodLink R_X 99 yd_collect ∈ wt_WS := wt_in 543 (by decide +kernel) (by decide +kernel)
theorem mc_x_before : Cond.code yx_before bx_before 3 (some .int) ∈ wt_WS := wt_in 554 (by decide +kernel) (by decide +kernel)
theorem mn_x_before : Cond.instanceMethod yx_before ∈ wt_WS := wt_in 553 (by decide +kernel) (by decide +kernel)
theorem me_x_before : Cond.selects yx_before.cls yx_before yx_before ∈ wt_WS := wt_in 24 (by decide +kernel) (by decide +kernel)
theorem ml_X_x_before : Cond.methodLink R_X 102 yx_before ∈ wt_WS := wt_in 551 (by decide +kernel) (by decide +kernel)
theorem mc_x_settle : Cond.code yx_settle bx_settle 8 (some .int) ∈ wt_WS := wt_in 558 (by decide +kernel) (by decide +kernel)
theorem mn_x_settle : Cond.instanceMethod yx_settle ∈ wt_WS := wt_in 557 (by decide +kernel) (by decide +kernel)
theorem me_x_settle : Cond.selects yx_settle.cls yx_settle yx_settle ∈ wt_WS := wt_in 25 (by decide +kernel) (by decide +kernel)
theorem ml_X_x_settle : Cond.methodLink R_X 105 yx_settle ∈ wt_WS := wt_in 555 (by decide +kernel) (by decide +kernel)
theorem mc_d_faults : Cond.code yd_faults bd_faults 3 (some .int) ∈ wt_WS := wt_in 131 (by decide +kernel) (by decide +kernel)
theorem mn_d_faults : Cond.instanceMethod yd_faults ∈ wt_WS := wt_in 129 (by decide +kernel) (by decide +kernel)
theorem me_d_faults : Cond.selects yd_faults.cls yd_faults yd_faults ∈ wt_WS := wt_in 130 (by decide +kernel) (by decide +kernel)
theorem ml_X_d_faults : Cond.methodLink R_X 108 yd_faults ∈ wt_WS := wt_in 128 (by decide +kernel) (by decide +kernel)
theorem mc_a_fill : Cond.code ya_fill ba_fill 4 none ∈ wt_WS := wt_in 72 (by decide +kernel) (by decide +kernel)
theorem ms_a_fill : Cond.static ya_fill ∈ wt_WS := wt_in 71 (by decide +kernel) (by decide +kernel)
theorem ml_D_a_fill : Cond.methodLink R_D 50 ya_fill ∈ wt_WS := wt_in 70 (by decide +kernel) (by decide +kernel)
theorem ml_D_d_collect : Cond.methodLink R_D 56 yd_collect ∈ wt_WS := wt_in 250 (by decide +kernel) (by decide +kernel)
theorem mc_d_node : Cond.code yd_node bd_node 6 (some .int) ∈ wt_WS := wt_in 241 (by decide +kernel) (by decide +kernel)
theorem mn_d_node : Cond.instanceMethod yd_node ∈ wt_WS := wt_in 240 (by decide +kernel) (by decide +kernel)
theorem me_d_node : Cond.selects yd_node.cls yd_node yd_node ∈ wt_WS := wt_in 5 (by decide +kernel) (by decide +kernel)
theorem ml_D_d_node : Cond.methodLink R_D 59 yd_node ∈ wt_WS := wt_in 238 (by decide +kernel) (by decide +kernel)
theorem ml_D_d_join : Cond.methodLink R_D 63 yd_join ∈ wt_WS := wt_in 312 (by decide +kernel) (by decide +kernel)
theorem mc_d_upper : Cond.code yd_upper bd_upper 3 (some .int) ∈ wt_WS := wt_in 307 (by decide +kernel) (by decide +kernel)
theorem mn_d_upper : Cond.instanceMethod yd_upper ∈ wt_WS := wt_in 306 (by decide +kernel) (by decide +kernel)
theorem me_d_upper : Cond.selects yd_upper.cls yd_upper yd_upper ∈ wt_WS := wt_in 10 (by decide +kernel) (by decide +kernel)
theorem ml_D_d_upper : Cond.methodLink R_D 67 yd_upper ∈ wt_WS := wt_in 304 (by decide +kernel) (by decide +kernel)
theorem mc_d_offWay : Cond.code yd_offWay bd_offWay 3 (some .int) ∈ wt_WS := wt_in 311 (by decide +kernel) (by decide +kernel)
theorem mn_d_offWay : Cond.instanceMethod yd_offWay ∈ wt_WS := wt_in 310 (by decide +kernel) (by decide +kernel)
theorem me_d_offWay : Cond.selects yd_offWay.cls yd_offWay yd_offWay ∈ wt_WS := wt_in 11 (by decide +kernel) (by decide +kernel)
theorem ml_D_d_offWay : Cond.methodLink R_D 71 yd_offWay ∈ wt_WS := wt_in 308 (by decide +kernel) (by decide +kernel)
theorem mc_d_onWay : Cond.code yd_onWay bd_onWay 3 (some .int) ∈ wt_WS := wt_in 316 (by decide +kernel) (by decide +kernel)
theorem mn_d_onWay : Cond.instanceMethod yd_onWay ∈ wt_WS := wt_in 315 (by decide +kernel) (by decide +kernel)
theorem me_d_onWay : Cond.selects yd_onWay.cls yd_onWay yd_onWay ∈ wt_WS := wt_in 12 (by decide +kernel) (by decide +kernel)
theorem ml_D_d_onWay : Cond.methodLink R_D 74 yd_onWay ∈ wt_WS := wt_in 313 (by decide +kernel) (by decide +kernel)
theorem ml_D_d_pick : Cond.methodLink R_D 77 yd_pick ∈ wt_WS := wt_in 328 (by decide +kernel) (by decide +kernel)
theorem ml_D_d_fix : Cond.methodLink R_D 80 yd_fix ∈ wt_WS := wt_in 340 (by decide +kernel) (by decide +kernel)
theorem ml_D_d_overlap : Cond.methodLink R_D 84 yd_overlap ∈ wt_WS := wt_in 356 (by decide +kernel) (by decide +kernel)
theorem ml_D_d_mirror : Cond.methodLink R_D 87 yd_mirror ∈ wt_WS := wt_in 382 (by decide +kernel) (by decide +kernel)
theorem ml_D_d_weight : Cond.methodLink R_D 90 yd_weight ∈ wt_WS := wt_in 412 (by decide +kernel) (by decide +kernel)
theorem ml_D_d_support : Cond.methodLink R_D 93 yd_support ∈ wt_WS := wt_in 431 (by decide +kernel) (by decide +kernel)
theorem mc_d_clearMarks : Cond.code yd_clearMarks bd_clearMarks 2 none ∈ wt_WS := wt_in 135 (by decide +kernel) (by decide +kernel)
theorem mn_d_clearMarks : Cond.instanceMethod yd_clearMarks ∈ wt_WS := wt_in 134 (by decide +kernel) (by decide +kernel)
theorem me_d_clearMarks : Cond.selects yd_clearMarks.cls yd_clearMarks yd_clearMarks ∈ wt_WS := wt_in 0 (by decide +kernel) (by decide +kernel)
theorem ml_D_d_clearMarks : Cond.methodLink R_D 96 yd_clearMarks ∈ wt_WS := wt_in 132 (by decide +kernel) (by decide +kernel)
theorem mc_d_mark : Cond.code yd_mark bd_mark 3 (some .int) ∈ wt_WS := wt_in 257 (by decide +kernel) (by decide +kernel)
theorem mn_d_mark : Cond.instanceMethod yd_mark ∈ wt_WS := wt_in 256 (by decide +kernel) (by decide +kernel)
theorem me_d_mark : Cond.selects yd_mark.cls yd_mark yd_mark ∈ wt_WS := wt_in 7 (by decide +kernel) (by decide +kernel)
theorem ml_D_d_mark : Cond.methodLink R_D 99 yd_mark ∈ wt_WS := wt_in 254 (by decide +kernel) (by decide +kernel)
theorem ml_D_d_exchange : Cond.methodLink R_D 102 yd_exchange ∈ wt_WS := wt_in 488 (by decide +kernel) (by decide +kernel)
theorem mc_d_seat : Cond.code yd_seat bd_seat 3 none ∈ wt_WS := wt_in 472 (by decide +kernel) (by decide +kernel)
theorem mn_d_seat : Cond.instanceMethod yd_seat ∈ wt_WS := wt_in 471 (by decide +kernel) (by decide +kernel)
theorem me_d_seat : Cond.selects yd_seat.cls yd_seat yd_seat ∈ wt_WS := wt_in 19 (by decide +kernel) (by decide +kernel)
theorem ml_D_d_seat : Cond.methodLink R_D 106 yd_seat ∈ wt_WS := wt_in 469 (by decide +kernel) (by decide +kernel)
theorem mc_d_lift : Cond.code yd_lift bd_lift 6 none ∈ wt_WS := wt_in 476 (by decide +kernel) (by decide +kernel)
theorem mn_d_lift : Cond.instanceMethod yd_lift ∈ wt_WS := wt_in 475 (by decide +kernel) (by decide +kernel)
theorem me_d_lift : Cond.selects yd_lift.cls yd_lift yd_lift ∈ wt_WS := wt_in 20 (by decide +kernel) (by decide +kernel)
theorem ml_D_d_lift : Cond.methodLink R_D 110 yd_lift ∈ wt_WS := wt_in 473 (by decide +kernel) (by decide +kernel)
theorem mc_d_sweep : Cond.code yd_sweep bd_sweep 4 none ∈ wt_WS := wt_in 261 (by decide +kernel) (by decide +kernel)
theorem mn_d_sweep : Cond.instanceMethod yd_sweep ∈ wt_WS := wt_in 260 (by decide +kernel) (by decide +kernel)
theorem me_d_sweep : Cond.selects yd_sweep.cls yd_sweep yd_sweep ∈ wt_WS := wt_in 8 (by decide +kernel) (by decide +kernel)
theorem ml_D_d_sweep : Cond.methodLink R_D 114 yd_sweep ∈ wt_WS := wt_in 258 (by decide +kernel) (by decide +kernel)
theorem mc_d_bucket : Cond.code yd_bucket bd_bucket 3 (some .int) ∈ wt_WS := wt_in 146 (by decide +kernel) (by decide +kernel)
theorem ms_d_bucket : Cond.static yd_bucket ∈ wt_WS := wt_in 145 (by decide +kernel) (by decide +kernel)
theorem ml_D_d_bucket : Cond.methodLink R_D 117 yd_bucket ∈ wt_WS := wt_in 144 (by decide +kernel) (by decide +kernel)
theorem mc_d_blameUnder : Cond.code yd_blameUnder bd_blameUnder 4 none ∈ wt_WS := wt_in 139 (by decide +kernel) (by decide +kernel)
theorem mn_d_blameUnder : Cond.instanceMethod yd_blameUnder ∈ wt_WS := wt_in 138 (by decide +kernel) (by decide +kernel)
theorem me_d_blameUnder : Cond.selects yd_blameUnder.cls yd_blameUnder yd_blameUnder ∈ wt_WS := wt_in 1 (by decide +kernel) (by decide +kernel)
theorem ml_D_d_blameUnder : Cond.methodLink R_D 120 yd_blameUnder ∈ wt_WS := wt_in 136 (by decide +kernel) (by decide +kernel)
theorem mc_d_blame : Cond.code yd_blame bd_blame 4 none ∈ wt_WS := wt_in 143 (by decide +kernel) (by decide +kernel)
theorem mn_d_blame : Cond.instanceMethod yd_blame ∈ wt_WS := wt_in 142 (by decide +kernel) (by decide +kernel)
theorem me_d_blame : Cond.selects yd_blame.cls yd_blame yd_blame ∈ wt_WS := wt_in 2 (by decide +kernel) (by decide +kernel)
theorem ml_D_d_blame : Cond.methodLink R_D 123 yd_blame ∈ wt_WS := wt_in 140 (by decide +kernel) (by decide +kernel)
theorem mc_d_found : Cond.code yd_found bd_found 7 (some .int) ∈ wt_WS := wt_in 150 (by decide +kernel) (by decide +kernel)
theorem mn_d_found : Cond.instanceMethod yd_found ∈ wt_WS := wt_in 149 (by decide +kernel) (by decide +kernel)
theorem me_d_found : Cond.selects yd_found.cls yd_found yd_found ∈ wt_WS := wt_in 3 (by decide +kernel) (by decide +kernel)
theorem ml_D_d_found : Cond.methodLink R_D 126 yd_found ∈ wt_WS := wt_in 147 (by decide +kernel) (by decide +kernel)
theorem mc_d_added : Cond.code yd_added bd_added 6 (some .int) ∈ wt_WS := wt_in 245 (by decide +kernel) (by decide +kernel)
theorem mn_d_added : Cond.instanceMethod yd_added ∈ wt_WS := wt_in 244 (by decide +kernel) (by decide +kernel)
theorem me_d_added : Cond.selects yd_added.cls yd_added yd_added ∈ wt_WS := wt_in 6 (by decide +kernel) (by decide +kernel)
theorem ml_D_d_added : Cond.methodLink R_D 129 yd_added ∈ wt_WS := wt_in 242 (by decide +kernel) (by decide +kernel)
theorem mc_m_in : Cond.code ym_in bm_in 3 (some .boolean) ∈ wt_WS := wt_in 625 (by decide +kernel) (by decide +kernel)
theorem ms_m_in : Cond.static ym_in ∈ wt_WS := wt_in 624 (by decide +kernel) (by decide +kernel)
theorem ml_M_m_in : Cond.methodLink R_M 54 ym_in ∈ wt_WS := wt_in 623 (by decide +kernel) (by decide +kernel)
theorem mc_m_isRegister : Cond.code ym_isRegister bm_isRegister 1 (some .boolean) ∈ wt_WS := wt_in 622 (by decide +kernel) (by decide +kernel)
theorem ms_m_isRegister : Cond.static ym_isRegister ∈ wt_WS := wt_in 621 (by decide +kernel) (by decide +kernel)
theorem ml_M_m_isRegister : Cond.methodLink R_M 58 ym_isRegister ∈ wt_WS := wt_in 620 (by decide +kernel) (by decide +kernel)
theorem mc_m_isVariable : Cond.code ym_isVariable bm_isVariable 1 (some .boolean) ∈ wt_WS := wt_in 628 (by decide +kernel) (by decide +kernel)
theorem ms_m_isVariable : Cond.static ym_isVariable ∈ wt_WS := wt_in 627 (by decide +kernel) (by decide +kernel)
theorem ml_M_m_isVariable : Cond.methodLink R_M 62 ym_isVariable ∈ wt_WS := wt_in 626 (by decide +kernel) (by decide +kernel)
theorem mc_m_clear : Cond.code ym_clear bm_clear 2 none ∈ wt_WS := wt_in 632 (by decide +kernel) (by decide +kernel)
theorem mn_m_clear : Cond.instanceMethod ym_clear ∈ wt_WS := wt_in 631 (by decide +kernel) (by decide +kernel)
theorem me_m_clear : Cond.selects ym_clear.cls ym_clear ym_clear ∈ wt_WS := wt_in 26 (by decide +kernel) (by decide +kernel)
theorem ml_M_m_clear : Cond.methodLink R_M 65 ym_clear ∈ wt_WS := wt_in 629 (by decide +kernel) (by decide +kernel)
theorem mc_m_set : Cond.code ym_set bm_set 3 none ∈ wt_WS := wt_in 636 (by decide +kernel) (by decide +kernel)
theorem mn_m_set : Cond.instanceMethod ym_set ∈ wt_WS := wt_in 635 (by decide +kernel) (by decide +kernel)
theorem me_m_set : Cond.selects ym_set.cls ym_set ym_set ∈ wt_WS := wt_in 27 (by decide +kernel) (by decide +kernel)
theorem ml_M_m_set : Cond.methodLink R_M 68 ym_set ∈ wt_WS := wt_in 633 (by decide +kernel) (by decide +kernel)
theorem mc_m_keep : Cond.code ym_keep bm_keep 3 none ∈ wt_WS := wt_in 640 (by decide +kernel) (by decide +kernel)
theorem mn_m_keep : Cond.instanceMethod ym_keep ∈ wt_WS := wt_in 639 (by decide +kernel) (by decide +kernel)
theorem me_m_keep : Cond.selects ym_keep.cls ym_keep ym_keep ∈ wt_WS := wt_in 28 (by decide +kernel) (by decide +kernel)
theorem ml_M_m_keep : Cond.methodLink R_M 72 ym_keep ∈ wt_WS := wt_in 637 (by decide +kernel) (by decide +kernel)
theorem mc_m_value : Cond.code ym_value bm_value 3 (some .boolean) ∈ wt_WS := wt_in 652 (by decide +kernel) (by decide +kernel)
theorem mn_m_value : Cond.instanceMethod ym_value ∈ wt_WS := wt_in 651 (by decide +kernel) (by decide +kernel)
theorem me_m_value : Cond.selects ym_value.cls ym_value ym_value ∈ wt_WS := wt_in 29 (by decide +kernel) (by decide +kernel)
theorem ml_M_m_value : Cond.methodLink R_M 76 ym_value ∈ wt_WS := wt_in 649 (by decide +kernel) (by decide +kernel)
theorem mc_m_with : Cond.code ym_with bm_with 3 (some .int) ∈ wt_WS := wt_in 663 (by decide +kernel) (by decide +kernel)
theorem ms_m_with : Cond.static ym_with ∈ wt_WS := wt_in 662 (by decide +kernel) (by decide +kernel)
theorem ml_M_m_with : Cond.methodLink R_M 80 ym_with ∈ wt_WS := wt_in 661 (by decide +kernel) (by decide +kernel)
theorem mc_m_dependsOn : Cond.code ym_dependsOn bm_dependsOn 5 (some .int) ∈ wt_WS := wt_in 703 (by decide +kernel) (by decide +kernel)
theorem mn_m_dependsOn : Cond.instanceMethod ym_dependsOn ∈ wt_WS := wt_in 702 (by decide +kernel) (by decide +kernel)
theorem me_m_dependsOn : Cond.selects ym_dependsOn.cls ym_dependsOn ym_dependsOn ∈ wt_WS := wt_in 30 (by decide +kernel) (by decide +kernel)
theorem ml_M_m_dependsOn : Cond.methodLink R_M 84 ym_dependsOn ∈ wt_WS := wt_in 700 (by decide +kernel) (by decide +kernel)
theorem mc_m_put : Cond.code ym_put bm_put 6 (some .int) ∈ wt_WS := wt_in 715 (by decide +kernel) (by decide +kernel)
theorem mn_m_put : Cond.instanceMethod ym_put ∈ wt_WS := wt_in 714 (by decide +kernel) (by decide +kernel)
theorem me_m_put : Cond.selects ym_put.cls ym_put ym_put ∈ wt_WS := wt_in 32 (by decide +kernel) (by decide +kernel)
theorem ml_M_m_put : Cond.methodLink R_M 96 ym_put ∈ wt_WS := wt_in 712 (by decide +kernel) (by decide +kernel)
theorem mc_m_tell : Cond.code ym_tell bm_tell 3 none ∈ wt_WS := wt_in 720 (by decide +kernel) (by decide +kernel)
theorem mn_m_tell : Cond.instanceMethod ym_tell ∈ wt_WS := wt_in 719 (by decide +kernel) (by decide +kernel)
theorem me_m_tell : Cond.selects ym_tell.cls ym_tell ym_tell ∈ wt_WS := wt_in 33 (by decide +kernel) (by decide +kernel)
theorem ml_M_m_tell : Cond.methodLink R_M 99 ym_tell ∈ wt_WS := wt_in 717 (by decide +kernel) (by decide +kernel)
theorem mc_m_cutBy : Cond.code ym_cutBy bm_cutBy 9 none ∈ wt_WS := wt_in 724 (by decide +kernel) (by decide +kernel)
theorem mn_m_cutBy : Cond.instanceMethod ym_cutBy ∈ wt_WS := wt_in 723 (by decide +kernel) (by decide +kernel)
theorem me_m_cutBy : Cond.selects ym_cutBy.cls ym_cutBy ym_cutBy ∈ wt_WS := wt_in 34 (by decide +kernel) (by decide +kernel)
theorem ml_M_m_cutBy : Cond.methodLink R_M 106 ym_cutBy ∈ wt_WS := wt_in 721 (by decide +kernel) (by decide +kernel)
theorem mc_m_nodesOf : Cond.code ym_nodesOf bm_nodesOf 6 (some .int) ∈ wt_WS := wt_in 711 (by decide +kernel) (by decide +kernel)
theorem mn_m_nodesOf : Cond.instanceMethod ym_nodesOf ∈ wt_WS := wt_in 710 (by decide +kernel) (by decide +kernel)
theorem me_m_nodesOf : Cond.selects ym_nodesOf.cls ym_nodesOf ym_nodesOf ∈ wt_WS := wt_in 31 (by decide +kernel) (by decide +kernel)
theorem ml_M_m_nodesOf : Cond.methodLink R_M 110 ym_nodesOf ∈ wt_WS := wt_in 708 (by decide +kernel) (by decide +kernel)
theorem mc_m_lay : Cond.code ym_lay bm_lay 5 none ∈ wt_WS := wt_in 744 (by decide +kernel) (by decide +kernel)
theorem mn_m_lay : Cond.instanceMethod ym_lay ∈ wt_WS := wt_in 743 (by decide +kernel) (by decide +kernel)
theorem me_m_lay : Cond.selects ym_lay.cls ym_lay ym_lay ∈ wt_WS := wt_in 35 (by decide +kernel) (by decide +kernel)
theorem ml_M_m_lay : Cond.methodLink R_M 114 ym_lay ∈ wt_WS := wt_in 741 (by decide +kernel) (by decide +kernel)
theorem mc_m_spread : Cond.code ym_spread bm_spread 1 (some .int) ∈ wt_WS := wt_in 764 (by decide +kernel) (by decide +kernel)
theorem ms_m_spread : Cond.static ym_spread ∈ wt_WS := wt_in 763 (by decide +kernel) (by decide +kernel)
theorem ml_M_m_spread : Cond.methodLink R_M 118 ym_spread ∈ wt_WS := wt_in 762 (by decide +kernel) (by decide +kernel)
theorem mc_m_isSet : Cond.code ym_isSet bm_isSet 2 (some .boolean) ∈ wt_WS := wt_in 757 (by decide +kernel) (by decide +kernel)
theorem mn_m_isSet : Cond.instanceMethod ym_isSet ∈ wt_WS := wt_in 756 (by decide +kernel) (by decide +kernel)
theorem me_m_isSet : Cond.selects ym_isSet.cls ym_isSet ym_isSet ∈ wt_WS := wt_in 36 (by decide +kernel) (by decide +kernel)
theorem ml_M_m_isSet : Cond.methodLink R_M 121 ym_isSet ∈ wt_WS := wt_in 754 (by decide +kernel) (by decide +kernel)
theorem mc_m_learnSteps : Cond.code ym_learnSteps bm_learnSteps 4 none ∈ wt_WS := wt_in 761 (by decide +kernel) (by decide +kernel)
theorem mn_m_learnSteps : Cond.instanceMethod ym_learnSteps ∈ wt_WS := wt_in 760 (by decide +kernel) (by decide +kernel)
theorem me_m_learnSteps : Cond.selects ym_learnSteps.cls ym_learnSteps ym_learnSteps ∈ wt_WS := wt_in 37 (by decide +kernel) (by decide +kernel)
theorem ml_M_m_learnSteps : Cond.methodLink R_M 124 ym_learnSteps ∈ wt_WS := wt_in 758 (by decide +kernel) (by decide +kernel)
theorem mc_m_statesOf : Cond.code ym_statesOf bm_statesOf 4 (some .int) ∈ wt_WS := wt_in 768 (by decide +kernel) (by decide +kernel)
theorem mn_m_statesOf : Cond.instanceMethod ym_statesOf ∈ wt_WS := wt_in 767 (by decide +kernel) (by decide +kernel)
theorem me_m_statesOf : Cond.selects ym_statesOf.cls ym_statesOf ym_statesOf ∈ wt_WS := wt_in 38 (by decide +kernel) (by decide +kernel)
theorem ml_M_m_statesOf : Cond.methodLink R_M 127 ym_statesOf ∈ wt_WS := wt_in 765 (by decide +kernel) (by decide +kernel)
theorem mc_m_imageOf : Cond.code ym_imageOf bm_imageOf 4 (some .int) ∈ wt_WS := wt_in 772 (by decide +kernel) (by decide +kernel)
theorem mn_m_imageOf : Cond.instanceMethod ym_imageOf ∈ wt_WS := wt_in 771 (by decide +kernel) (by decide +kernel)
theorem me_m_imageOf : Cond.selects ym_imageOf.cls ym_imageOf ym_imageOf ∈ wt_WS := wt_in 39 (by decide +kernel) (by decide +kernel)
theorem ml_M_m_imageOf : Cond.methodLink R_M 130 ym_imageOf ∈ wt_WS := wt_in 769 (by decide +kernel) (by decide +kernel)
theorem mc_m_keepStates : Cond.code ym_keepStates bm_keepStates 5 none ∈ wt_WS := wt_in 776 (by decide +kernel) (by decide +kernel)
theorem mn_m_keepStates : Cond.instanceMethod ym_keepStates ∈ wt_WS := wt_in 775 (by decide +kernel) (by decide +kernel)
theorem me_m_keepStates : Cond.selects ym_keepStates.cls ym_keepStates ym_keepStates ∈ wt_WS := wt_in 40 (by decide +kernel) (by decide +kernel)
theorem ml_M_m_keepStates : Cond.methodLink R_M 133 ym_keepStates ∈ wt_WS := wt_in 773 (by decide +kernel) (by decide +kernel)
theorem mc_m_sizeOf : Cond.code ym_sizeOf bm_sizeOf 3 (some .int) ∈ wt_WS := wt_in 779 (by decide +kernel) (by decide +kernel)
theorem ms_m_sizeOf : Cond.static ym_sizeOf ∈ wt_WS := wt_in 778 (by decide +kernel) (by decide +kernel)
theorem ml_M_m_sizeOf : Cond.methodLink R_M 136 ym_sizeOf ∈ wt_WS := wt_in 777 (by decide +kernel) (by decide +kernel)
theorem mc_m_stepsTo : Cond.code ym_stepsTo bm_stepsTo 4 (some .int) ∈ wt_WS := wt_in 796 (by decide +kernel) (by decide +kernel)
theorem mn_m_stepsTo : Cond.instanceMethod ym_stepsTo ∈ wt_WS := wt_in 795 (by decide +kernel) (by decide +kernel)
theorem me_m_stepsTo : Cond.selects ym_stepsTo.cls ym_stepsTo ym_stepsTo ∈ wt_WS := wt_in 42 (by decide +kernel) (by decide +kernel)
theorem ml_M_m_stepsTo : Cond.methodLink R_M 139 ym_stepsTo ∈ wt_WS := wt_in 793 (by decide +kernel) (by decide +kernel)
theorem mc_m_until : Cond.code ym_until bm_until 5 (some .int) ∈ wt_WS := wt_in 800 (by decide +kernel) (by decide +kernel)
theorem mn_m_until : Cond.instanceMethod ym_until ∈ wt_WS := wt_in 799 (by decide +kernel) (by decide +kernel)
theorem me_m_until : Cond.selects ym_until.cls ym_until ym_until ∈ wt_WS := wt_in 43 (by decide +kernel) (by decide +kernel)
theorem ml_M_m_until : Cond.methodLink R_M 143 ym_until ∈ wt_WS := wt_in 797 (by decide +kernel) (by decide +kernel)
theorem mc_m_always : Cond.code ym_always bm_always 4 (some .int) ∈ wt_WS := wt_in 804 (by decide +kernel) (by decide +kernel)
theorem mn_m_always : Cond.instanceMethod ym_always ∈ wt_WS := wt_in 803 (by decide +kernel) (by decide +kernel)
theorem me_m_always : Cond.selects ym_always.cls ym_always ym_always ∈ wt_WS := wt_in 44 (by decide +kernel) (by decide +kernel)
theorem ml_M_m_always : Cond.methodLink R_M 146 ym_always ∈ wt_WS := wt_in 801 (by decide +kernel) (by decide +kernel)
theorem mc_m_formulaOf : Cond.code ym_formulaOf bm_formulaOf 6 (some .int) ∈ wt_WS := wt_in 791 (by decide +kernel) (by decide +kernel)
theorem mn_m_formulaOf : Cond.instanceMethod ym_formulaOf ∈ wt_WS := wt_in 790 (by decide +kernel) (by decide +kernel)
theorem me_m_formulaOf : Cond.selects ym_formulaOf.cls ym_formulaOf ym_formulaOf ∈ wt_WS := wt_in 41 (by decide +kernel) (by decide +kernel)
theorem ml_M_m_formulaOf : Cond.methodLink R_M 149 ym_formulaOf ∈ wt_WS := wt_in 788 (by decide +kernel) (by decide +kernel)
end
section
/-! The judgement: a configuration of a method over ONE world (the class's object, its store with nine rows, the reference's object with nine rows, the law's row), and a function's value. My own. -/
abbrev wt_S : Type := Nat → Nat → Int32
abbrev wt_M : Type := (Nat → Nat → Int32) × (Nat → Nat → Int64)
abbrev wt_W : Type := wt_S × wt_M × (Nat → Int64)
abbrev wt_V : Type := Launch × (Nat → Nat) × va_G × (Nat → ClassId)
abbrev wt_Z : Type := Program × Env × Room × State × MethodId × Array Value × List Frame × Method × Code × wt_V
abbrev zz_p (z : wt_Z) : Program := z.1
abbrev zz_e (z : wt_Z) : Env := z.2.1
abbrev zz_R (z : wt_Z) : Room := z.2.2.1
abbrev zz_s (z : wt_Z) : State := z.2.2.2.1
abbrev zz_m (z : wt_Z) : MethodId := z.2.2.2.2.1
abbrev zz_a (z : wt_Z) : Array Value := z.2.2.2.2.2.1
abbrev zz_b (z : wt_Z) : List Frame := z.2.2.2.2.2.2.1
abbrev zz_t (z : wt_Z) : Method := z.2.2.2.2.2.2.2.1
abbrev zz_c (z : wt_Z) : Code := z.2.2.2.2.2.2.2.2.1
abbrev zz_v (z : wt_Z) : wt_V := z.2.2.2.2.2.2.2.2.2
abbrev ad_ (z : wt_Z) (k : Nat) : Nat := (zz_v z).2.1 k
def wt_wo (v : wt_V) (w : wt_W) : va_W := [(v.2.1 0, .inr (0, [.ref (v.2.1 1)])),
  (v.2.1 1, .inr (1, [.ref (v.2.1 2), .ref (v.2.1 3), .ref (v.2.1 4), .ref (v.2.1 5), .ref (v.2.1 6), .ref (v.2.1 7), .ref (v.2.1 8), .ref (v.2.1 9), .ref (v.2.1 10), .int (w.1 9 0), .int (w.1 9 1), .int (w.1 9 2)])),
  (v.2.1 2, .inl (v.2.2.2 0, 20, .inl (w.1 0))),
  (v.2.1 3, .inl (v.2.2.2 0, 8, .inl (w.1 1))),
  (v.2.1 4, .inl (v.2.2.2 0, 9, .inl (w.1 2))),
  (v.2.1 5, .inl (v.2.2.2 0, 2048, .inl (w.1 3))),
  (v.2.1 6, .inl (v.2.2.2 0, 2048, .inl (w.1 4))),
  (v.2.1 7, .inl (v.2.2.2 0, 2048, .inl (w.1 5))),
  (v.2.1 8, .inl (v.2.2.2 0, 2048, .inl (w.1 6))),
  (v.2.1 9, .inl (v.2.2.2 0, 256, .inl (w.1 7))),
  (v.2.1 10, .inl (v.2.2.2 1, 2048, .inl (w.1 8))),
  (v.2.1 11, .inr (2, [.int (w.2.1.1 9 0), .ref (v.2.1 18), .ref (v.2.1 12), .ref (v.2.1 13), .ref (v.2.1 19), .int (w.2.1.1 9 1), .ref (v.2.1 14), .int (w.2.1.1 9 2), .ref (v.2.1 15), .int (w.2.1.1 9 3), .ref (v.2.1 16), .ref (v.2.1 20), .ref (v.2.1 17)])),
  (v.2.1 12, .inl (v.2.2.2 0, 8, .inl (w.2.1.1 0))),
  (v.2.1 13, .inl (v.2.2.2 0, 8, .inl (w.2.1.1 1))),
  (v.2.1 14, .inl (v.2.2.2 0, 4000, .inl (w.2.1.1 2))),
  (v.2.1 15, .inl (v.2.2.2 0, 4000, .inl (w.2.1.1 3))),
  (v.2.1 16, .inl (v.2.2.2 0, 4000, .inl (w.2.1.1 4))),
  (v.2.1 17, .inl (v.2.2.2 0, 16, .inl (w.2.1.1 5))),
  (v.2.1 18, .inl (v.2.2.2 2, 72, .inr (.inl (w.2.1.2 0)))),
  (v.2.1 19, .inl (v.2.2.2 2, 16000, .inr (.inl (w.2.1.2 1)))),
  (v.2.1 20, .inl (v.2.2.2 2, 6, .inr (.inl (w.2.1.2 2)))),
  (v.2.1 21, .inl (v.2.2.2 2, 1, .inr (.inl w.2.2)))]
def wt_A (v : wt_V) : Nat → Prop := fun q => ∃ k : Nat, k < 22 ∧ q = v.2.1 k
abbrev wt_tys (v : wt_V) : List (ClassId × FieldType) := [(v.2.2.2 0, .int), (v.2.2.2 1, .boolean), (v.2.2.2 2, .long)]
def wt_NX (U : State) : Prop := ∀ q ∈ wt_nest, va_Nw (.methodLinkNest q.1 q.2.1 q.2.2.1 q.2.2.2) U
def wt_Dj (v : wt_V) : Prop := ∀ w : wt_W, va_D (wt_A v) (wt_wo v w)
def wt_Wd (v : wt_V) (w : wt_W) (U : State) : Prop := va_P v.2.2.1 wt_cl (wt_wo v w) U.heap ∧ va_K v.2.2.1 wt_cl (wt_tys v) U ∧ wt_NX U ∧ wt_Dj v
def wt_Am (z : wt_Z) (own : String) (cc : ByteArray) (nL h : Nat) (rt : Option FieldType) : Prop :=
  (zz_p z).tables.exec = Jvm.exec ∧ (zz_c z).code = cc ∧ (zz_c z).maxLocals = nL ∧ (zz_s z).vm.findClass own = some (zz_m z).cls ∧ (∀ w ∈ wt_WS, w.before (zz_a z) (zz_s z) = true) ∧ va_K (zz_v z).2.2.1 wt_cl (wt_tys (zz_v z)) (zz_s z) ∧ wt_NX (zz_s z) ∧ wt_Dj (zz_v z) ∧ h ≤ (zz_R z).frames ∧ 64 * h ≤ (zz_R z).locals ∧ (zz_t z).locks = false ∧ (zz_t z).sig.returnType = rt
def jj_J {ρ : Type} (z : wt_Z) (nL pc : Nat) (lv : List (Nat × Value)) (st : List Value) (w : wt_W) (Q : ρ → State → Prop) (x : Option ρ) : Prop :=
  ∀ r : ρ, x = some r → ∀ (H : Heap) (locs : List Loc) (ls : Array Slot), va_P (zz_v z).2.2.1 wt_cl (wt_wo (zz_v z) w) H → va_S (wt_A (zz_v z)) (zz_s z).heap H locs → lv_has ls nL lv →
    W (zz_p z) (zz_v z).1 (zz_e z) (zz_R z) (zz_s z) (zz_m z) (zz_a z) (zz_b z) (zz_t z) (zz_c z) H locs 0 0 (Q r) (F0 (zz_m z) pc ls st)
-- contracts
def wt_rm (h : Nat) : Room := { frames := h, cells := 0, slots := 0, locals := 64 * h }
def ct_Q (v : wt_V) (ret : Option Value) (w' : wt_W) : Array Value → State → Outcome → State → Prop := fun _ st oc t => oc = .returned ret ∧ wt_Wd v w' t ∧ va_F (wt_A v) st t
def ct_C (v : wt_V) (y : MethodName) (cw : Cond) (h : Nat) (as : List Value) (ret : Option Value) (w w' : wt_W) : Prop :=
  Met v.1 y (cw :: wt_WS) (wt_rm h) (va_Pc as (fun U => wt_Wd v w U)) (ct_Q v ret w') 0 0 (wt_A v)
def ct_M {ρ : Type} (z : wt_Z) (rv : ρ → Option Value) (rw : ρ → wt_W) : ρ → State → Prop := fun r => MQ (zz_b z) (ct_Q (zz_v z) (rv r) (rw r)) (zz_a z) (zz_s z) 0 0 (wt_A (zz_v z))
-- the words of the functions
def rd_ {β : Type} (f : Nat → Int32) (n : Nat) (i : Int32) (k : Int32 → Option β) : Option β := if i < 0 ∨ n ≤ i.toNatClampNeg then none else k (f i.toNatClampNeg)
def rd_L {β : Type} (f : Nat → Int64) (n : Nat) (i : Int32) (k : Int64 → Option β) : Option β := if i < 0 ∨ n ≤ i.toNatClampNeg then none else k (f i.toNatClampNeg)
def pu_S (s : wt_S) (k i : Nat) (x : Int32) : wt_S := fun r => if r = k then upd (s k) i x else s r
def pu_L (s : Nat → Nat → Int64) (k i : Nat) (x : Int64) : Nat → Nat → Int64 := fun r => if r = k then vp_updL (s k) i x else s r
def wr_S {β : Type} (s : wt_S) (k n : Nat) (i x : Int32) (f : wt_S → Option β) : Option β := if i < 0 ∨ n ≤ i.toNatClampNeg then none else f (pu_S s k i.toNatClampNeg x)
def wr_T {β : Type} (t : wt_M) (k n : Nat) (i x : Int32) (f : wt_M → Option β) : Option β := if i < 0 ∨ n ≤ i.toNatClampNeg then none else f (pu_S t.1 k i.toNatClampNeg x, t.2)
def wr_L {β : Type} (t : wt_M) (k n : Nat) (i : Int32) (x : Int64) (f : wt_M → Option β) : Option β := if i < 0 ∨ n ≤ i.toNatClampNeg then none else f (t.1, pu_L t.2 k i.toNatClampNeg x)
def sp_S {β : Type} (s : wt_S) (k : Nat) (x : Int32) (f : wt_S → Option β) : Option β := f (pu_S s 9 k x)
def sp_T {β : Type} (t : wt_M) (k : Nat) (x : Int32) (f : wt_M → Option β) : Option β := f (pu_S t.1 9 k x, t.2)
def rz_ {β : Type} (x : Int32) (f : Option β) : Option β := if narrow .boolean (.int x) = .int x then f else none
def jn_ {α β : Type} (k : α) (f : α → β) : β := f k
def b_U {β : Type} (x : Option Unit) (f : Unit → Option β) : Option β := x.bind f
def b_I {β : Type} (x : Option Int32) (f : Int32 → Option β) : Option β := x.bind f
def b_S {β : Type} (x : Option wt_S) (f : wt_S → Option β) : Option β := x.bind f
def b_T {β : Type} (x : Option wt_M) (f : wt_M → Option β) : Option β := x.bind f
def b_IS {β : Type} (x : Option (Int32 × wt_S)) (f : Int32 → wt_S → Option β) : Option β := x.bind fun q => f q.1 q.2
def b_IT {β : Type} (x : Option (Int32 × wt_M)) (f : Int32 → wt_M → Option β) : Option β := x.bind fun q => f q.1 q.2
abbrev q_U (z : wt_Z) (s : wt_S) (t : wt_M) (o : Nat → Int64) : Unit → State → Prop := ct_M z (fun _ : Unit => none) (fun _ => (s, t, o))
abbrev q_I (z : wt_Z) (s : wt_S) (t : wt_M) (o : Nat → Int64) : Int32 → State → Prop := ct_M z (fun r : Int32 => some (.int r)) (fun _ => (s, t, o))
abbrev q_S (z : wt_Z) (t : wt_M) (o : Nat → Int64) : wt_S → State → Prop := ct_M z (fun _ : wt_S => none) (fun r => (r, t, o))
abbrev q_T (z : wt_Z) (s : wt_S) (o : Nat → Int64) : wt_M → State → Prop := ct_M z (fun _ : wt_M => none) (fun r => (s, r, o))
abbrev q_IS (z : wt_Z) (t : wt_M) (o : Nat → Int64) : Int32 × wt_S → State → Prop := ct_M z (fun r : Int32 × wt_S => some (.int r.1)) (fun r => (r.2, t, o))
abbrev q_IT (z : wt_Z) (s : wt_S) (o : Nat → Int64) : Int32 × wt_M → State → Prop := ct_M z (fun r : Int32 × wt_M => some (.int r.1)) (fun r => (s, r.2, o))
theorem ki_m1 : Int32.ofInt (-1) = (-1) := by decide
theorem ki_0 : Int32.ofInt 0 = 0 := by decide
theorem ki_1 : Int32.ofInt 1 = 1 := by decide
theorem ki_2 : Int32.ofInt 2 = 2 := by decide
theorem ki_3 : Int32.ofInt 3 = 3 := by decide
theorem ki_4 : Int32.ofInt 4 = 4 := by decide
theorem ki_5 : Int32.ofInt 5 = 5 := by decide
theorem ki_6 : Int32.ofInt 6 = 6 := by decide
theorem kb_6 : (Int8.ofInt 6).toInt32 = 6 := by decide
theorem kb_7 : (Int8.ofInt 7).toInt32 = 7 := by decide
theorem kb_8 : (Int8.ofInt 8).toInt32 = 8 := by decide
theorem kb_9 : (Int8.ofInt 9).toInt32 = 9 := by decide
theorem kb_14 : (Int8.ofInt 14).toInt32 = 14 := by decide
theorem kb_15 : (Int8.ofInt 15).toInt32 = 15 := by decide
theorem kb_16 : (Int8.ofInt 16).toInt32 = 16 := by decide
theorem kb_17 : (Int8.ofInt 17).toInt32 = 17 := by decide
theorem kb_18 : (Int8.ofInt 18).toInt32 = 18 := by decide
theorem kb_19 : (Int8.ofInt 19).toInt32 = 19 := by decide
theorem kb_20 : (Int8.ofInt 20).toInt32 = 20 := by decide
theorem kb_31 : (Int8.ofInt 31).toInt32 = 31 := by decide
theorem kb_37 : (Int8.ofInt 37).toInt32 = 37 := by decide
theorem kb_63 : (Int8.ofInt 63).toInt32 = 63 := by decide
theorem kb_64 : (Int8.ofInt 64).toInt32 = 64 := by decide
theorem kb_68 : (Int8.ofInt 68).toInt32 = 68 := by decide
theorem kb_72 : (Int8.ofInt 72).toInt32 = 72 := by decide
theorem kb_85 : (Int8.ofInt 85).toInt32 = 85 := by decide
theorem kb_101 : (Int8.ofInt 101).toInt32 = 101 := by decide
theorem ks_170 : (Int16.ofInt 170).toInt32 = 170 := by decide
theorem ks_255 : (Int16.ofInt 255).toInt32 = 255 := by decide
theorem ks_256 : (Int16.ofInt 256).toInt32 = 256 := by decide
theorem ks_2048 : (Int16.ofInt 2048).toInt32 = 2048 := by decide
theorem ks_4000 : (Int16.ofInt 4000).toInt32 = 4000 := by decide
theorem ks_16000 : (Int16.ofInt 16000).toInt32 = 16000 := by decide
theorem kl_0 : Int64.ofNat ((0 : Fin 2) : Nat) = 0 := by decide
theorem kl_1 : Int64.ofNat ((1 : Fin 2) : Nat) = 1 := by decide
section Rows
variable {ρ : Type} {z : wt_Z} {own : String} {cc : ByteArray} {nL h pc q : Nat} {rt : Option FieldType} {lv lv' : List (Nat × Value)} {st : List Value} {w : wt_W} {Q : ρ → State → Prop} {X Y : Option ρ}
theorem ji_none : jj_J z nL pc lv st w Q none := fun _ hr => by cases hr
theorem ji_sub (ks : List Nat) (hl : lv_pick lv ks = lv') (k : jj_J z nL pc lv' st w Q X) : jj_J z nL pc lv st w Q X := fun r hr H locs ls hP hS hh => k r hr H locs ls hP hS (lv_sub hh ks hl)
theorem ji_jn2 {α : Type} {kk : α} {f : α → Option ρ} (P : α → Prop) (h1 : P kk) (h2 : ∀ j, P j → jj_J z nL pc lv st w Q (f j)) : jj_J z nL pc lv st w Q (jn_ kk f) := h2 kk h1
theorem ji_tsw {x c : Int32} (kt : x = c → jj_J z nL pc lv (.int x :: st) w Q X) (kf : ¬ x = c → jj_J z nL pc lv (.int x :: st) w Q Y) : jj_J z nL pc lv (.int x :: st) w Q (if x = c then X else Y) := by
  by_cases hc : x = c
  · rw [if_pos hc]; exact kt hc
  · rw [if_neg hc]; exact kf hc
theorem ji_tin {x c : Int32} {dflt lo hi off : Int} {offs : Array Int} {len g : Nat} (am : wt_Am z own cc nL h rt) (d : decode cc pc = .ok (.tableswitch dflt lo hi offs, len)) (e : x = c) (h1 : ¬ c.toInt < lo) (h2 : ¬ hi < c.toInt) (ho : offs[(c.toInt - lo).toNat]? = some off) (ht : (pc : Int) + off = (g : Int)) (k : jj_J z nL g lv st w Q X) : jj_J z nL pc lv (.int x :: st) w Q X := by
  subst e
  exact fun r hr H locs ls hP hS hh => lv_tableIn am.1 am.2.1 d h1 h2 ho ht (k r hr H locs ls hP hS hh)
theorem ji_tout {x : Int32} {dflt lo hi : Int} {offs : Array Int} {len g : Nat} (am : wt_Am z own cc nL h rt) (d : decode cc pc = .ok (.tableswitch dflt lo hi offs, len)) (h1 : x.toInt < lo ∨ hi < x.toInt) (ht : (pc : Int) + dflt = (g : Int)) (k : jj_J z nL g lv st w Q X) : jj_J z nL pc lv (.int x :: st) w Q X :=
  fun r hr H locs ls hP hS hh => lv_tableOut am.1 am.2.1 d h1 ht (k r hr H locs ls hP hS hh)
theorem ji_jn {α : Type} {kk : α} {f : α → Option ρ} (k : jj_J z nL pc lv st w Q (f kk)) : jj_J z nL pc lv st w Q (jn_ kk f) := k

theorem ji_iconst {n : Int} {v : Int32} (am : wt_Am z own cc nL h rt) (d : decode cc pc = .ok (.iconst n, 1)) (hv : Int32.ofInt n = v) (hq : pc + 1 = q) (k : jj_J z nL q lv (.int v :: st) w Q X) : jj_J z nL pc lv (st) w Q X := by
  subst hq
  exact fun r hr H locs ls hP hS hh => lv_iconst am.1 am.2.1 d hv (k r hr H locs ls hP hS hh)
theorem ji_bipush {n : Int} {v : Int32} (am : wt_Am z own cc nL h rt) (d : decode cc pc = .ok (.bipush n, 2)) (hv : (Int8.ofInt n).toInt32 = v) (hq : pc + 2 = q) (k : jj_J z nL q lv (.int v :: st) w Q X) : jj_J z nL pc lv (st) w Q X := by
  subst hq
  exact fun r hr H locs ls hP hS hh => lv_bipush am.1 am.2.1 d hv (k r hr H locs ls hP hS hh)
theorem ji_sipush {n : Int} {v : Int32} (am : wt_Am z own cc nL h rt) (d : decode cc pc = .ok (.sipush n, 3)) (hv : (Int16.ofInt n).toInt32 = v) (hq : pc + 3 = q) (k : jj_J z nL q lv (.int v :: st) w Q X) : jj_J z nL pc lv (st) w Q X := by
  subst hq
  exact fun r hr H locs ls hP hS hh => lv_sipush am.1 am.2.1 d hv (k r hr H locs ls hP hS hh)
theorem ji_lconst {n : Fin 2} {v : Int64} (am : wt_Am z own cc nL h rt) (d : decode cc pc = .ok (.lconst n, 1)) (hv : Int64.ofNat (n : Nat) = v) (hq : pc + 1 = q) (k : jj_J z nL q lv (.long v :: st) w Q X) : jj_J z nL pc lv (st) w Q X := by
  subst hq
  exact fun r hr H locs ls hP hS hh => lv_lconst am.1 am.2.1 d hv (k r hr H locs ls hP hS hh)
theorem ji_ldc {i : Nat} {v : Int32} (am : wt_Am z own cc nL h rt) (hc : Cond.constant own i v ∈ wt_WS) (d : decode cc pc = .ok (.ldc i, 2)) (hq : pc + 2 = q) (k : jj_J z nL q lv (.int v :: st) w Q X) : jj_J z nL pc lv st w Q X := by
  subst hq
  exact fun r hr H locs ls hP hS hh => lv_ldc am.1 am.2.1 am.2.2.2.1 (am.2.2.2.2.1 _ hc) d (k r hr H locs ls hP hS hh)
theorem ji_ldc2 {i : Nat} {v : Int64} (am : wt_Am z own cc nL h rt) (hc : Cond.constantLong own i v ∈ wt_WS) (d : decode cc pc = .ok (.ldc2_w i, 3)) (hq : pc + 3 = q) (k : jj_J z nL q lv (.long v :: st) w Q X) : jj_J z nL pc lv st w Q X := by
  subst hq
  exact fun r hr H locs ls hP hS hh => lv_ldc2 am.1 am.2.1 am.2.2.2.1 (am.2.2.2.2.1 _ hc) d (k r hr H locs ls hP hS hh)
theorem ji_iload_n {j : Fin 4} {i : Nat} {x : Int32} (am : wt_Am z own cc nL h rt) (d : decode cc pc = .ok (.iload_n j, 1)) (hi : (j : Nat) = i) (k0 : Nat) (hk : lv[k0]? = some (i, .int x)) (hq : pc + 1 = q) (k : jj_J z nL q lv (.int x :: st) w Q X) : jj_J z nL pc lv st w Q X := by
  subst hq
  exact fun r hr H locs ls hP hS hh => lv_iload_n am.1 am.2.1 d hi (lv_at hh k0 hk) (k r hr H locs ls hP hS hh)
theorem ji_iload {i : Nat} {x : Int32} (am : wt_Am z own cc nL h rt) (d : decode cc pc = .ok (.iload i, 2)) (k0 : Nat) (hk : lv[k0]? = some (i, .int x)) (hq : pc + 2 = q) (k : jj_J z nL q lv (.int x :: st) w Q X) : jj_J z nL pc lv st w Q X := by
  subst hq
  exact fun r hr H locs ls hP hS hh => lv_iload am.1 am.2.1 d (lv_at hh k0 hk) (k r hr H locs ls hP hS hh)
theorem ji_lload_n {j : Fin 4} {i : Nat} {x : Int64} (am : wt_Am z own cc nL h rt) (d : decode cc pc = .ok (.lload_n j, 1)) (hi : (j : Nat) = i) (k0 : Nat) (hk : lv[k0]? = some (i, .long x)) (hq : pc + 1 = q) (k : jj_J z nL q lv (.long x :: st) w Q X) : jj_J z nL pc lv st w Q X := by
  subst hq
  exact fun r hr H locs ls hP hS hh => lv_lload_n am.1 am.2.1 d hi (lv_at hh k0 hk) (k r hr H locs ls hP hS hh)
theorem ji_lload {i : Nat} {x : Int64} (am : wt_Am z own cc nL h rt) (d : decode cc pc = .ok (.lload i, 2)) (k0 : Nat) (hk : lv[k0]? = some (i, .long x)) (hq : pc + 2 = q) (k : jj_J z nL q lv (.long x :: st) w Q X) : jj_J z nL pc lv st w Q X := by
  subst hq
  exact fun r hr H locs ls hP hS hh => lv_lload am.1 am.2.1 d (lv_at hh k0 hk) (k r hr H locs ls hP hS hh)
theorem ji_aload_n {j : Fin 4} {i : Nat} {x : Nat} (am : wt_Am z own cc nL h rt) (d : decode cc pc = .ok (.aload_n j, 1)) (hi : (j : Nat) = i) (k0 : Nat) (hk : lv[k0]? = some (i, .ref x)) (hq : pc + 1 = q) (k : jj_J z nL q lv (.ref x :: st) w Q X) : jj_J z nL pc lv st w Q X := by
  subst hq
  exact fun r hr H locs ls hP hS hh => lv_aload_n am.1 am.2.1 d hi (lv_at hh k0 hk) (k r hr H locs ls hP hS hh)
theorem ji_aload {i : Nat} {x : Nat} (am : wt_Am z own cc nL h rt) (d : decode cc pc = .ok (.aload i, 2)) (k0 : Nat) (hk : lv[k0]? = some (i, .ref x)) (hq : pc + 2 = q) (k : jj_J z nL q lv (.ref x :: st) w Q X) : jj_J z nL pc lv st w Q X := by
  subst hq
  exact fun r hr H locs ls hP hS hh => lv_aload am.1 am.2.1 d (lv_at hh k0 hk) (k r hr H locs ls hP hS hh)
theorem ji_istore_n {j : Fin 4} {i : Nat} {x : Int32} (am : wt_Am z own cc nL h rt) (d : decode cc pc = .ok (.istore_n j, 1)) (hi : (j : Nat) = i) (ks : List Nat) (hl : lv_pick ((i, Value.int x) :: lv.filter (fun q => !(q.1 == i) && !(q.1 + 1 == i && q.2.category == 2))) ks = lv') (hn : Nat.ble (i + 1) nL = true) (hq : pc + 1 = q) (k : jj_J z nL q lv' st w Q X) : jj_J z nL pc lv (.int x :: st) w Q X := by
  subst hq
  exact fun r hr H locs ls hP hS hh => lv_istore_n am.1 am.2.1 d hi hh (Nat.le_of_ble_eq_true hn) rfl (fun ls2 h2 => k r hr H locs ls2 hP hS (lv_sub h2 ks hl))
theorem ji_istore {i : Nat} {x : Int32} (am : wt_Am z own cc nL h rt) (d : decode cc pc = .ok (.istore i, 2)) (ks : List Nat) (hl : lv_pick ((i, Value.int x) :: lv.filter (fun q => !(q.1 == i) && !(q.1 + 1 == i && q.2.category == 2))) ks = lv') (hn : Nat.ble (i + 1) nL = true) (hq : pc + 2 = q) (k : jj_J z nL q lv' st w Q X) : jj_J z nL pc lv (.int x :: st) w Q X := by
  subst hq
  exact fun r hr H locs ls hP hS hh => lv_istore am.1 am.2.1 d hh (Nat.le_of_ble_eq_true hn) rfl (fun ls2 h2 => k r hr H locs ls2 hP hS (lv_sub h2 ks hl))
theorem ji_lstore_n {j : Fin 4} {i : Nat} {x : Int64} (am : wt_Am z own cc nL h rt) (d : decode cc pc = .ok (.lstore_n j, 1)) (hi : (j : Nat) = i) (ks : List Nat) (hl : lv_pick ((i, Value.long x) :: lv.filter (fun q => !(q.1 == i) && (!(q.1 == i + 1) && !(q.1 + 1 == i && q.2.category == 2)))) ks = lv') (hn : Nat.ble (i + 2) nL = true) (hq : pc + 1 = q) (k : jj_J z nL q lv' st w Q X) : jj_J z nL pc lv (.long x :: st) w Q X := by
  subst hq
  exact fun r hr H locs ls hP hS hh => lv_lstore_n am.1 am.2.1 d hi hh (Nat.le_of_ble_eq_true hn) rfl (fun ls2 h2 => k r hr H locs ls2 hP hS (lv_sub h2 ks hl))
theorem ji_lstore {i : Nat} {x : Int64} (am : wt_Am z own cc nL h rt) (d : decode cc pc = .ok (.lstore i, 2)) (ks : List Nat) (hl : lv_pick ((i, Value.long x) :: lv.filter (fun q => !(q.1 == i) && (!(q.1 == i + 1) && !(q.1 + 1 == i && q.2.category == 2)))) ks = lv') (hn : Nat.ble (i + 2) nL = true) (hq : pc + 2 = q) (k : jj_J z nL q lv' st w Q X) : jj_J z nL pc lv (.long x :: st) w Q X := by
  subst hq
  exact fun r hr H locs ls hP hS hh => lv_lstore am.1 am.2.1 d hh (Nat.le_of_ble_eq_true hn) rfl (fun ls2 h2 => k r hr H locs ls2 hP hS (lv_sub h2 ks hl))
theorem ji_astore_n {j : Fin 4} {i : Nat} {x : Nat} (am : wt_Am z own cc nL h rt) (d : decode cc pc = .ok (.astore_n j, 1)) (hi : (j : Nat) = i) (ks : List Nat) (hl : lv_pick ((i, Value.ref x) :: lv.filter (fun q => !(q.1 == i) && !(q.1 + 1 == i && q.2.category == 2))) ks = lv') (hn : Nat.ble (i + 1) nL = true) (hq : pc + 1 = q) (k : jj_J z nL q lv' st w Q X) : jj_J z nL pc lv (.ref x :: st) w Q X := by
  subst hq
  exact fun r hr H locs ls hP hS hh => lv_astore_n am.1 am.2.1 d hi hh (Nat.le_of_ble_eq_true hn) rfl (fun ls2 h2 => k r hr H locs ls2 hP hS (lv_sub h2 ks hl))
theorem ji_astore {i : Nat} {x : Nat} (am : wt_Am z own cc nL h rt) (d : decode cc pc = .ok (.astore i, 2)) (ks : List Nat) (hl : lv_pick ((i, Value.ref x) :: lv.filter (fun q => !(q.1 == i) && !(q.1 + 1 == i && q.2.category == 2))) ks = lv') (hn : Nat.ble (i + 1) nL = true) (hq : pc + 2 = q) (k : jj_J z nL q lv' st w Q X) : jj_J z nL pc lv (.ref x :: st) w Q X := by
  subst hq
  exact fun r hr H locs ls hP hS hh => lv_astore am.1 am.2.1 d hh (Nat.le_of_ble_eq_true hn) rfl (fun ls2 h2 => k r hr H locs ls2 hP hS (lv_sub h2 ks hl))
theorem ji_iinc {i : Nat} {n : Int} {x v : Int32} (am : wt_Am z own cc nL h rt) (d : decode cc pc = .ok (.iinc i n, 3)) (k0 : Nat) (hk : lv[k0]? = some (i, .int x)) (hv : Int32.ofInt n = v) (ks : List Nat) (hl : lv_pick ((i, Value.int (x + v)) :: lv.filter (fun q => !(q.1 == i) && !(q.1 + 1 == i && q.2.category == 2))) ks = lv') (hn : Nat.ble (i + 1) nL = true) (hq : pc + 3 = q) (k : jj_J z nL q lv' st w Q X) : jj_J z nL pc lv st w Q X := by
  subst hq
  exact fun r hr H locs ls hP hS hh => lv_iinc am.1 am.2.1 d hh hk (congrArg (x + ·) hv) (Nat.le_of_ble_eq_true hn) rfl (fun ls2 h2 => k r hr H locs ls2 hP hS (lv_sub h2 ks hl))
theorem ji_iadd {x y : Int32} (am : wt_Am z own cc nL h rt) (d : decode cc pc = .ok (.iadd, 1)) (hq : pc + 1 = q) (k : jj_J z nL q lv (.int (x + y) :: st) w Q X) : jj_J z nL pc lv (.int y :: .int x :: st) w Q X := by
  subst hq
  exact fun r hr H locs ls hP hS hh => lv_iadd am.1 am.2.1 d (k r hr H locs ls hP hS hh)
theorem ji_isub {x y : Int32} (am : wt_Am z own cc nL h rt) (d : decode cc pc = .ok (.isub, 1)) (hq : pc + 1 = q) (k : jj_J z nL q lv (.int (x - y) :: st) w Q X) : jj_J z nL pc lv (.int y :: .int x :: st) w Q X := by
  subst hq
  exact fun r hr H locs ls hP hS hh => lv_isub am.1 am.2.1 d (k r hr H locs ls hP hS hh)
theorem ji_imul {x y : Int32} (am : wt_Am z own cc nL h rt) (d : decode cc pc = .ok (.imul, 1)) (hq : pc + 1 = q) (k : jj_J z nL q lv (.int (x * y) :: st) w Q X) : jj_J z nL pc lv (.int y :: .int x :: st) w Q X := by
  subst hq
  exact fun r hr H locs ls hP hS hh => lv_imul am.1 am.2.1 d (k r hr H locs ls hP hS hh)
theorem ji_iand {x y : Int32} (am : wt_Am z own cc nL h rt) (d : decode cc pc = .ok (.iand, 1)) (hq : pc + 1 = q) (k : jj_J z nL q lv (.int (x &&& y) :: st) w Q X) : jj_J z nL pc lv (.int y :: .int x :: st) w Q X := by
  subst hq
  exact fun r hr H locs ls hP hS hh => lv_iand am.1 am.2.1 d (k r hr H locs ls hP hS hh)
theorem ji_ior {x y : Int32} (am : wt_Am z own cc nL h rt) (d : decode cc pc = .ok (.ior, 1)) (hq : pc + 1 = q) (k : jj_J z nL q lv (.int (x ||| y) :: st) w Q X) : jj_J z nL pc lv (.int y :: .int x :: st) w Q X := by
  subst hq
  exact fun r hr H locs ls hP hS hh => lv_ior am.1 am.2.1 d (k r hr H locs ls hP hS hh)
theorem ji_ixor {x y : Int32} (am : wt_Am z own cc nL h rt) (d : decode cc pc = .ok (.ixor, 1)) (hq : pc + 1 = q) (k : jj_J z nL q lv (.int (x ^^^ y) :: st) w Q X) : jj_J z nL pc lv (.int y :: .int x :: st) w Q X := by
  subst hq
  exact fun r hr H locs ls hP hS hh => lv_ixor am.1 am.2.1 d (k r hr H locs ls hP hS hh)
theorem ji_ishl {x y : Int32} (am : wt_Am z own cc nL h rt) (d : decode cc pc = .ok (.ishl, 1)) (hq : pc + 1 = q) (k : jj_J z nL q lv (.int (x <<< (y &&& 31)) :: st) w Q X) : jj_J z nL pc lv (.int y :: .int x :: st) w Q X := by
  subst hq
  exact fun r hr H locs ls hP hS hh => lv_ishl am.1 am.2.1 d (k r hr H locs ls hP hS hh)
theorem ji_ishr {x y : Int32} (am : wt_Am z own cc nL h rt) (d : decode cc pc = .ok (.ishr, 1)) (hq : pc + 1 = q) (k : jj_J z nL q lv (.int (x >>> (y &&& 31)) :: st) w Q X) : jj_J z nL pc lv (.int y :: .int x :: st) w Q X := by
  subst hq
  exact fun r hr H locs ls hP hS hh => lv_ishr am.1 am.2.1 d (k r hr H locs ls hP hS hh)
theorem ji_idiv {x y : Int32} (am : wt_Am z own cc nL h rt) (d : decode cc pc = .ok (.idiv, 1)) (hy : ¬ y = 0) (hq : pc + 1 = q) (k : jj_J z nL q lv (.int (x / y) :: st) w Q X) : jj_J z nL pc lv (.int y :: .int x :: st) w Q X := by
  subst hq
  exact fun r hr H locs ls hP hS hh => lv_idiv am.1 am.2.1 d hy (k r hr H locs ls hP hS hh)
theorem ji_ladd {x y : Int64} (am : wt_Am z own cc nL h rt) (d : decode cc pc = .ok (.ladd, 1)) (hq : pc + 1 = q) (k : jj_J z nL q lv (.long (x + y) :: st) w Q X) : jj_J z nL pc lv (.long y :: .long x :: st) w Q X := by
  subst hq
  exact fun r hr H locs ls hP hS hh => lv_ladd am.1 am.2.1 d (k r hr H locs ls hP hS hh)
theorem ji_land {x y : Int64} (am : wt_Am z own cc nL h rt) (d : decode cc pc = .ok (.land, 1)) (hq : pc + 1 = q) (k : jj_J z nL q lv (.long (x &&& y) :: st) w Q X) : jj_J z nL pc lv (.long y :: .long x :: st) w Q X := by
  subst hq
  exact fun r hr H locs ls hP hS hh => lv_land am.1 am.2.1 d (k r hr H locs ls hP hS hh)
theorem ji_lor {x y : Int64} (am : wt_Am z own cc nL h rt) (d : decode cc pc = .ok (.lor, 1)) (hq : pc + 1 = q) (k : jj_J z nL q lv (.long (x ||| y) :: st) w Q X) : jj_J z nL pc lv (.long y :: .long x :: st) w Q X := by
  subst hq
  exact fun r hr H locs ls hP hS hh => lv_lor am.1 am.2.1 d (k r hr H locs ls hP hS hh)
theorem ji_lxor {x y : Int64} (am : wt_Am z own cc nL h rt) (d : decode cc pc = .ok (.lxor, 1)) (hq : pc + 1 = q) (k : jj_J z nL q lv (.long (x ^^^ y) :: st) w Q X) : jj_J z nL pc lv (.long y :: .long x :: st) w Q X := by
  subst hq
  exact fun r hr H locs ls hP hS hh => lv_lxor am.1 am.2.1 d (k r hr H locs ls hP hS hh)
theorem ji_lshl {x : Int64} {y : Int32} (am : wt_Am z own cc nL h rt) (d : decode cc pc = .ok (.lshl, 1)) (hq : pc + 1 = q) (k : jj_J z nL q lv (.long (x <<< (y.toInt64 &&& 63)) :: st) w Q X) : jj_J z nL pc lv (.int y :: .long x :: st) w Q X := by
  subst hq
  exact fun r hr H locs ls hP hS hh => lv_lshl am.1 am.2.1 d rfl (k r hr H locs ls hP hS hh)
theorem ji_lshr {x : Int64} {y : Int32} (am : wt_Am z own cc nL h rt) (d : decode cc pc = .ok (.lshr, 1)) (hq : pc + 1 = q) (k : jj_J z nL q lv (.long (x >>> (y.toInt64 &&& 63)) :: st) w Q X) : jj_J z nL pc lv (.int y :: .long x :: st) w Q X := by
  subst hq
  exact fun r hr H locs ls hP hS hh => lv_lshr am.1 am.2.1 d rfl (k r hr H locs ls hP hS hh)
theorem ji_lushr {x : Int64} {y : Int32} (am : wt_Am z own cc nL h rt) (d : decode cc pc = .ok (.lushr, 1)) (hq : pc + 1 = q) (k : jj_J z nL q lv (.long ((x.toUInt64 >>> (y.toInt64.toUInt64 &&& Int64.toUInt64 63)).toInt64) :: st) w Q X) : jj_J z nL pc lv (.int y :: .long x :: st) w Q X := by
  subst hq
  exact fun r hr H locs ls hP hS hh => lv_lushr am.1 am.2.1 d rfl (k r hr H locs ls hP hS hh)
theorem ji_i2l {x : Int32} (am : wt_Am z own cc nL h rt) (d : decode cc pc = .ok (.i2l, 1)) (hq : pc + 1 = q) (k : jj_J z nL q lv (.long (x.toInt64) :: st) w Q X) : jj_J z nL pc lv (.int x :: st) w Q X := by
  subst hq
  exact fun r hr H locs ls hP hS hh => lv_i2l am.1 am.2.1 d rfl (k r hr H locs ls hP hS hh)
theorem ji_dup {u : Value} (am : wt_Am z own cc nL h rt) (d : decode cc pc = .ok (.dup, 1)) (hu : u.category = 1) (hq : pc + 1 = q) (k : jj_J z nL q lv (u :: u :: st) w Q X) : jj_J z nL pc lv (u :: st) w Q X := by
  subst hq
  exact fun r hr H locs ls hP hS hh => lv_dup am.1 am.2.1 d hu (k r hr H locs ls hP hS hh)
theorem ji_dup2 {u t : Value} (am : wt_Am z own cc nL h rt) (d : decode cc pc = .ok (.dup2, 1)) (hu : u.category = 1) (ht : t.category = 1) (hq : pc + 1 = q) (k : jj_J z nL q lv (u :: t :: u :: t :: st) w Q X) : jj_J z nL pc lv (u :: t :: st) w Q X := by
  subst hq
  exact fun r hr H locs ls hP hS hh => lv_dup2_11 am.1 am.2.1 d hu ht (k r hr H locs ls hP hS hh)
theorem ji_goto {off : Int} (am : wt_Am z own cc nL h rt) (d : decode cc pc = .ok (.goto off, 3)) (ht : (pc : Int) + off = (q : Int)) (k : jj_J z nL q lv st w Q X) : jj_J z nL pc lv st w Q X := fun r hr H locs ls hP hS hh => lv_goto am.1 am.2.1 d ht (k r hr H locs ls hP hS hh)
theorem ji_icmp_eq {x y : Int32} {off : Int} {g : Nat} (am : wt_Am z own cc nL h rt) (d : decode cc pc = .ok (.if_icmp .eq off, 3)) (ht : (pc : Int) + off = (g : Int)) (hq : pc + 3 = q) (kt : jj_J z nL g lv st w Q X) (kf : jj_J z nL q lv st w Q Y) : jj_J z nL pc lv (.int y :: .int x :: st) w Q (if x = y then X else Y) := by
  subst hq
  exact fun r hr H locs ls hP hS hh => lv_icmp_eq am.1 am.2.1 d ht (fun hc => kt r (by first | exact (if_pos hc).symm.trans hr | exact (if_neg hc).symm.trans hr) H locs ls hP hS hh) (fun hc => kf r (by first | exact (if_pos hc).symm.trans hr | exact (if_neg hc).symm.trans hr) H locs ls hP hS hh)
theorem ji_if_eq {x : Int32} {off : Int} {g : Nat} (am : wt_Am z own cc nL h rt) (d : decode cc pc = .ok (.ifCond .eq off, 3)) (ht : (pc : Int) + off = (g : Int)) (hq : pc + 3 = q) (kt : jj_J z nL g lv st w Q X) (kf : jj_J z nL q lv st w Q Y) : jj_J z nL pc lv (.int x :: st) w Q (if x = 0 then X else Y) := by
  subst hq
  exact fun r hr H locs ls hP hS hh => lv_if_eq am.1 am.2.1 d ht (fun hc => kt r (by first | exact (if_pos hc).symm.trans hr | exact (if_neg hc).symm.trans hr) H locs ls hP hS hh) (fun hc => kf r (by first | exact (if_pos hc).symm.trans hr | exact (if_neg hc).symm.trans hr) H locs ls hP hS hh)
theorem ji_icmp_ne {x y : Int32} {off : Int} {g : Nat} (am : wt_Am z own cc nL h rt) (d : decode cc pc = .ok (.if_icmp .ne off, 3)) (ht : (pc : Int) + off = (g : Int)) (hq : pc + 3 = q) (kt : jj_J z nL g lv st w Q X) (kf : jj_J z nL q lv st w Q Y) : jj_J z nL pc lv (.int y :: .int x :: st) w Q (if x = y then Y else X) := by
  subst hq
  exact fun r hr H locs ls hP hS hh => lv_icmp_ne am.1 am.2.1 d ht (fun hc => kt r (by first | exact (if_pos hc).symm.trans hr | exact (if_neg hc).symm.trans hr) H locs ls hP hS hh) (fun hc => kf r (by first | exact (if_pos hc).symm.trans hr | exact (if_neg hc).symm.trans hr) H locs ls hP hS hh)
theorem ji_if_ne {x : Int32} {off : Int} {g : Nat} (am : wt_Am z own cc nL h rt) (d : decode cc pc = .ok (.ifCond .ne off, 3)) (ht : (pc : Int) + off = (g : Int)) (hq : pc + 3 = q) (kt : jj_J z nL g lv st w Q X) (kf : jj_J z nL q lv st w Q Y) : jj_J z nL pc lv (.int x :: st) w Q (if x = 0 then Y else X) := by
  subst hq
  exact fun r hr H locs ls hP hS hh => lv_if_ne am.1 am.2.1 d ht (fun hc => kt r (by first | exact (if_pos hc).symm.trans hr | exact (if_neg hc).symm.trans hr) H locs ls hP hS hh) (fun hc => kf r (by first | exact (if_pos hc).symm.trans hr | exact (if_neg hc).symm.trans hr) H locs ls hP hS hh)
theorem ji_icmp_lt {x y : Int32} {off : Int} {g : Nat} (am : wt_Am z own cc nL h rt) (d : decode cc pc = .ok (.if_icmp .lt off, 3)) (ht : (pc : Int) + off = (g : Int)) (hq : pc + 3 = q) (kt : jj_J z nL g lv st w Q X) (kf : jj_J z nL q lv st w Q Y) : jj_J z nL pc lv (.int y :: .int x :: st) w Q (if x < y then X else Y) := by
  subst hq
  exact fun r hr H locs ls hP hS hh => lv_icmp_lt am.1 am.2.1 d ht (fun hc => kt r (by first | exact (if_pos hc).symm.trans hr | exact (if_neg hc).symm.trans hr) H locs ls hP hS hh) (fun hc => kf r (by first | exact (if_pos hc).symm.trans hr | exact (if_neg hc).symm.trans hr) H locs ls hP hS hh)
theorem ji_if_lt {x : Int32} {off : Int} {g : Nat} (am : wt_Am z own cc nL h rt) (d : decode cc pc = .ok (.ifCond .lt off, 3)) (ht : (pc : Int) + off = (g : Int)) (hq : pc + 3 = q) (kt : jj_J z nL g lv st w Q X) (kf : jj_J z nL q lv st w Q Y) : jj_J z nL pc lv (.int x :: st) w Q (if x < 0 then X else Y) := by
  subst hq
  exact fun r hr H locs ls hP hS hh => lv_if_lt am.1 am.2.1 d ht (fun hc => kt r (by first | exact (if_pos hc).symm.trans hr | exact (if_neg hc).symm.trans hr) H locs ls hP hS hh) (fun hc => kf r (by first | exact (if_pos hc).symm.trans hr | exact (if_neg hc).symm.trans hr) H locs ls hP hS hh)
theorem ji_icmp_ge {x y : Int32} {off : Int} {g : Nat} (am : wt_Am z own cc nL h rt) (d : decode cc pc = .ok (.if_icmp .ge off, 3)) (ht : (pc : Int) + off = (g : Int)) (hq : pc + 3 = q) (kt : jj_J z nL g lv st w Q X) (kf : jj_J z nL q lv st w Q Y) : jj_J z nL pc lv (.int y :: .int x :: st) w Q (if y ≤ x then X else Y) := by
  subst hq
  exact fun r hr H locs ls hP hS hh => lv_icmp_ge am.1 am.2.1 d ht (fun hc => kt r (by first | exact (if_pos hc).symm.trans hr | exact (if_neg hc).symm.trans hr) H locs ls hP hS hh) (fun hc => kf r (by first | exact (if_pos hc).symm.trans hr | exact (if_neg hc).symm.trans hr) H locs ls hP hS hh)
theorem ji_if_ge {x : Int32} {off : Int} {g : Nat} (am : wt_Am z own cc nL h rt) (d : decode cc pc = .ok (.ifCond .ge off, 3)) (ht : (pc : Int) + off = (g : Int)) (hq : pc + 3 = q) (kt : jj_J z nL g lv st w Q X) (kf : jj_J z nL q lv st w Q Y) : jj_J z nL pc lv (.int x :: st) w Q (if 0 ≤ x then X else Y) := by
  subst hq
  exact fun r hr H locs ls hP hS hh => lv_if_ge am.1 am.2.1 d ht (fun hc => kt r (by first | exact (if_pos hc).symm.trans hr | exact (if_neg hc).symm.trans hr) H locs ls hP hS hh) (fun hc => kf r (by first | exact (if_pos hc).symm.trans hr | exact (if_neg hc).symm.trans hr) H locs ls hP hS hh)
theorem ji_icmp_gt {x y : Int32} {off : Int} {g : Nat} (am : wt_Am z own cc nL h rt) (d : decode cc pc = .ok (.if_icmp .gt off, 3)) (ht : (pc : Int) + off = (g : Int)) (hq : pc + 3 = q) (kt : jj_J z nL g lv st w Q X) (kf : jj_J z nL q lv st w Q Y) : jj_J z nL pc lv (.int y :: .int x :: st) w Q (if y < x then X else Y) := by
  subst hq
  exact fun r hr H locs ls hP hS hh => lv_icmp_gt am.1 am.2.1 d ht (fun hc => kt r (by first | exact (if_pos hc).symm.trans hr | exact (if_neg hc).symm.trans hr) H locs ls hP hS hh) (fun hc => kf r (by first | exact (if_pos hc).symm.trans hr | exact (if_neg hc).symm.trans hr) H locs ls hP hS hh)
theorem ji_if_gt {x : Int32} {off : Int} {g : Nat} (am : wt_Am z own cc nL h rt) (d : decode cc pc = .ok (.ifCond .gt off, 3)) (ht : (pc : Int) + off = (g : Int)) (hq : pc + 3 = q) (kt : jj_J z nL g lv st w Q X) (kf : jj_J z nL q lv st w Q Y) : jj_J z nL pc lv (.int x :: st) w Q (if 0 < x then X else Y) := by
  subst hq
  exact fun r hr H locs ls hP hS hh => lv_if_gt am.1 am.2.1 d ht (fun hc => kt r (by first | exact (if_pos hc).symm.trans hr | exact (if_neg hc).symm.trans hr) H locs ls hP hS hh) (fun hc => kf r (by first | exact (if_pos hc).symm.trans hr | exact (if_neg hc).symm.trans hr) H locs ls hP hS hh)
theorem ji_icmp_le {x y : Int32} {off : Int} {g : Nat} (am : wt_Am z own cc nL h rt) (d : decode cc pc = .ok (.if_icmp .le off, 3)) (ht : (pc : Int) + off = (g : Int)) (hq : pc + 3 = q) (kt : jj_J z nL g lv st w Q X) (kf : jj_J z nL q lv st w Q Y) : jj_J z nL pc lv (.int y :: .int x :: st) w Q (if x ≤ y then X else Y) := by
  subst hq
  exact fun r hr H locs ls hP hS hh => lv_icmp_le am.1 am.2.1 d ht (fun hc => kt r (by first | exact (if_pos hc).symm.trans hr | exact (if_neg hc).symm.trans hr) H locs ls hP hS hh) (fun hc => kf r (by first | exact (if_pos hc).symm.trans hr | exact (if_neg hc).symm.trans hr) H locs ls hP hS hh)
theorem ji_if_le {x : Int32} {off : Int} {g : Nat} (am : wt_Am z own cc nL h rt) (d : decode cc pc = .ok (.ifCond .le off, 3)) (ht : (pc : Int) + off = (g : Int)) (hq : pc + 3 = q) (kt : jj_J z nL g lv st w Q X) (kf : jj_J z nL q lv st w Q Y) : jj_J z nL pc lv (.int x :: st) w Q (if x ≤ 0 then X else Y) := by
  subst hq
  exact fun r hr H locs ls hP hS hh => lv_if_le am.1 am.2.1 d ht (fun hc => kt r (by first | exact (if_pos hc).symm.trans hr | exact (if_neg hc).symm.trans hr) H locs ls hP hS hh) (fun hc => kf r (by first | exact (if_pos hc).symm.trans hr | exact (if_neg hc).symm.trans hr) H locs ls hP hS hh)
theorem ji_lcmp_eq {x y : Int64} {off : Int} {g : Nat} (am : wt_Am z own cc nL h rt) (d : decode cc pc = .ok (.lcmp, 1)) (d2 : decode cc (pc + 1) = .ok (.ifCond .eq off, 3)) (ht : ((pc + 1 : Nat) : Int) + off = (g : Int)) (hq : pc + 4 = q) (kt : jj_J z nL g lv st w Q X) (kf : jj_J z nL q lv st w Q Y) : jj_J z nL pc lv (.long y :: .long x :: st) w Q (if x = y then X else Y) := by
  subst hq
  exact fun r hr H locs ls hP hS hh => W.lcmp am.1 am.2.1 d (lv_if_eq am.1 am.2.1 d2 ht (fun hc => kt r (by first | exact (if_pos ((lg_cmp_eq x y).mp hc)).symm.trans hr | exact (if_neg (fun e => hc ((lg_cmp_eq x y).mpr e))).symm.trans hr) H locs ls hP hS hh) (fun hc => kf r (by first | exact (if_pos ((lg_cmp_eq x y).mp hc)).symm.trans hr | exact (if_neg (fun e => hc ((lg_cmp_eq x y).mpr e))).symm.trans hr) H locs ls hP hS hh))
theorem ji_lcmp_ne {x y : Int64} {off : Int} {g : Nat} (am : wt_Am z own cc nL h rt) (d : decode cc pc = .ok (.lcmp, 1)) (d2 : decode cc (pc + 1) = .ok (.ifCond .ne off, 3)) (ht : ((pc + 1 : Nat) : Int) + off = (g : Int)) (hq : pc + 4 = q) (kt : jj_J z nL g lv st w Q X) (kf : jj_J z nL q lv st w Q Y) : jj_J z nL pc lv (.long y :: .long x :: st) w Q (if x = y then Y else X) := by
  subst hq
  exact fun r hr H locs ls hP hS hh => W.lcmp am.1 am.2.1 d (lv_if_ne am.1 am.2.1 d2 ht (fun hc => kt r (by first | exact (if_pos ((lg_cmp_eq x y).mp hc)).symm.trans hr | exact (if_neg (fun e => hc ((lg_cmp_eq x y).mpr e))).symm.trans hr) H locs ls hP hS hh) (fun hc => kf r (by first | exact (if_pos ((lg_cmp_eq x y).mp hc)).symm.trans hr | exact (if_neg (fun e => hc ((lg_cmp_eq x y).mpr e))).symm.trans hr) H locs ls hP hS hh))
theorem ji_iret {x : Int32} {rv : ρ → Option Value} {rw : ρ → wt_W} {r0 : ρ} (am : wt_Am z own cc nL h rt) (hrt : rt = some .int) (d : decode cc pc = .ok (.ireturn, 1)) (hv : rv r0 = some (.int x)) (hw : rw r0 = w) : jj_J z nL pc lv [.int x] w (ct_M z rv rw) (some r0) := by
  intro r hr H locs ls hP hS hh
  cases hr
  have hlk : (zz_t z).locks = false := am.2.2.2.2.2.2.2.2.2.2.1
  exact W.iret am.1 am.2.1 (am.2.2.2.2.2.2.2.2.2.2.2.trans hrt) (fun t ht hW => ⟨by rw [hv], ⟨by rw [ht, hw]; exact hP, va_K.moved hW.alike am.2.2.2.2.2.1, fun q hq => va_Nw.warmM hW (am.2.2.2.2.2.2.1 q hq), am.2.2.2.2.2.2.2.1⟩, hS.F ht⟩) hS.2.2 d
theorem ji_vret {rv : ρ → Option Value} {rw : ρ → wt_W} {r0 : ρ} (am : wt_Am z own cc nL h rt) (hrt : rt = none) (d : decode cc pc = .ok (.return_, 1)) (hv : rv r0 = none) (hw : rw r0 = w) : jj_J z nL pc lv [] w (ct_M z rv rw) (some r0) := by
  intro r hr H locs ls hP hS hh
  cases hr
  have hlk : (zz_t z).locks = false := am.2.2.2.2.2.2.2.2.2.2.1
  exact W.vret am.1 am.2.1 (am.2.2.2.2.2.2.2.2.2.2.2.trans hrt) (fun t ht hW => ⟨by rw [hv], ⟨by rw [ht, hw]; exact hP, va_K.moved hW.alike am.2.2.2.2.2.1, fun q hq => va_Nw.warmM hW (am.2.2.2.2.2.2.1 q hq), am.2.2.2.2.2.2.2.1⟩, hS.F ht⟩) hS.2.2 d
theorem ji_zret {x : Int32} {rv : ρ → Option Value} {rw : ρ → wt_W} {r0 : ρ} (am : wt_Am z own cc nL h rt) (hrt : rt = some .boolean) (d : decode cc pc = .ok (.ireturn, 1)) (hv : rv r0 = some (.int x)) (hw : rw r0 = w) : jj_J z nL pc lv [.int x] w (ct_M z rv rw) (rz_ x (some r0)) := by
  intro r hr H locs ls hP hS hh
  unfold rz_ at hr
  by_cases hn : narrow .boolean (.int x) = .int x
  · rw [if_pos hn] at hr
    cases hr
    have hlk : (zz_t z).locks = false := am.2.2.2.2.2.2.2.2.2.2.1
    exact W.zret am.1 am.2.1 (am.2.2.2.2.2.2.2.2.2.2.2.trans hrt) hn (fun t ht hW => ⟨by rw [hv], ⟨by rw [ht, hw]; exact hP, va_K.moved hW.alike am.2.2.2.2.2.1, fun q hq => va_Nw.warmM hW (am.2.2.2.2.2.2.1 q hq), am.2.2.2.2.2.2.2.1⟩, hS.F ht⟩) hS.2.2 d
  · rw [if_neg hn] at hr
    cases hr
theorem ji_alen_D3 {s : wt_S} {t : wt_M} {o : Nat → Int64} (am : wt_Am z own cc nL h rt) (d : decode cc pc = .ok (.arraylength, 1)) (hq : pc + 1 = q) (k : jj_J z nL q lv (.int 2048 :: st) (s, t, o) Q X) : jj_J z nL pc lv (.ref (ad_ z 5) :: st) (s, t, o) Q X := by
  subst hq
  exact fun r hr H locs ls hP hS hh => va_alen am.1 am.2.1 am.2.2.2.2.2.1 hP 5 0 (x := (2048, .inl (s 3))) rfl (ty := .int) rfl (v := 2048) (show Int32.ofNat 2048 = 2048 by decide) d (k r hr H locs ls hP hS hh)
theorem ji_alen_D7 {s : wt_S} {t : wt_M} {o : Nat → Int64} (am : wt_Am z own cc nL h rt) (d : decode cc pc = .ok (.arraylength, 1)) (hq : pc + 1 = q) (k : jj_J z nL q lv (.int 256 :: st) (s, t, o) Q X) : jj_J z nL pc lv (.ref (ad_ z 9) :: st) (s, t, o) Q X := by
  subst hq
  exact fun r hr H locs ls hP hS hh => va_alen am.1 am.2.1 am.2.2.2.2.2.1 hP 9 0 (x := (256, .inl (s 7))) rfl (ty := .int) rfl (v := 256) (show Int32.ofNat 256 = 256 by decide) d (k r hr H locs ls hP hS hh)
theorem ji_ald_D0 {s : wt_S} {t : wt_M} {o : Nat → Int64} {i : Int32} {f : Int32 → Option ρ} (am : wt_Am z own cc nL h rt) (d : decode cc pc = .ok (.iaload, 1)) (hq : pc + 1 = q) (k : ∀ x : Int32, jj_J z nL q lv (.int x :: st) (s, t, o) Q (f x)) : jj_J z nL pc lv (.int i :: .ref (ad_ z 2) :: st) (s, t, o) Q (rd_ (s 0) 20 i f) := by
  subst hq
  intro r hr H locs ls hP hS hh
  unfold rd_ at hr
  by_cases hi : i < 0 ∨ 20 ≤ i.toNatClampNeg
  · rw [if_pos hi] at hr
    cases hr
  · rw [if_neg hi] at hr
    exact va_iald am.1 am.2.1 am.2.2.2.2.2.1 hP 2 0 (n := 20) (f := s 0) rfl rfl hi d (k _ r hr H locs ls hP hS hh)
theorem ji_ast_D0 {s : wt_S} {t : wt_M} {o : Nat → Int64} {i : Int32} {x : Int32} {f : wt_S → Option ρ} (am : wt_Am z own cc nL h rt) (d : decode cc pc = .ok (.iastore, 1)) (hq : pc + 1 = q) (k : ∀ s2 : wt_S, jj_J z nL q lv st (s2, t, o) Q (f s2)) : jj_J z nL pc lv (.int x :: .int i :: .ref (ad_ z 2) :: st) (s, t, o) Q (wr_S s 0 20 i (x) f) := by
  subst hq
  intro r hr H locs ls hP hS hh
  unfold wr_S at hr
  by_cases hi : i < 0 ∨ 20 ≤ i.toNatClampNeg
  · rw [if_pos hi] at hr
    cases hr
  · rw [if_neg hi] at hr
    exact va_iast am.1 am.2.1 am.2.2.2.2.2.1 hP (am.2.2.2.2.2.2.2.1 _) hS 2 0 (n := 20) (f := s 0) rfl rfl hi d (fun H1 locs1 hP1 _ hS1 => k _ r hr H1 locs1 ls hP1 hS1 hh)
theorem ji_ald_D1 {s : wt_S} {t : wt_M} {o : Nat → Int64} {i : Int32} {f : Int32 → Option ρ} (am : wt_Am z own cc nL h rt) (d : decode cc pc = .ok (.iaload, 1)) (hq : pc + 1 = q) (k : ∀ x : Int32, jj_J z nL q lv (.int x :: st) (s, t, o) Q (f x)) : jj_J z nL pc lv (.int i :: .ref (ad_ z 3) :: st) (s, t, o) Q (rd_ (s 1) 8 i f) := by
  subst hq
  intro r hr H locs ls hP hS hh
  unfold rd_ at hr
  by_cases hi : i < 0 ∨ 8 ≤ i.toNatClampNeg
  · rw [if_pos hi] at hr
    cases hr
  · rw [if_neg hi] at hr
    exact va_iald am.1 am.2.1 am.2.2.2.2.2.1 hP 3 0 (n := 8) (f := s 1) rfl rfl hi d (k _ r hr H locs ls hP hS hh)
theorem ji_ast_D1 {s : wt_S} {t : wt_M} {o : Nat → Int64} {i : Int32} {x : Int32} {f : wt_S → Option ρ} (am : wt_Am z own cc nL h rt) (d : decode cc pc = .ok (.iastore, 1)) (hq : pc + 1 = q) (k : ∀ s2 : wt_S, jj_J z nL q lv st (s2, t, o) Q (f s2)) : jj_J z nL pc lv (.int x :: .int i :: .ref (ad_ z 3) :: st) (s, t, o) Q (wr_S s 1 8 i (x) f) := by
  subst hq
  intro r hr H locs ls hP hS hh
  unfold wr_S at hr
  by_cases hi : i < 0 ∨ 8 ≤ i.toNatClampNeg
  · rw [if_pos hi] at hr
    cases hr
  · rw [if_neg hi] at hr
    exact va_iast am.1 am.2.1 am.2.2.2.2.2.1 hP (am.2.2.2.2.2.2.2.1 _) hS 3 0 (n := 8) (f := s 1) rfl rfl hi d (fun H1 locs1 hP1 _ hS1 => k _ r hr H1 locs1 ls hP1 hS1 hh)
theorem ji_ald_D2 {s : wt_S} {t : wt_M} {o : Nat → Int64} {i : Int32} {f : Int32 → Option ρ} (am : wt_Am z own cc nL h rt) (d : decode cc pc = .ok (.iaload, 1)) (hq : pc + 1 = q) (k : ∀ x : Int32, jj_J z nL q lv (.int x :: st) (s, t, o) Q (f x)) : jj_J z nL pc lv (.int i :: .ref (ad_ z 4) :: st) (s, t, o) Q (rd_ (s 2) 9 i f) := by
  subst hq
  intro r hr H locs ls hP hS hh
  unfold rd_ at hr
  by_cases hi : i < 0 ∨ 9 ≤ i.toNatClampNeg
  · rw [if_pos hi] at hr
    cases hr
  · rw [if_neg hi] at hr
    exact va_iald am.1 am.2.1 am.2.2.2.2.2.1 hP 4 0 (n := 9) (f := s 2) rfl rfl hi d (k _ r hr H locs ls hP hS hh)
theorem ji_ast_D2 {s : wt_S} {t : wt_M} {o : Nat → Int64} {i : Int32} {x : Int32} {f : wt_S → Option ρ} (am : wt_Am z own cc nL h rt) (d : decode cc pc = .ok (.iastore, 1)) (hq : pc + 1 = q) (k : ∀ s2 : wt_S, jj_J z nL q lv st (s2, t, o) Q (f s2)) : jj_J z nL pc lv (.int x :: .int i :: .ref (ad_ z 4) :: st) (s, t, o) Q (wr_S s 2 9 i (x) f) := by
  subst hq
  intro r hr H locs ls hP hS hh
  unfold wr_S at hr
  by_cases hi : i < 0 ∨ 9 ≤ i.toNatClampNeg
  · rw [if_pos hi] at hr
    cases hr
  · rw [if_neg hi] at hr
    exact va_iast am.1 am.2.1 am.2.2.2.2.2.1 hP (am.2.2.2.2.2.2.2.1 _) hS 4 0 (n := 9) (f := s 2) rfl rfl hi d (fun H1 locs1 hP1 _ hS1 => k _ r hr H1 locs1 ls hP1 hS1 hh)
theorem ji_ald_D3 {s : wt_S} {t : wt_M} {o : Nat → Int64} {i : Int32} {f : Int32 → Option ρ} (am : wt_Am z own cc nL h rt) (d : decode cc pc = .ok (.iaload, 1)) (hq : pc + 1 = q) (k : ∀ x : Int32, jj_J z nL q lv (.int x :: st) (s, t, o) Q (f x)) : jj_J z nL pc lv (.int i :: .ref (ad_ z 5) :: st) (s, t, o) Q (rd_ (s 3) 2048 i f) := by
  subst hq
  intro r hr H locs ls hP hS hh
  unfold rd_ at hr
  by_cases hi : i < 0 ∨ 2048 ≤ i.toNatClampNeg
  · rw [if_pos hi] at hr
    cases hr
  · rw [if_neg hi] at hr
    exact va_iald am.1 am.2.1 am.2.2.2.2.2.1 hP 5 0 (n := 2048) (f := s 3) rfl rfl hi d (k _ r hr H locs ls hP hS hh)
theorem ji_ast_D3 {s : wt_S} {t : wt_M} {o : Nat → Int64} {i : Int32} {x : Int32} {f : wt_S → Option ρ} (am : wt_Am z own cc nL h rt) (d : decode cc pc = .ok (.iastore, 1)) (hq : pc + 1 = q) (k : ∀ s2 : wt_S, jj_J z nL q lv st (s2, t, o) Q (f s2)) : jj_J z nL pc lv (.int x :: .int i :: .ref (ad_ z 5) :: st) (s, t, o) Q (wr_S s 3 2048 i (x) f) := by
  subst hq
  intro r hr H locs ls hP hS hh
  unfold wr_S at hr
  by_cases hi : i < 0 ∨ 2048 ≤ i.toNatClampNeg
  · rw [if_pos hi] at hr
    cases hr
  · rw [if_neg hi] at hr
    exact va_iast am.1 am.2.1 am.2.2.2.2.2.1 hP (am.2.2.2.2.2.2.2.1 _) hS 5 0 (n := 2048) (f := s 3) rfl rfl hi d (fun H1 locs1 hP1 _ hS1 => k _ r hr H1 locs1 ls hP1 hS1 hh)
theorem ji_ald_D4 {s : wt_S} {t : wt_M} {o : Nat → Int64} {i : Int32} {f : Int32 → Option ρ} (am : wt_Am z own cc nL h rt) (d : decode cc pc = .ok (.iaload, 1)) (hq : pc + 1 = q) (k : ∀ x : Int32, jj_J z nL q lv (.int x :: st) (s, t, o) Q (f x)) : jj_J z nL pc lv (.int i :: .ref (ad_ z 6) :: st) (s, t, o) Q (rd_ (s 4) 2048 i f) := by
  subst hq
  intro r hr H locs ls hP hS hh
  unfold rd_ at hr
  by_cases hi : i < 0 ∨ 2048 ≤ i.toNatClampNeg
  · rw [if_pos hi] at hr
    cases hr
  · rw [if_neg hi] at hr
    exact va_iald am.1 am.2.1 am.2.2.2.2.2.1 hP 6 0 (n := 2048) (f := s 4) rfl rfl hi d (k _ r hr H locs ls hP hS hh)
theorem ji_ast_D4 {s : wt_S} {t : wt_M} {o : Nat → Int64} {i : Int32} {x : Int32} {f : wt_S → Option ρ} (am : wt_Am z own cc nL h rt) (d : decode cc pc = .ok (.iastore, 1)) (hq : pc + 1 = q) (k : ∀ s2 : wt_S, jj_J z nL q lv st (s2, t, o) Q (f s2)) : jj_J z nL pc lv (.int x :: .int i :: .ref (ad_ z 6) :: st) (s, t, o) Q (wr_S s 4 2048 i (x) f) := by
  subst hq
  intro r hr H locs ls hP hS hh
  unfold wr_S at hr
  by_cases hi : i < 0 ∨ 2048 ≤ i.toNatClampNeg
  · rw [if_pos hi] at hr
    cases hr
  · rw [if_neg hi] at hr
    exact va_iast am.1 am.2.1 am.2.2.2.2.2.1 hP (am.2.2.2.2.2.2.2.1 _) hS 6 0 (n := 2048) (f := s 4) rfl rfl hi d (fun H1 locs1 hP1 _ hS1 => k _ r hr H1 locs1 ls hP1 hS1 hh)
theorem ji_ald_D5 {s : wt_S} {t : wt_M} {o : Nat → Int64} {i : Int32} {f : Int32 → Option ρ} (am : wt_Am z own cc nL h rt) (d : decode cc pc = .ok (.iaload, 1)) (hq : pc + 1 = q) (k : ∀ x : Int32, jj_J z nL q lv (.int x :: st) (s, t, o) Q (f x)) : jj_J z nL pc lv (.int i :: .ref (ad_ z 7) :: st) (s, t, o) Q (rd_ (s 5) 2048 i f) := by
  subst hq
  intro r hr H locs ls hP hS hh
  unfold rd_ at hr
  by_cases hi : i < 0 ∨ 2048 ≤ i.toNatClampNeg
  · rw [if_pos hi] at hr
    cases hr
  · rw [if_neg hi] at hr
    exact va_iald am.1 am.2.1 am.2.2.2.2.2.1 hP 7 0 (n := 2048) (f := s 5) rfl rfl hi d (k _ r hr H locs ls hP hS hh)
theorem ji_ast_D5 {s : wt_S} {t : wt_M} {o : Nat → Int64} {i : Int32} {x : Int32} {f : wt_S → Option ρ} (am : wt_Am z own cc nL h rt) (d : decode cc pc = .ok (.iastore, 1)) (hq : pc + 1 = q) (k : ∀ s2 : wt_S, jj_J z nL q lv st (s2, t, o) Q (f s2)) : jj_J z nL pc lv (.int x :: .int i :: .ref (ad_ z 7) :: st) (s, t, o) Q (wr_S s 5 2048 i (x) f) := by
  subst hq
  intro r hr H locs ls hP hS hh
  unfold wr_S at hr
  by_cases hi : i < 0 ∨ 2048 ≤ i.toNatClampNeg
  · rw [if_pos hi] at hr
    cases hr
  · rw [if_neg hi] at hr
    exact va_iast am.1 am.2.1 am.2.2.2.2.2.1 hP (am.2.2.2.2.2.2.2.1 _) hS 7 0 (n := 2048) (f := s 5) rfl rfl hi d (fun H1 locs1 hP1 _ hS1 => k _ r hr H1 locs1 ls hP1 hS1 hh)
theorem ji_ald_D6 {s : wt_S} {t : wt_M} {o : Nat → Int64} {i : Int32} {f : Int32 → Option ρ} (am : wt_Am z own cc nL h rt) (d : decode cc pc = .ok (.iaload, 1)) (hq : pc + 1 = q) (k : ∀ x : Int32, jj_J z nL q lv (.int x :: st) (s, t, o) Q (f x)) : jj_J z nL pc lv (.int i :: .ref (ad_ z 8) :: st) (s, t, o) Q (rd_ (s 6) 2048 i f) := by
  subst hq
  intro r hr H locs ls hP hS hh
  unfold rd_ at hr
  by_cases hi : i < 0 ∨ 2048 ≤ i.toNatClampNeg
  · rw [if_pos hi] at hr
    cases hr
  · rw [if_neg hi] at hr
    exact va_iald am.1 am.2.1 am.2.2.2.2.2.1 hP 8 0 (n := 2048) (f := s 6) rfl rfl hi d (k _ r hr H locs ls hP hS hh)
theorem ji_ast_D6 {s : wt_S} {t : wt_M} {o : Nat → Int64} {i : Int32} {x : Int32} {f : wt_S → Option ρ} (am : wt_Am z own cc nL h rt) (d : decode cc pc = .ok (.iastore, 1)) (hq : pc + 1 = q) (k : ∀ s2 : wt_S, jj_J z nL q lv st (s2, t, o) Q (f s2)) : jj_J z nL pc lv (.int x :: .int i :: .ref (ad_ z 8) :: st) (s, t, o) Q (wr_S s 6 2048 i (x) f) := by
  subst hq
  intro r hr H locs ls hP hS hh
  unfold wr_S at hr
  by_cases hi : i < 0 ∨ 2048 ≤ i.toNatClampNeg
  · rw [if_pos hi] at hr
    cases hr
  · rw [if_neg hi] at hr
    exact va_iast am.1 am.2.1 am.2.2.2.2.2.1 hP (am.2.2.2.2.2.2.2.1 _) hS 8 0 (n := 2048) (f := s 6) rfl rfl hi d (fun H1 locs1 hP1 _ hS1 => k _ r hr H1 locs1 ls hP1 hS1 hh)
theorem ji_ald_D7 {s : wt_S} {t : wt_M} {o : Nat → Int64} {i : Int32} {f : Int32 → Option ρ} (am : wt_Am z own cc nL h rt) (d : decode cc pc = .ok (.iaload, 1)) (hq : pc + 1 = q) (k : ∀ x : Int32, jj_J z nL q lv (.int x :: st) (s, t, o) Q (f x)) : jj_J z nL pc lv (.int i :: .ref (ad_ z 9) :: st) (s, t, o) Q (rd_ (s 7) 256 i f) := by
  subst hq
  intro r hr H locs ls hP hS hh
  unfold rd_ at hr
  by_cases hi : i < 0 ∨ 256 ≤ i.toNatClampNeg
  · rw [if_pos hi] at hr
    cases hr
  · rw [if_neg hi] at hr
    exact va_iald am.1 am.2.1 am.2.2.2.2.2.1 hP 9 0 (n := 256) (f := s 7) rfl rfl hi d (k _ r hr H locs ls hP hS hh)
theorem ji_ast_D7 {s : wt_S} {t : wt_M} {o : Nat → Int64} {i : Int32} {x : Int32} {f : wt_S → Option ρ} (am : wt_Am z own cc nL h rt) (d : decode cc pc = .ok (.iastore, 1)) (hq : pc + 1 = q) (k : ∀ s2 : wt_S, jj_J z nL q lv st (s2, t, o) Q (f s2)) : jj_J z nL pc lv (.int x :: .int i :: .ref (ad_ z 9) :: st) (s, t, o) Q (wr_S s 7 256 i (x) f) := by
  subst hq
  intro r hr H locs ls hP hS hh
  unfold wr_S at hr
  by_cases hi : i < 0 ∨ 256 ≤ i.toNatClampNeg
  · rw [if_pos hi] at hr
    cases hr
  · rw [if_neg hi] at hr
    exact va_iast am.1 am.2.1 am.2.2.2.2.2.1 hP (am.2.2.2.2.2.2.2.1 _) hS 9 0 (n := 256) (f := s 7) rfl rfl hi d (fun H1 locs1 hP1 _ hS1 => k _ r hr H1 locs1 ls hP1 hS1 hh)
theorem ji_ald_D8 {s : wt_S} {t : wt_M} {o : Nat → Int64} {i : Int32} {f : Int32 → Option ρ} (am : wt_Am z own cc nL h rt) (d : decode cc pc = .ok (.baload, 1)) (hq : pc + 1 = q) (k : ∀ x : Int32, jj_J z nL q lv (.int x :: st) (s, t, o) Q (f x)) : jj_J z nL pc lv (.int i :: .ref (ad_ z 10) :: st) (s, t, o) Q (rd_ (s 8) 2048 i f) := by
  subst hq
  intro r hr H locs ls hP hS hh
  unfold rd_ at hr
  by_cases hi : i < 0 ∨ 2048 ≤ i.toNatClampNeg
  · rw [if_pos hi] at hr
    cases hr
  · rw [if_neg hi] at hr
    exact va_zald am.1 am.2.1 am.2.2.2.2.2.1 hP 10 1 (n := 2048) (f := s 8) rfl rfl hi d (k _ r hr H locs ls hP hS hh)
theorem ji_ast_D8 {s : wt_S} {t : wt_M} {o : Nat → Int64} {i : Int32} {x : Int32} {f : wt_S → Option ρ} (am : wt_Am z own cc nL h rt) (d : decode cc pc = .ok (.bastore, 1)) (hq : pc + 1 = q) (k : ∀ s2 : wt_S, jj_J z nL q lv st (s2, t, o) Q (f s2)) : jj_J z nL pc lv (.int x :: .int i :: .ref (ad_ z 10) :: st) (s, t, o) Q (wr_S s 8 2048 i (vp_nar .boolean x) f) := by
  subst hq
  intro r hr H locs ls hP hS hh
  unfold wr_S at hr
  by_cases hi : i < 0 ∨ 2048 ≤ i.toNatClampNeg
  · rw [if_pos hi] at hr
    cases hr
  · rw [if_neg hi] at hr
    exact va_zast am.1 am.2.1 am.2.2.2.2.2.1 hP (am.2.2.2.2.2.2.2.1 _) hS 10 1 (n := 2048) (f := s 8) rfl rfl hi d (fun H1 locs1 hP1 _ hS1 => k _ r hr H1 locs1 ls hP1 hS1 hh)
theorem ji_ald_Mlevels {s : wt_S} {t : wt_M} {o : Nat → Int64} {i : Int32} {f : Int32 → Option ρ} (am : wt_Am z own cc nL h rt) (d : decode cc pc = .ok (.iaload, 1)) (hq : pc + 1 = q) (k : ∀ x : Int32, jj_J z nL q lv (.int x :: st) (s, t, o) Q (f x)) : jj_J z nL pc lv (.int i :: .ref (ad_ z 12) :: st) (s, t, o) Q (rd_ (t.1 0) 8 i f) := by
  subst hq
  intro r hr H locs ls hP hS hh
  unfold rd_ at hr
  by_cases hi : i < 0 ∨ 8 ≤ i.toNatClampNeg
  · rw [if_pos hi] at hr
    cases hr
  · rw [if_neg hi] at hr
    exact va_iald am.1 am.2.1 am.2.2.2.2.2.1 hP 12 0 (n := 8) (f := t.1 0) rfl rfl hi d (k _ r hr H locs ls hP hS hh)
theorem ji_ast_Mlevels {s : wt_S} {t : wt_M} {o : Nat → Int64} {i : Int32} {x : Int32} {f : wt_M → Option ρ} (am : wt_Am z own cc nL h rt) (d : decode cc pc = .ok (.iastore, 1)) (hq : pc + 1 = q) (k : ∀ s2 : wt_M, jj_J z nL q lv st (s, s2, o) Q (f s2)) : jj_J z nL pc lv (.int x :: .int i :: .ref (ad_ z 12) :: st) (s, t, o) Q (wr_T t 0 8 i (x) f) := by
  subst hq
  intro r hr H locs ls hP hS hh
  unfold wr_T at hr
  by_cases hi : i < 0 ∨ 8 ≤ i.toNatClampNeg
  · rw [if_pos hi] at hr
    cases hr
  · rw [if_neg hi] at hr
    exact va_iast am.1 am.2.1 am.2.2.2.2.2.1 hP (am.2.2.2.2.2.2.2.1 _) hS 12 0 (n := 8) (f := t.1 0) rfl rfl hi d (fun H1 locs1 hP1 _ hS1 => k _ r hr H1 locs1 ls hP1 hS1 hh)
theorem ji_ald_Mbefore {s : wt_S} {t : wt_M} {o : Nat → Int64} {i : Int32} {f : Int32 → Option ρ} (am : wt_Am z own cc nL h rt) (d : decode cc pc = .ok (.iaload, 1)) (hq : pc + 1 = q) (k : ∀ x : Int32, jj_J z nL q lv (.int x :: st) (s, t, o) Q (f x)) : jj_J z nL pc lv (.int i :: .ref (ad_ z 13) :: st) (s, t, o) Q (rd_ (t.1 1) 8 i f) := by
  subst hq
  intro r hr H locs ls hP hS hh
  unfold rd_ at hr
  by_cases hi : i < 0 ∨ 8 ≤ i.toNatClampNeg
  · rw [if_pos hi] at hr
    cases hr
  · rw [if_neg hi] at hr
    exact va_iald am.1 am.2.1 am.2.2.2.2.2.1 hP 13 0 (n := 8) (f := t.1 1) rfl rfl hi d (k _ r hr H locs ls hP hS hh)
theorem ji_ast_Mbefore {s : wt_S} {t : wt_M} {o : Nat → Int64} {i : Int32} {x : Int32} {f : wt_M → Option ρ} (am : wt_Am z own cc nL h rt) (d : decode cc pc = .ok (.iastore, 1)) (hq : pc + 1 = q) (k : ∀ s2 : wt_M, jj_J z nL q lv st (s, s2, o) Q (f s2)) : jj_J z nL pc lv (.int x :: .int i :: .ref (ad_ z 13) :: st) (s, t, o) Q (wr_T t 1 8 i (x) f) := by
  subst hq
  intro r hr H locs ls hP hS hh
  unfold wr_T at hr
  by_cases hi : i < 0 ∨ 8 ≤ i.toNatClampNeg
  · rw [if_pos hi] at hr
    cases hr
  · rw [if_neg hi] at hr
    exact va_iast am.1 am.2.1 am.2.2.2.2.2.1 hP (am.2.2.2.2.2.2.2.1 _) hS 13 0 (n := 8) (f := t.1 1) rfl rfl hi d (fun H1 locs1 hP1 _ hS1 => k _ r hr H1 locs1 ls hP1 hS1 hh)
theorem ji_ald_Mhere {s : wt_S} {t : wt_M} {o : Nat → Int64} {i : Int32} {f : Int32 → Option ρ} (am : wt_Am z own cc nL h rt) (d : decode cc pc = .ok (.iaload, 1)) (hq : pc + 1 = q) (k : ∀ x : Int32, jj_J z nL q lv (.int x :: st) (s, t, o) Q (f x)) : jj_J z nL pc lv (.int i :: .ref (ad_ z 14) :: st) (s, t, o) Q (rd_ (t.1 2) 4000 i f) := by
  subst hq
  intro r hr H locs ls hP hS hh
  unfold rd_ at hr
  by_cases hi : i < 0 ∨ 4000 ≤ i.toNatClampNeg
  · rw [if_pos hi] at hr
    cases hr
  · rw [if_neg hi] at hr
    exact va_iald am.1 am.2.1 am.2.2.2.2.2.1 hP 14 0 (n := 4000) (f := t.1 2) rfl rfl hi d (k _ r hr H locs ls hP hS hh)
theorem ji_ast_Mhere {s : wt_S} {t : wt_M} {o : Nat → Int64} {i : Int32} {x : Int32} {f : wt_M → Option ρ} (am : wt_Am z own cc nL h rt) (d : decode cc pc = .ok (.iastore, 1)) (hq : pc + 1 = q) (k : ∀ s2 : wt_M, jj_J z nL q lv st (s, s2, o) Q (f s2)) : jj_J z nL pc lv (.int x :: .int i :: .ref (ad_ z 14) :: st) (s, t, o) Q (wr_T t 2 4000 i (x) f) := by
  subst hq
  intro r hr H locs ls hP hS hh
  unfold wr_T at hr
  by_cases hi : i < 0 ∨ 4000 ≤ i.toNatClampNeg
  · rw [if_pos hi] at hr
    cases hr
  · rw [if_neg hi] at hr
    exact va_iast am.1 am.2.1 am.2.2.2.2.2.1 hP (am.2.2.2.2.2.2.2.1 _) hS 14 0 (n := 4000) (f := t.1 2) rfl rfl hi d (fun H1 locs1 hP1 _ hS1 => k _ r hr H1 locs1 ls hP1 hS1 hh)
theorem ji_ald_Mnext {s : wt_S} {t : wt_M} {o : Nat → Int64} {i : Int32} {f : Int32 → Option ρ} (am : wt_Am z own cc nL h rt) (d : decode cc pc = .ok (.iaload, 1)) (hq : pc + 1 = q) (k : ∀ x : Int32, jj_J z nL q lv (.int x :: st) (s, t, o) Q (f x)) : jj_J z nL pc lv (.int i :: .ref (ad_ z 15) :: st) (s, t, o) Q (rd_ (t.1 3) 4000 i f) := by
  subst hq
  intro r hr H locs ls hP hS hh
  unfold rd_ at hr
  by_cases hi : i < 0 ∨ 4000 ≤ i.toNatClampNeg
  · rw [if_pos hi] at hr
    cases hr
  · rw [if_neg hi] at hr
    exact va_iald am.1 am.2.1 am.2.2.2.2.2.1 hP 15 0 (n := 4000) (f := t.1 3) rfl rfl hi d (k _ r hr H locs ls hP hS hh)
theorem ji_ast_Mnext {s : wt_S} {t : wt_M} {o : Nat → Int64} {i : Int32} {x : Int32} {f : wt_M → Option ρ} (am : wt_Am z own cc nL h rt) (d : decode cc pc = .ok (.iastore, 1)) (hq : pc + 1 = q) (k : ∀ s2 : wt_M, jj_J z nL q lv st (s, s2, o) Q (f s2)) : jj_J z nL pc lv (.int x :: .int i :: .ref (ad_ z 15) :: st) (s, t, o) Q (wr_T t 3 4000 i (x) f) := by
  subst hq
  intro r hr H locs ls hP hS hh
  unfold wr_T at hr
  by_cases hi : i < 0 ∨ 4000 ≤ i.toNatClampNeg
  · rw [if_pos hi] at hr
    cases hr
  · rw [if_neg hi] at hr
    exact va_iast am.1 am.2.1 am.2.2.2.2.2.1 hP (am.2.2.2.2.2.2.2.1 _) hS 15 0 (n := 4000) (f := t.1 3) rfl rfl hi d (fun H1 locs1 hP1 _ hS1 => k _ r hr H1 locs1 ls hP1 hS1 hh)
theorem ji_ald_Mtold {s : wt_S} {t : wt_M} {o : Nat → Int64} {i : Int32} {f : Int32 → Option ρ} (am : wt_Am z own cc nL h rt) (d : decode cc pc = .ok (.iaload, 1)) (hq : pc + 1 = q) (k : ∀ x : Int32, jj_J z nL q lv (.int x :: st) (s, t, o) Q (f x)) : jj_J z nL pc lv (.int i :: .ref (ad_ z 16) :: st) (s, t, o) Q (rd_ (t.1 4) 4000 i f) := by
  subst hq
  intro r hr H locs ls hP hS hh
  unfold rd_ at hr
  by_cases hi : i < 0 ∨ 4000 ≤ i.toNatClampNeg
  · rw [if_pos hi] at hr
    cases hr
  · rw [if_neg hi] at hr
    exact va_iald am.1 am.2.1 am.2.2.2.2.2.1 hP 16 0 (n := 4000) (f := t.1 4) rfl rfl hi d (k _ r hr H locs ls hP hS hh)
theorem ji_ast_Mtold {s : wt_S} {t : wt_M} {o : Nat → Int64} {i : Int32} {x : Int32} {f : wt_M → Option ρ} (am : wt_Am z own cc nL h rt) (d : decode cc pc = .ok (.iastore, 1)) (hq : pc + 1 = q) (k : ∀ s2 : wt_M, jj_J z nL q lv st (s, s2, o) Q (f s2)) : jj_J z nL pc lv (.int x :: .int i :: .ref (ad_ z 16) :: st) (s, t, o) Q (wr_T t 4 4000 i (x) f) := by
  subst hq
  intro r hr H locs ls hP hS hh
  unfold wr_T at hr
  by_cases hi : i < 0 ∨ 4000 ≤ i.toNatClampNeg
  · rw [if_pos hi] at hr
    cases hr
  · rw [if_neg hi] at hr
    exact va_iast am.1 am.2.1 am.2.2.2.2.2.1 hP (am.2.2.2.2.2.2.2.1 _) hS 16 0 (n := 4000) (f := t.1 4) rfl rfl hi d (fun H1 locs1 hP1 _ hS1 => k _ r hr H1 locs1 ls hP1 hS1 hh)
theorem ji_ald_Msteps {s : wt_S} {t : wt_M} {o : Nat → Int64} {i : Int32} {f : Int32 → Option ρ} (am : wt_Am z own cc nL h rt) (d : decode cc pc = .ok (.iaload, 1)) (hq : pc + 1 = q) (k : ∀ x : Int32, jj_J z nL q lv (.int x :: st) (s, t, o) Q (f x)) : jj_J z nL pc lv (.int i :: .ref (ad_ z 17) :: st) (s, t, o) Q (rd_ (t.1 5) 16 i f) := by
  subst hq
  intro r hr H locs ls hP hS hh
  unfold rd_ at hr
  by_cases hi : i < 0 ∨ 16 ≤ i.toNatClampNeg
  · rw [if_pos hi] at hr
    cases hr
  · rw [if_neg hi] at hr
    exact va_iald am.1 am.2.1 am.2.2.2.2.2.1 hP 17 0 (n := 16) (f := t.1 5) rfl rfl hi d (k _ r hr H locs ls hP hS hh)
theorem ji_ast_Msteps {s : wt_S} {t : wt_M} {o : Nat → Int64} {i : Int32} {x : Int32} {f : wt_M → Option ρ} (am : wt_Am z own cc nL h rt) (d : decode cc pc = .ok (.iastore, 1)) (hq : pc + 1 = q) (k : ∀ s2 : wt_M, jj_J z nL q lv st (s, s2, o) Q (f s2)) : jj_J z nL pc lv (.int x :: .int i :: .ref (ad_ z 17) :: st) (s, t, o) Q (wr_T t 5 16 i (x) f) := by
  subst hq
  intro r hr H locs ls hP hS hh
  unfold wr_T at hr
  by_cases hi : i < 0 ∨ 16 ≤ i.toNatClampNeg
  · rw [if_pos hi] at hr
    cases hr
  · rw [if_neg hi] at hr
    exact va_iast am.1 am.2.1 am.2.2.2.2.2.1 hP (am.2.2.2.2.2.2.2.1 _) hS 17 0 (n := 16) (f := t.1 5) rfl rfl hi d (fun H1 locs1 hP1 _ hS1 => k _ r hr H1 locs1 ls hP1 hS1 hh)
theorem ji_ald_Mwords {s : wt_S} {t : wt_M} {o : Nat → Int64} {i : Int32} {f : Int64 → Option ρ} (am : wt_Am z own cc nL h rt) (d : decode cc pc = .ok (.laload, 1)) (hq : pc + 1 = q) (k : ∀ x : Int64, jj_J z nL q lv (.long x :: st) (s, t, o) Q (f x)) : jj_J z nL pc lv (.int i :: .ref (ad_ z 18) :: st) (s, t, o) Q (rd_L (t.2 0) 72 i f) := by
  subst hq
  intro r hr H locs ls hP hS hh
  unfold rd_L at hr
  by_cases hi : i < 0 ∨ 72 ≤ i.toNatClampNeg
  · rw [if_pos hi] at hr
    cases hr
  · rw [if_neg hi] at hr
    exact va_lald am.1 am.2.1 am.2.2.2.2.2.1 hP 18 2 (n := 72) (f := t.2 0) rfl rfl hi d (k _ r hr H locs ls hP hS hh)
theorem ji_ast_Mwords {s : wt_S} {t : wt_M} {o : Nat → Int64} {i : Int32} {x : Int64} {f : wt_M → Option ρ} (am : wt_Am z own cc nL h rt) (d : decode cc pc = .ok (.lastore, 1)) (hq : pc + 1 = q) (k : ∀ s2 : wt_M, jj_J z nL q lv st (s, s2, o) Q (f s2)) : jj_J z nL pc lv (.long x :: .int i :: .ref (ad_ z 18) :: st) (s, t, o) Q (wr_L t 0 72 i (x) f) := by
  subst hq
  intro r hr H locs ls hP hS hh
  unfold wr_L at hr
  by_cases hi : i < 0 ∨ 72 ≤ i.toNatClampNeg
  · rw [if_pos hi] at hr
    cases hr
  · rw [if_neg hi] at hr
    exact va_last am.1 am.2.1 am.2.2.2.2.2.1 hP (am.2.2.2.2.2.2.2.1 _) hS 18 2 (n := 72) (f := t.2 0) rfl rfl hi d (fun H1 locs1 hP1 _ hS1 => k _ r hr H1 locs1 ls hP1 hS1 hh)
theorem ji_ald_Mcuts {s : wt_S} {t : wt_M} {o : Nat → Int64} {i : Int32} {f : Int64 → Option ρ} (am : wt_Am z own cc nL h rt) (d : decode cc pc = .ok (.laload, 1)) (hq : pc + 1 = q) (k : ∀ x : Int64, jj_J z nL q lv (.long x :: st) (s, t, o) Q (f x)) : jj_J z nL pc lv (.int i :: .ref (ad_ z 19) :: st) (s, t, o) Q (rd_L (t.2 1) 16000 i f) := by
  subst hq
  intro r hr H locs ls hP hS hh
  unfold rd_L at hr
  by_cases hi : i < 0 ∨ 16000 ≤ i.toNatClampNeg
  · rw [if_pos hi] at hr
    cases hr
  · rw [if_neg hi] at hr
    exact va_lald am.1 am.2.1 am.2.2.2.2.2.1 hP 19 2 (n := 16000) (f := t.2 1) rfl rfl hi d (k _ r hr H locs ls hP hS hh)
theorem ji_ast_Mcuts {s : wt_S} {t : wt_M} {o : Nat → Int64} {i : Int32} {x : Int64} {f : wt_M → Option ρ} (am : wt_Am z own cc nL h rt) (d : decode cc pc = .ok (.lastore, 1)) (hq : pc + 1 = q) (k : ∀ s2 : wt_M, jj_J z nL q lv st (s, s2, o) Q (f s2)) : jj_J z nL pc lv (.long x :: .int i :: .ref (ad_ z 19) :: st) (s, t, o) Q (wr_L t 1 16000 i (x) f) := by
  subst hq
  intro r hr H locs ls hP hS hh
  unfold wr_L at hr
  by_cases hi : i < 0 ∨ 16000 ≤ i.toNatClampNeg
  · rw [if_pos hi] at hr
    cases hr
  · rw [if_neg hi] at hr
    exact va_last am.1 am.2.1 am.2.2.2.2.2.1 hP (am.2.2.2.2.2.2.2.1 _) hS 19 2 (n := 16000) (f := t.2 1) rfl rfl hi d (fun H1 locs1 hP1 _ hS1 => k _ r hr H1 locs1 ls hP1 hS1 hh)
theorem ji_ald_Mmasks {s : wt_S} {t : wt_M} {o : Nat → Int64} {i : Int32} {f : Int64 → Option ρ} (am : wt_Am z own cc nL h rt) (d : decode cc pc = .ok (.laload, 1)) (hq : pc + 1 = q) (k : ∀ x : Int64, jj_J z nL q lv (.long x :: st) (s, t, o) Q (f x)) : jj_J z nL pc lv (.int i :: .ref (ad_ z 20) :: st) (s, t, o) Q (rd_L (t.2 2) 6 i f) := by
  subst hq
  intro r hr H locs ls hP hS hh
  unfold rd_L at hr
  by_cases hi : i < 0 ∨ 6 ≤ i.toNatClampNeg
  · rw [if_pos hi] at hr
    cases hr
  · rw [if_neg hi] at hr
    exact va_lald am.1 am.2.1 am.2.2.2.2.2.1 hP 20 2 (n := 6) (f := t.2 2) rfl rfl hi d (k _ r hr H locs ls hP hS hh)
theorem ji_get_X_diagrams {s : wt_S} {t : wt_M} {o : Nat → Int64} (am : wt_Am z R_X cc nL h rt) (d : decode cc pc = .ok (.getfield 10, 3)) (hq : pc + 3 = q) (k : jj_J z nL q lv (.ref (ad_ z 1) :: st) (s, t, o) Q X) : jj_J z nL pc lv (.ref (ad_ z 0) :: st) (s, t, o) Q X := by
  subst hq
  exact fun r hr H locs ls hP hS hh => va_get (C := R_X) (T := F_X) (N := 1) (ci := 0) am.1 am.2.1 am.2.2.2.2.1 in_X am.2.2.2.1 am.2.2.2.2.2.1 hP 0 rfl rfl 0 (by decide) (am.2.2.2.2.1 _ lf_X_diagrams) (fun _ h => h) rfl d (k r hr H locs ls hP hS hh)
theorem ji_get_D_roots {s : wt_S} {t : wt_M} {o : Nat → Int64} (am : wt_Am z R_D cc nL h rt) (d : decode cc pc = .ok (.getfield 11, 3)) (hq : pc + 3 = q) (k : jj_J z nL q lv (.ref (ad_ z 2) :: st) (s, t, o) Q X) : jj_J z nL pc lv (.ref (ad_ z 1) :: st) (s, t, o) Q X := by
  subst hq
  exact fun r hr H locs ls hP hS hh => va_get (C := R_D) (T := F_D) (N := 12) (ci := 1) am.1 am.2.1 am.2.2.2.2.1 in_D am.2.2.2.1 am.2.2.2.2.2.1 hP 1 rfl rfl 0 (by decide) (am.2.2.2.2.1 _ lf_D_roots) (fun _ h => h) rfl d (k r hr H locs ls hP hS hh)
theorem ji_get_D_atLevel {s : wt_S} {t : wt_M} {o : Nat → Int64} (am : wt_Am z R_D cc nL h rt) (d : decode cc pc = .ok (.getfield 15, 3)) (hq : pc + 3 = q) (k : jj_J z nL q lv (.ref (ad_ z 3) :: st) (s, t, o) Q X) : jj_J z nL pc lv (.ref (ad_ z 1) :: st) (s, t, o) Q X := by
  subst hq
  exact fun r hr H locs ls hP hS hh => va_get (C := R_D) (T := F_D) (N := 12) (ci := 1) am.1 am.2.1 am.2.2.2.2.1 in_D am.2.2.2.1 am.2.2.2.2.2.1 hP 1 rfl rfl 1 (by decide) (am.2.2.2.2.1 _ lf_D_atLevel) (fun _ h => h) rfl d (k r hr H locs ls hP hS hh)
theorem ji_get_D_levelOf {s : wt_S} {t : wt_M} {o : Nat → Int64} (am : wt_Am z R_D cc nL h rt) (d : decode cc pc = .ok (.getfield 18, 3)) (hq : pc + 3 = q) (k : jj_J z nL q lv (.ref (ad_ z 4) :: st) (s, t, o) Q X) : jj_J z nL pc lv (.ref (ad_ z 1) :: st) (s, t, o) Q X := by
  subst hq
  exact fun r hr H locs ls hP hS hh => va_get (C := R_D) (T := F_D) (N := 12) (ci := 1) am.1 am.2.1 am.2.2.2.2.1 in_D am.2.2.2.1 am.2.2.2.2.2.1 hP 1 rfl rfl 2 (by decide) (am.2.2.2.2.1 _ lf_D_levelOf) (fun _ h => h) rfl d (k r hr H locs ls hP hS hh)
theorem ji_get_D_label {s : wt_S} {t : wt_M} {o : Nat → Int64} (am : wt_Am z R_D cc nL h rt) (d : decode cc pc = .ok (.getfield 21, 3)) (hq : pc + 3 = q) (k : jj_J z nL q lv (.ref (ad_ z 5) :: st) (s, t, o) Q X) : jj_J z nL pc lv (.ref (ad_ z 1) :: st) (s, t, o) Q X := by
  subst hq
  exact fun r hr H locs ls hP hS hh => va_get (C := R_D) (T := F_D) (N := 12) (ci := 1) am.1 am.2.1 am.2.2.2.2.1 in_D am.2.2.2.1 am.2.2.2.2.2.1 hP 1 rfl rfl 3 (by decide) (am.2.2.2.2.1 _ lf_D_label) (fun _ h => h) rfl d (k r hr H locs ls hP hS hh)
theorem ji_get_D_low {s : wt_S} {t : wt_M} {o : Nat → Int64} (am : wt_Am z R_D cc nL h rt) (d : decode cc pc = .ok (.getfield 24, 3)) (hq : pc + 3 = q) (k : jj_J z nL q lv (.ref (ad_ z 6) :: st) (s, t, o) Q X) : jj_J z nL pc lv (.ref (ad_ z 1) :: st) (s, t, o) Q X := by
  subst hq
  exact fun r hr H locs ls hP hS hh => va_get (C := R_D) (T := F_D) (N := 12) (ci := 1) am.1 am.2.1 am.2.2.2.2.1 in_D am.2.2.2.1 am.2.2.2.2.2.1 hP 1 rfl rfl 4 (by decide) (am.2.2.2.2.1 _ lf_D_low) (fun _ h => h) rfl d (k r hr H locs ls hP hS hh)
theorem ji_get_D_high {s : wt_S} {t : wt_M} {o : Nat → Int64} (am : wt_Am z R_D cc nL h rt) (d : decode cc pc = .ok (.getfield 27, 3)) (hq : pc + 3 = q) (k : jj_J z nL q lv (.ref (ad_ z 7) :: st) (s, t, o) Q X) : jj_J z nL pc lv (.ref (ad_ z 1) :: st) (s, t, o) Q X := by
  subst hq
  exact fun r hr H locs ls hP hS hh => va_get (C := R_D) (T := F_D) (N := 12) (ci := 1) am.1 am.2.1 am.2.2.2.2.1 in_D am.2.2.2.1 am.2.2.2.2.2.1 hP 1 rfl rfl 5 (by decide) (am.2.2.2.2.1 _ lf_D_high) (fun _ h => h) rfl d (k r hr H locs ls hP hS hh)
theorem ji_get_D_next {s : wt_S} {t : wt_M} {o : Nat → Int64} (am : wt_Am z R_D cc nL h rt) (d : decode cc pc = .ok (.getfield 30, 3)) (hq : pc + 3 = q) (k : jj_J z nL q lv (.ref (ad_ z 8) :: st) (s, t, o) Q X) : jj_J z nL pc lv (.ref (ad_ z 1) :: st) (s, t, o) Q X := by
  subst hq
  exact fun r hr H locs ls hP hS hh => va_get (C := R_D) (T := F_D) (N := 12) (ci := 1) am.1 am.2.1 am.2.2.2.2.1 in_D am.2.2.2.1 am.2.2.2.2.2.1 hP 1 rfl rfl 6 (by decide) (am.2.2.2.2.1 _ lf_D_next) (fun _ h => h) rfl d (k r hr H locs ls hP hS hh)
theorem ji_get_D_heads {s : wt_S} {t : wt_M} {o : Nat → Int64} (am : wt_Am z R_D cc nL h rt) (d : decode cc pc = .ok (.getfield 33, 3)) (hq : pc + 3 = q) (k : jj_J z nL q lv (.ref (ad_ z 9) :: st) (s, t, o) Q X) : jj_J z nL pc lv (.ref (ad_ z 1) :: st) (s, t, o) Q X := by
  subst hq
  exact fun r hr H locs ls hP hS hh => va_get (C := R_D) (T := F_D) (N := 12) (ci := 1) am.1 am.2.1 am.2.2.2.2.1 in_D am.2.2.2.1 am.2.2.2.2.2.1 hP 1 rfl rfl 7 (by decide) (am.2.2.2.2.1 _ lf_D_heads) (fun _ h => h) rfl d (k r hr H locs ls hP hS hh)
theorem ji_get_D_marked {s : wt_S} {t : wt_M} {o : Nat → Int64} (am : wt_Am z R_D cc nL h rt) (d : decode cc pc = .ok (.getfield 36, 3)) (hq : pc + 3 = q) (k : jj_J z nL q lv (.ref (ad_ z 10) :: st) (s, t, o) Q X) : jj_J z nL pc lv (.ref (ad_ z 1) :: st) (s, t, o) Q X := by
  subst hq
  exact fun r hr H locs ls hP hS hh => va_get (C := R_D) (T := F_D) (N := 12) (ci := 1) am.1 am.2.1 am.2.2.2.2.1 in_D am.2.2.2.1 am.2.2.2.2.2.1 hP 1 rfl rfl 8 (by decide) (am.2.2.2.2.1 _ lf_D_marked) (fun _ h => h) rfl d (k r hr H locs ls hP hS hh)
theorem ji_get_D_live {s : wt_S} {t : wt_M} {o : Nat → Int64} (am : wt_Am z R_D cc nL h rt) (d : decode cc pc = .ok (.getfield 40, 3)) (hq : pc + 3 = q) (k : jj_J z nL q lv (.int (s 9 0) :: st) (s, t, o) Q X) : jj_J z nL pc lv (.ref (ad_ z 1) :: st) (s, t, o) Q X := by
  subst hq
  exact fun r hr H locs ls hP hS hh => va_get (C := R_D) (T := F_D) (N := 12) (ci := 1) am.1 am.2.1 am.2.2.2.2.1 in_D am.2.2.2.1 am.2.2.2.2.2.1 hP 1 rfl rfl 9 (by decide) (am.2.2.2.2.1 _ lf_D_live) (fun _ h => h) rfl d (k r hr H locs ls hP hS hh)
theorem ji_put_D_live {s : wt_S} {t : wt_M} {o : Nat → Int64} {x : Int32} {f : wt_S → Option ρ} (am : wt_Am z R_D cc nL h rt) (d : decode cc pc = .ok (.putfield 40, 3)) (hq : pc + 3 = q) (k : ∀ s2 : wt_S, jj_J z nL q lv st (s2, t, o) Q (f s2)) : jj_J z nL pc lv (.int x :: .ref (ad_ z 1) :: st) (s, t, o) Q (sp_S s 0 x f) := by
  subst hq
  intro r hr H locs ls hP hS hh
  exact va_put (C := R_D) (T := F_D) (N := 12) (ci := 1) (v := .int x) (ty := .int) am.1 am.2.1 am.2.2.2.2.1 in_D ty_D ty_D_ok nm_D am.2.2.2.1 am.2.2.2.2.2.1 hP (am.2.2.2.2.2.2.2.1 _) hS 1 rfl rfl 9 (by decide) (am.2.2.2.2.1 _ lf_D_live) (fun _ h => h) rfl (by decide +kernel) rfl rfl (Nat.le_of_ble_eq_true rfl) d (fun H1 locs1 hP1 _ hS1 => k _ r hr H1 locs1 ls hP1 hS1 hh)
theorem ji_get_D_end {s : wt_S} {t : wt_M} {o : Nat → Int64} (am : wt_Am z R_D cc nL h rt) (d : decode cc pc = .ok (.getfield 44, 3)) (hq : pc + 3 = q) (k : jj_J z nL q lv (.int (s 9 1) :: st) (s, t, o) Q X) : jj_J z nL pc lv (.ref (ad_ z 1) :: st) (s, t, o) Q X := by
  subst hq
  exact fun r hr H locs ls hP hS hh => va_get (C := R_D) (T := F_D) (N := 12) (ci := 1) am.1 am.2.1 am.2.2.2.2.1 in_D am.2.2.2.1 am.2.2.2.2.2.1 hP 1 rfl rfl 10 (by decide) (am.2.2.2.2.1 _ lf_D_end) (fun _ h => h) rfl d (k r hr H locs ls hP hS hh)
theorem ji_put_D_end {s : wt_S} {t : wt_M} {o : Nat → Int64} {x : Int32} {f : wt_S → Option ρ} (am : wt_Am z R_D cc nL h rt) (d : decode cc pc = .ok (.putfield 44, 3)) (hq : pc + 3 = q) (k : ∀ s2 : wt_S, jj_J z nL q lv st (s2, t, o) Q (f s2)) : jj_J z nL pc lv (.int x :: .ref (ad_ z 1) :: st) (s, t, o) Q (sp_S s 1 x f) := by
  subst hq
  intro r hr H locs ls hP hS hh
  exact va_put (C := R_D) (T := F_D) (N := 12) (ci := 1) (v := .int x) (ty := .int) am.1 am.2.1 am.2.2.2.2.1 in_D ty_D ty_D_ok nm_D am.2.2.2.1 am.2.2.2.2.2.1 hP (am.2.2.2.2.2.2.2.1 _) hS 1 rfl rfl 10 (by decide) (am.2.2.2.2.1 _ lf_D_end) (fun _ h => h) rfl (by decide +kernel) rfl rfl (Nat.le_of_ble_eq_true rfl) d (fun H1 locs1 hP1 _ hS1 => k _ r hr H1 locs1 ls hP1 hS1 hh)
theorem ji_get_D_cursor {s : wt_S} {t : wt_M} {o : Nat → Int64} (am : wt_Am z R_D cc nL h rt) (d : decode cc pc = .ok (.getfield 47, 3)) (hq : pc + 3 = q) (k : jj_J z nL q lv (.int (s 9 2) :: st) (s, t, o) Q X) : jj_J z nL pc lv (.ref (ad_ z 1) :: st) (s, t, o) Q X := by
  subst hq
  exact fun r hr H locs ls hP hS hh => va_get (C := R_D) (T := F_D) (N := 12) (ci := 1) am.1 am.2.1 am.2.2.2.2.1 in_D am.2.2.2.1 am.2.2.2.2.2.1 hP 1 rfl rfl 11 (by decide) (am.2.2.2.2.1 _ lf_D_cursor) (fun _ h => h) rfl d (k r hr H locs ls hP hS hh)
theorem ji_put_D_cursor {s : wt_S} {t : wt_M} {o : Nat → Int64} {x : Int32} {f : wt_S → Option ρ} (am : wt_Am z R_D cc nL h rt) (d : decode cc pc = .ok (.putfield 47, 3)) (hq : pc + 3 = q) (k : ∀ s2 : wt_S, jj_J z nL q lv st (s2, t, o) Q (f s2)) : jj_J z nL pc lv (.int x :: .ref (ad_ z 1) :: st) (s, t, o) Q (sp_S s 2 x f) := by
  subst hq
  intro r hr H locs ls hP hS hh
  exact va_put (C := R_D) (T := F_D) (N := 12) (ci := 1) (v := .int x) (ty := .int) am.1 am.2.1 am.2.2.2.2.1 in_D ty_D ty_D_ok nm_D am.2.2.2.1 am.2.2.2.2.2.1 hP (am.2.2.2.2.2.2.2.1 _) hS 1 rfl rfl 11 (by decide) (am.2.2.2.2.1 _ lf_D_cursor) (fun _ h => h) rfl (by decide +kernel) rfl rfl (Nat.le_of_ble_eq_true rfl) d (fun H1 locs1 hP1 _ hS1 => k _ r hr H1 locs1 ls hP1 hS1 hh)
theorem ji_get_M_code {s : wt_S} {t : wt_M} {o : Nat → Int64} (am : wt_Am z R_M cc nL h rt) (d : decode cc pc = .ok (.getfield 50, 3)) (hq : pc + 3 = q) (k : jj_J z nL q lv (.int (t.1 9 0) :: st) (s, t, o) Q X) : jj_J z nL pc lv (.ref (ad_ z 11) :: st) (s, t, o) Q X := by
  subst hq
  exact fun r hr H locs ls hP hS hh => va_get (C := R_M) (T := F_M) (N := 13) (ci := 2) am.1 am.2.1 am.2.2.2.2.1 in_M am.2.2.2.1 am.2.2.2.2.2.1 hP 11 rfl rfl 0 (by decide) (am.2.2.2.2.1 _ lf_M_code) (fun _ h => h) rfl d (k r hr H locs ls hP hS hh)
theorem ji_put_M_code {s : wt_S} {t : wt_M} {o : Nat → Int64} {x : Int32} {f : wt_M → Option ρ} (am : wt_Am z R_M cc nL h rt) (d : decode cc pc = .ok (.putfield 50, 3)) (hq : pc + 3 = q) (k : ∀ s2 : wt_M, jj_J z nL q lv st (s, s2, o) Q (f s2)) : jj_J z nL pc lv (.int x :: .ref (ad_ z 11) :: st) (s, t, o) Q (sp_T t 0 x f) := by
  subst hq
  intro r hr H locs ls hP hS hh
  exact va_put (C := R_M) (T := F_M) (N := 13) (ci := 2) (v := .int x) (ty := .int) am.1 am.2.1 am.2.2.2.2.1 in_M ty_M ty_M_ok nm_M am.2.2.2.1 am.2.2.2.2.2.1 hP (am.2.2.2.2.2.2.2.1 _) hS 11 rfl rfl 0 (by decide) (am.2.2.2.2.1 _ lf_M_code) (fun _ h => h) rfl (by decide +kernel) rfl rfl (Nat.le_of_ble_eq_true rfl) d (fun H1 locs1 hP1 _ hS1 => k _ r hr H1 locs1 ls hP1 hS1 hh)
theorem ji_get_M_words {s : wt_S} {t : wt_M} {o : Nat → Int64} (am : wt_Am z R_M cc nL h rt) (d : decode cc pc = .ok (.getfield 7, 3)) (hq : pc + 3 = q) (k : jj_J z nL q lv (.ref (ad_ z 18) :: st) (s, t, o) Q X) : jj_J z nL pc lv (.ref (ad_ z 11) :: st) (s, t, o) Q X := by
  subst hq
  exact fun r hr H locs ls hP hS hh => va_get (C := R_M) (T := F_M) (N := 13) (ci := 2) am.1 am.2.1 am.2.2.2.2.1 in_M am.2.2.2.1 am.2.2.2.2.2.1 hP 11 rfl rfl 1 (by decide) (am.2.2.2.2.1 _ lf_M_words) (fun _ h => h) rfl d (k r hr H locs ls hP hS hh)
theorem ji_get_M_levels {s : wt_S} {t : wt_M} {o : Nat → Int64} (am : wt_Am z R_M cc nL h rt) (d : decode cc pc = .ok (.getfield 13, 3)) (hq : pc + 3 = q) (k : jj_J z nL q lv (.ref (ad_ z 12) :: st) (s, t, o) Q X) : jj_J z nL pc lv (.ref (ad_ z 11) :: st) (s, t, o) Q X := by
  subst hq
  exact fun r hr H locs ls hP hS hh => va_get (C := R_M) (T := F_M) (N := 13) (ci := 2) am.1 am.2.1 am.2.2.2.2.1 in_M am.2.2.2.1 am.2.2.2.2.2.1 hP 11 rfl rfl 2 (by decide) (am.2.2.2.2.1 _ lf_M_levels) (fun _ h => h) rfl d (k r hr H locs ls hP hS hh)
theorem ji_get_M_before {s : wt_S} {t : wt_M} {o : Nat → Int64} (am : wt_Am z R_M cc nL h rt) (d : decode cc pc = .ok (.getfield 17, 3)) (hq : pc + 3 = q) (k : jj_J z nL q lv (.ref (ad_ z 13) :: st) (s, t, o) Q X) : jj_J z nL pc lv (.ref (ad_ z 11) :: st) (s, t, o) Q X := by
  subst hq
  exact fun r hr H locs ls hP hS hh => va_get (C := R_M) (T := F_M) (N := 13) (ci := 2) am.1 am.2.1 am.2.2.2.2.1 in_M am.2.2.2.1 am.2.2.2.2.2.1 hP 11 rfl rfl 3 (by decide) (am.2.2.2.2.1 _ lf_M_before) (fun _ h => h) rfl d (k r hr H locs ls hP hS hh)
theorem ji_get_M_cuts {s : wt_S} {t : wt_M} {o : Nat → Int64} (am : wt_Am z R_M cc nL h rt) (d : decode cc pc = .ok (.getfield 20, 3)) (hq : pc + 3 = q) (k : jj_J z nL q lv (.ref (ad_ z 19) :: st) (s, t, o) Q X) : jj_J z nL pc lv (.ref (ad_ z 11) :: st) (s, t, o) Q X := by
  subst hq
  exact fun r hr H locs ls hP hS hh => va_get (C := R_M) (T := F_M) (N := 13) (ci := 2) am.1 am.2.1 am.2.2.2.2.1 in_M am.2.2.2.1 am.2.2.2.2.2.1 hP 11 rfl rfl 4 (by decide) (am.2.2.2.2.1 _ lf_M_cuts) (fun _ h => h) rfl d (k r hr H locs ls hP hS hh)
theorem ji_get_M_many {s : wt_S} {t : wt_M} {o : Nat → Int64} (am : wt_Am z R_M cc nL h rt) (d : decode cc pc = .ok (.getfield 90, 3)) (hq : pc + 3 = q) (k : jj_J z nL q lv (.int (t.1 9 1) :: st) (s, t, o) Q X) : jj_J z nL pc lv (.ref (ad_ z 11) :: st) (s, t, o) Q X := by
  subst hq
  exact fun r hr H locs ls hP hS hh => va_get (C := R_M) (T := F_M) (N := 13) (ci := 2) am.1 am.2.1 am.2.2.2.2.1 in_M am.2.2.2.1 am.2.2.2.2.2.1 hP 11 rfl rfl 5 (by decide) (am.2.2.2.2.1 _ lf_M_many) (fun _ h => h) rfl d (k r hr H locs ls hP hS hh)
theorem ji_put_M_many {s : wt_S} {t : wt_M} {o : Nat → Int64} {x : Int32} {f : wt_M → Option ρ} (am : wt_Am z R_M cc nL h rt) (d : decode cc pc = .ok (.putfield 90, 3)) (hq : pc + 3 = q) (k : ∀ s2 : wt_M, jj_J z nL q lv st (s, s2, o) Q (f s2)) : jj_J z nL pc lv (.int x :: .ref (ad_ z 11) :: st) (s, t, o) Q (sp_T t 1 x f) := by
  subst hq
  intro r hr H locs ls hP hS hh
  exact va_put (C := R_M) (T := F_M) (N := 13) (ci := 2) (v := .int x) (ty := .int) am.1 am.2.1 am.2.2.2.2.1 in_M ty_M ty_M_ok nm_M am.2.2.2.1 am.2.2.2.2.2.1 hP (am.2.2.2.2.2.2.2.1 _) hS 11 rfl rfl 5 (by decide) (am.2.2.2.2.1 _ lf_M_many) (fun _ h => h) rfl (by decide +kernel) rfl rfl (Nat.le_of_ble_eq_true rfl) d (fun H1 locs1 hP1 _ hS1 => k _ r hr H1 locs1 ls hP1 hS1 hh)
theorem ji_get_M_here {s : wt_S} {t : wt_M} {o : Nat → Int64} (am : wt_Am z R_M cc nL h rt) (d : decode cc pc = .ok (.getfield 23, 3)) (hq : pc + 3 = q) (k : jj_J z nL q lv (.ref (ad_ z 14) :: st) (s, t, o) Q X) : jj_J z nL pc lv (.ref (ad_ z 11) :: st) (s, t, o) Q X := by
  subst hq
  exact fun r hr H locs ls hP hS hh => va_get (C := R_M) (T := F_M) (N := 13) (ci := 2) am.1 am.2.1 am.2.2.2.2.1 in_M am.2.2.2.1 am.2.2.2.2.2.1 hP 11 rfl rfl 6 (by decide) (am.2.2.2.2.1 _ lf_M_here) (fun _ h => h) rfl d (k r hr H locs ls hP hS hh)
theorem ji_get_M_hereMany {s : wt_S} {t : wt_M} {o : Nat → Int64} (am : wt_Am z R_M cc nL h rt) (d : decode cc pc = .ok (.getfield 103, 3)) (hq : pc + 3 = q) (k : jj_J z nL q lv (.int (t.1 9 2) :: st) (s, t, o) Q X) : jj_J z nL pc lv (.ref (ad_ z 11) :: st) (s, t, o) Q X := by
  subst hq
  exact fun r hr H locs ls hP hS hh => va_get (C := R_M) (T := F_M) (N := 13) (ci := 2) am.1 am.2.1 am.2.2.2.2.1 in_M am.2.2.2.1 am.2.2.2.2.2.1 hP 11 rfl rfl 7 (by decide) (am.2.2.2.2.1 _ lf_M_hereMany) (fun _ h => h) rfl d (k r hr H locs ls hP hS hh)
theorem ji_put_M_hereMany {s : wt_S} {t : wt_M} {o : Nat → Int64} {x : Int32} {f : wt_M → Option ρ} (am : wt_Am z R_M cc nL h rt) (d : decode cc pc = .ok (.putfield 103, 3)) (hq : pc + 3 = q) (k : ∀ s2 : wt_M, jj_J z nL q lv st (s, s2, o) Q (f s2)) : jj_J z nL pc lv (.int x :: .ref (ad_ z 11) :: st) (s, t, o) Q (sp_T t 2 x f) := by
  subst hq
  intro r hr H locs ls hP hS hh
  exact va_put (C := R_M) (T := F_M) (N := 13) (ci := 2) (v := .int x) (ty := .int) am.1 am.2.1 am.2.2.2.2.1 in_M ty_M ty_M_ok nm_M am.2.2.2.1 am.2.2.2.2.2.1 hP (am.2.2.2.2.2.2.2.1 _) hS 11 rfl rfl 7 (by decide) (am.2.2.2.2.1 _ lf_M_hereMany) (fun _ h => h) rfl (by decide +kernel) rfl rfl (Nat.le_of_ble_eq_true rfl) d (fun H1 locs1 hP1 _ hS1 => k _ r hr H1 locs1 ls hP1 hS1 hh)
theorem ji_get_M_next {s : wt_S} {t : wt_M} {o : Nat → Int64} (am : wt_Am z R_M cc nL h rt) (d : decode cc pc = .ok (.getfield 26, 3)) (hq : pc + 3 = q) (k : jj_J z nL q lv (.ref (ad_ z 15) :: st) (s, t, o) Q X) : jj_J z nL pc lv (.ref (ad_ z 11) :: st) (s, t, o) Q X := by
  subst hq
  exact fun r hr H locs ls hP hS hh => va_get (C := R_M) (T := F_M) (N := 13) (ci := 2) am.1 am.2.1 am.2.2.2.2.1 in_M am.2.2.2.1 am.2.2.2.2.2.1 hP 11 rfl rfl 8 (by decide) (am.2.2.2.2.1 _ lf_M_next) (fun _ h => h) rfl d (k r hr H locs ls hP hS hh)
theorem ji_get_M_nextMany {s : wt_S} {t : wt_M} {o : Nat → Int64} (am : wt_Am z R_M cc nL h rt) (d : decode cc pc = .ok (.getfield 93, 3)) (hq : pc + 3 = q) (k : jj_J z nL q lv (.int (t.1 9 3) :: st) (s, t, o) Q X) : jj_J z nL pc lv (.ref (ad_ z 11) :: st) (s, t, o) Q X := by
  subst hq
  exact fun r hr H locs ls hP hS hh => va_get (C := R_M) (T := F_M) (N := 13) (ci := 2) am.1 am.2.1 am.2.2.2.2.1 in_M am.2.2.2.1 am.2.2.2.2.2.1 hP 11 rfl rfl 9 (by decide) (am.2.2.2.2.1 _ lf_M_nextMany) (fun _ h => h) rfl d (k r hr H locs ls hP hS hh)
theorem ji_put_M_nextMany {s : wt_S} {t : wt_M} {o : Nat → Int64} {x : Int32} {f : wt_M → Option ρ} (am : wt_Am z R_M cc nL h rt) (d : decode cc pc = .ok (.putfield 93, 3)) (hq : pc + 3 = q) (k : ∀ s2 : wt_M, jj_J z nL q lv st (s, s2, o) Q (f s2)) : jj_J z nL pc lv (.int x :: .ref (ad_ z 11) :: st) (s, t, o) Q (sp_T t 3 x f) := by
  subst hq
  intro r hr H locs ls hP hS hh
  exact va_put (C := R_M) (T := F_M) (N := 13) (ci := 2) (v := .int x) (ty := .int) am.1 am.2.1 am.2.2.2.2.1 in_M ty_M ty_M_ok nm_M am.2.2.2.1 am.2.2.2.2.2.1 hP (am.2.2.2.2.2.2.2.1 _) hS 11 rfl rfl 9 (by decide) (am.2.2.2.2.1 _ lf_M_nextMany) (fun _ h => h) rfl (by decide +kernel) rfl rfl (Nat.le_of_ble_eq_true rfl) d (fun H1 locs1 hP1 _ hS1 => k _ r hr H1 locs1 ls hP1 hS1 hh)
theorem ji_get_M_told {s : wt_S} {t : wt_M} {o : Nat → Int64} (am : wt_Am z R_M cc nL h rt) (d : decode cc pc = .ok (.getfield 29, 3)) (hq : pc + 3 = q) (k : jj_J z nL q lv (.ref (ad_ z 16) :: st) (s, t, o) Q X) : jj_J z nL pc lv (.ref (ad_ z 11) :: st) (s, t, o) Q X := by
  subst hq
  exact fun r hr H locs ls hP hS hh => va_get (C := R_M) (T := F_M) (N := 13) (ci := 2) am.1 am.2.1 am.2.2.2.2.1 in_M am.2.2.2.1 am.2.2.2.2.2.1 hP 11 rfl rfl 10 (by decide) (am.2.2.2.2.1 _ lf_M_told) (fun _ h => h) rfl d (k r hr H locs ls hP hS hh)
theorem ji_get_M_masks {s : wt_S} {t : wt_M} {o : Nat → Int64} (am : wt_Am z R_M cc nL h rt) (d : decode cc pc = .ok (.getfield 44, 3)) (hq : pc + 3 = q) (k : jj_J z nL q lv (.ref (ad_ z 20) :: st) (s, t, o) Q X) : jj_J z nL pc lv (.ref (ad_ z 11) :: st) (s, t, o) Q X := by
  subst hq
  exact fun r hr H locs ls hP hS hh => va_get (C := R_M) (T := F_M) (N := 13) (ci := 2) am.1 am.2.1 am.2.2.2.2.1 in_M am.2.2.2.1 am.2.2.2.2.2.1 hP 11 rfl rfl 11 (by decide) (am.2.2.2.2.1 _ lf_M_masks) (fun _ h => h) rfl d (k r hr H locs ls hP hS hh)
theorem ji_get_M_steps {s : wt_S} {t : wt_M} {o : Nat → Int64} (am : wt_Am z R_M cc nL h rt) (d : decode cc pc = .ok (.getfield 47, 3)) (hq : pc + 3 = q) (k : jj_J z nL q lv (.ref (ad_ z 17) :: st) (s, t, o) Q X) : jj_J z nL pc lv (.ref (ad_ z 11) :: st) (s, t, o) Q X := by
  subst hq
  exact fun r hr H locs ls hP hS hh => va_get (C := R_M) (T := F_M) (N := 13) (ci := 2) am.1 am.2.1 am.2.2.2.2.1 in_M am.2.2.2.1 am.2.2.2.2.2.1 hP 11 rfl rfl 12 (by decide) (am.2.2.2.2.1 _ lf_M_steps) (fun _ h => h) rfl d (k r hr H locs ls hP hS hh)
end Rows
end
section
/-! Calls over the judgement, and a contract out of a walk. My own. -/
theorem wt_ok_spec {w : Cond} (h : wt_ok w = true) : (w.onTables && w.keeps) = true ∨ ∃ ty, w = .arrayClass ty := by
  unfold wt_ok at h
  rcases (Bool.or_eq_true _ _).mp h with h | h
  · exact Or.inl h
  · refine Or.inr ?_
    cases w <;> first | exact ⟨_, rfl⟩ | cases h
theorem wt_good {cw : Cond} (h : cw ∈ wt_WS) : GoodIn wt_WS (cw :: wt_WS) := by
  have hh : ∀ w ∈ wt_WS, w ∈ wt_WS ∧ ((w.onTables && w.keeps) = true ∨ ∃ ty, w = .arrayClass ty) := fun w hw => ⟨hw, wt_ok_spec (List.mem_filter.mp hw).2⟩
  intro w hw
  rcases List.mem_cons.mp hw with rfl | hw
  · exact hh _ h
  · exact hh _ hw
theorem pc_blind {v : wt_V} {w : wt_W} {as : List Value} : FrameBlind (va_Pc as (fun U => wt_Wd v w U)) := fun a U g mk hq => by
  obtain ⟨q0, qP, qK, qN, qD⟩ := hq
  exact ⟨q0, qP, va_K.moved (u := U) (U := U.calling g mk a) (Vm.Alike.refl U.vm) qK, fun x hx => va_Nw.same (u := U) (U := U.calling g mk a) rfl rfl (qN x hx), qD⟩
section Calls
variable {ρ : Type} {z : wt_Z} {own : String} {cc : ByteArray} {nL h pc q : Nat} {rt : Option FieldType} {lv : List (Nat × Value)} {st0 rest : List Value} {w w' : wt_W} {Q : ρ → State → Prop} {X : Option ρ} {s : wt_S} {t : wt_M} {o : Nat → Int64}
theorem pc_at {as : List Value} {H : Heap} (am : wt_Am z own cc nL h rt) (hP : va_P (zz_v z).2.2.1 wt_cl (wt_wo (zz_v z) w) H) : ∀ U : State, U.heap = H → (zz_s z).WarmedH U.vm → va_Pc as (fun U => wt_Wd (zz_v z) w U) as.toArray U :=
  fun U hU hW => ⟨rfl, by rw [hU]; exact hP, va_K.moved hW.alike am.2.2.2.2.2.1, fun x hx => va_Nw.warmM hW (am.2.2.2.2.2.2.1 x hx), am.2.2.2.2.2.2.2.1⟩
def jr_R (z : wt_Z) (nL pc : Nat) (lv : List (Nat × Value)) (st0 rest : List Value) (w : wt_W) (ret : Option Value) (w' : wt_W) : Prop :=
  ∀ (H : Heap) (locs : List Loc) (ls : Array Slot), va_P (zz_v z).2.2.1 wt_cl (wt_wo (zz_v z) w) H → va_S (wt_A (zz_v z)) (zz_s z).heap H locs → lv_has ls nL lv →
    ∃ a9 : Array Value, va_Run (zz_p z) (zz_v z).1 (zz_e z) (zz_R z) (zz_s z) (zz_m z) (zz_a z) (zz_b z) (zz_t z) (zz_c z) H locs 0 0 0 0 (F0 (zz_m z) pc ls st0) rest (ct_Q (zz_v z) ret w' a9) (wt_A (zz_v z))
theorem jr_J {ret : Option Value} (hr : jr_R z nL pc lv st0 rest w ret w') (k : jj_J z nL (pc + 3) lv (ret.toList ++ rest) w' Q X) : jj_J z nL pc lv st0 w Q X := by
  intro r hx H locs ls hP hS hl T hT T0
  obtain ⟨a9, hr⟩ := hr H locs ls hP hS hl
  obtain ⟨v, st₀, t, T', L, h0, X', hL, e1, e2, ⟨hv, hW, hF⟩, st⟩ := hr T hT T0
  cases hv
  obtain ⟨hz, hk⟩ := hF
  rw [h0] at hz hk
  have hP1 : va_P (zz_v z).2.2.1 wt_cl (wt_wo (zz_v z) w') T'.heap := by rw [e1]; exact hW.1
  obtain ⟨t2, a1, b1⟩ := k r hx T'.heap (locs ++ L) ls hP1 ⟨Nat.le_trans hS.1 (by rw [e1]; exact hz), fun q h1 h2 => by rw [e1, hk q (Nat.lt_of_lt_of_le h1 hS.1) h2]; exact hS.2.1 q h1 h2, fun q hq => by
      rcases List.mem_append.mp hq with h | h
      · exact hS.2.2 q h
      · exact hL q h⟩ hl T' rfl X'
  exact ⟨t2, st t2 a1, b1⟩
def ln_V (own : String) (i : Nat) (y : MethodName) (b : ByteArray) (mL n : Nat) (rt : Option FieldType) : Prop :=
  Cond.code y b mL rt ∈ wt_WS ∧ Cond.methodLink own i y ∈ wt_WS ∧ Cond.instanceMethod y ∈ wt_WS ∧ Cond.selects y.cls y y ∈ wt_WS ∧ Cond.initialized y.cls ∈ wt_WS ∧ (y.cls ≠ "java/lang/invoke/MethodHandle" ∧ y.cls ≠ "java/lang/invoke/VarHandle" ∧ (parseMethodDescriptor y.desc).map (fun d => d.parameters.length) = some n) ∧ mL ≤ 45
def ln_N (own : String) (i : Nat) (y : MethodName) (b : ByteArray) (mL n : Nat) (rt : Option FieldType) (host : String) : Prop :=
  Cond.code y b mL rt ∈ wt_WS ∧ (own, i, y, host) ∈ wt_nest ∧ Cond.instanceMethod y ∈ wt_WS ∧ Cond.selects y.cls y y ∈ wt_WS ∧ Cond.initialized y.cls ∈ wt_WS ∧ (y.cls ≠ "java/lang/invoke/MethodHandle" ∧ y.cls ≠ "java/lang/invoke/VarHandle" ∧ (parseMethodDescriptor y.desc).map (fun d => d.parameters.length) = some n) ∧ mL ≤ 45
def ln_S (own : String) (i : Nat) (y : MethodName) (b : ByteArray) (mL n : Nat) (rt : Option FieldType) : Prop :=
  Cond.code y b mL rt ∈ wt_WS ∧ Cond.methodLink own i y ∈ wt_WS ∧ Cond.static y ∈ wt_WS ∧ Cond.initialized y.cls ∈ wt_WS ∧ (y.cls ≠ "java/lang/invoke/MethodHandle" ∧ y.cls ≠ "java/lang/invoke/VarHandle" ∧ (parseMethodDescriptor y.desc).map (fun d => d.parameters.length) = some n) ∧ mL ≤ 45
def rc_ (z : wt_Z) (w : wt_W) (C : String) (b : Nat) : Prop := ∀ H : Heap, va_P (zz_v z).2.2.1 wt_cl (wt_wo (zz_v z) w) H → ∃ cell : Cell, H[b]? = some cell ∧ cell.vm.isStatics = false ∧ (zz_s z).vm.findClass C = some cell.cls
theorem rc_X (am : wt_Am z own cc nL h rt) : rc_ z w R_X (ad_ z 0) := fun H hP => va_recv (q0 := 0) (ci := 0) am.2.2.2.2.2.1 hP rfl rfl
theorem rc_D (am : wt_Am z own cc nL h rt) : rc_ z w R_D (ad_ z 1) := fun H hP => va_recv (q0 := 1) (ci := 1) am.2.2.2.2.2.1 hP rfl rfl
theorem rc_M (am : wt_Am z own cc nL h rt) : rc_ z w R_M (ad_ z 11) := fun H hP => va_recv (q0 := 11) (ci := 2) am.2.2.2.2.2.1 hP rfl rfl
theorem jr_V {i : Nat} {y : MethodName} {b : ByteArray} {mL n h' rb : Nat} {rt' : Option FieldType} {ret : Option Value} (as : List Value) (am : wt_Am z own cc nL h rt) (L : ln_V own i y b mL n rt') (hc : ct_C (zz_v z) y (Cond.code y b mL rt') h' (.ref rb :: as) ret w w') (hh : h' + 1 ≤ h) (hrec : rc_ z w y.cls rb) (hn : as.length = n) (hst : as.reverse ++ .ref rb :: rest = st0) (hcat : (rest.map fun v => v.category).sum ≤ 8) (d : decode cc pc = .ok (.invokevirtual i, 3)) : jr_R z nL pc lv st0 rest w ret w' := by
  intro H locs ls hP hS hl
  obtain ⟨L1, L2, L3, L4, L5, L6, L7⟩ := L
  have hts := am.2.2.2.2.1
  have hf := am.2.2.2.2.2.2.2.2.1
  have hg := am.2.2.2.2.2.2.2.2.2.1
  refine ⟨(Value.ref rb :: as).toArray, ?_⟩
  exact va_runV (As := as) (rest := rest) ⟨am.1, am.2.1, am.2.2.1, am.2.2.2.1, am.2.2.2.2.1⟩ hc ⟨callB_of n hts (wt_good L1) rfl rfl rfl (hts _ L5) (hts _ L2) L6 ⟨show h' + 1 ≤ _ by omega, show 8 + (mL + 11) + 64 * h' ≤ _ by omega⟩, hts _ L3, hts _ L4⟩ ⟨pc_blind, hrec H hP, pc_at am hP⟩ rfl hn hl.1 hst.symm (lv_room hcat) d ⟨Nat.zero_le _, Nat.zero_le _⟩
theorem jr_N {i : Nat} {y : MethodName} {b : ByteArray} {mL n h' rb : Nat} {rt' : Option FieldType} {ret : Option Value} {host : String} (as : List Value) (am : wt_Am z own cc nL h rt) (L : ln_N own i y b mL n rt' host) (hc : ct_C (zz_v z) y (Cond.code y b mL rt') h' (.ref rb :: as) ret w w') (hh : h' + 1 ≤ h) (hrec : rc_ z w y.cls rb) (hn : as.length = n) (hst : as.reverse ++ .ref rb :: rest = st0) (hcat : (rest.map fun v => v.category).sum ≤ 8) (d : decode cc pc = .ok (.invokevirtual i, 3)) : jr_R z nL pc lv st0 rest w ret w' := by
  intro H locs ls hP hS hl
  obtain ⟨L1, L2, L3, L4, L5, L6, L7⟩ := L
  have hts := am.2.2.2.2.1
  have hf := am.2.2.2.2.2.2.2.2.1
  have hg := am.2.2.2.2.2.2.2.2.2.1
  refine ⟨(Value.ref rb :: as).toArray, ?_⟩
  exact va_runVN (As := as) (rest := rest) ⟨am.1, am.2.1, am.2.2.1, am.2.2.2.1, am.2.2.2.2.1⟩ hc ⟨va_cnB n hts (wt_good L1) rfl rfl rfl (am.2.2.2.2.2.2.1 _ L2) (hts _ L5) L6 ⟨show h' + 1 ≤ _ by omega, show 8 + (mL + 11) + 64 * h' ≤ _ by omega⟩, hts _ L3, hts _ L4⟩ ⟨pc_blind, hrec H hP, pc_at am hP⟩ rfl hn hl.1 hst.symm (lv_room hcat) d ⟨Nat.zero_le _, Nat.zero_le _⟩
theorem jr_S {i : Nat} {y : MethodName} {b : ByteArray} {mL n h' : Nat} {rt' : Option FieldType} {ret : Option Value} (as : List Value) (am : wt_Am z own cc nL h rt) (L : ln_S own i y b mL n rt') (hc : ct_C (zz_v z) y (Cond.code y b mL rt') h' as ret w w') (hh : h' + 1 ≤ h) (hn : as.length = n) (hst : as.reverse ++ rest = st0) (hcat : (rest.map fun v => v.category).sum ≤ 8) (d : decode cc pc = .ok (.invokestatic i, 3)) : jr_R z nL pc lv st0 rest w ret w' := by
  intro H locs ls hP hS hl
  obtain ⟨L1, L2, L3, L5, L6, L7⟩ := L
  have hts := am.2.2.2.2.1
  have hf := am.2.2.2.2.2.2.2.2.1
  have hg := am.2.2.2.2.2.2.2.2.2.1
  refine ⟨as.toArray, ?_⟩
  exact va_runS (As := as) (rest := rest) ⟨am.1, am.2.1, am.2.2.1, am.2.2.2.1, am.2.2.2.2.1⟩ hc ⟨callB_of n hts (wt_good L1) rfl rfl rfl (hts _ L5) (hts _ L2) L6 ⟨show h' + 1 ≤ _ by omega, show 8 + (mL + 11) + 64 * h' ≤ _ by omega⟩, hts _ L3⟩ ⟨pc_blind, pc_at am hP⟩ rfl hn hl.1 hst.symm (lv_room hcat) d ⟨Nat.zero_le _, Nat.zero_le _⟩
theorem jk_U {F : Option Unit} {f : Unit → Option ρ} (hr : ∀ r, F = some r → jr_R z nL pc lv st0 rest w none w) (hq : pc + 3 = q) (k : ∀ r, jj_J z nL q lv rest w Q (f r)) : jj_J z nL pc lv st0 w Q (b_U F f) := by
  subst hq
  cases hF : F with
  | none => exact ji_none
  | some r0 => exact jr_J (ret := none) (hr r0 hF) (k r0)
theorem jk_I {F : Option Int32} {f : Int32 → Option ρ} (hr : ∀ r, F = some r → jr_R z nL pc lv st0 rest w (some (.int r)) w) (hq : pc + 3 = q) (k : ∀ r, jj_J z nL q lv (.int r :: rest) w Q (f r)) : jj_J z nL pc lv st0 w Q (b_I F f) := by
  subst hq
  cases hF : F with
  | none => exact ji_none
  | some r0 => exact jr_J (ret := some (.int r0)) (hr r0 hF) (k r0)
theorem jk_S {F : Option wt_S} {f : wt_S → Option ρ} (hr : ∀ r, F = some r → jr_R z nL pc lv st0 rest (s, t, o) none (r, t, o)) (hq : pc + 3 = q) (k : ∀ r, jj_J z nL q lv rest (r, t, o) Q (f r)) : jj_J z nL pc lv st0 (s, t, o) Q (b_S F f) := by
  subst hq
  cases hF : F with
  | none => exact ji_none
  | some r0 => exact jr_J (ret := none) (hr r0 hF) (k r0)
theorem jk_T {F : Option wt_M} {f : wt_M → Option ρ} (hr : ∀ r, F = some r → jr_R z nL pc lv st0 rest (s, t, o) none (s, r, o)) (hq : pc + 3 = q) (k : ∀ r, jj_J z nL q lv rest (s, r, o) Q (f r)) : jj_J z nL pc lv st0 (s, t, o) Q (b_T F f) := by
  subst hq
  cases hF : F with
  | none => exact ji_none
  | some r0 => exact jr_J (ret := none) (hr r0 hF) (k r0)
theorem jk_IS {F : Option (Int32 × wt_S)} {f : Int32 → wt_S → Option ρ} (hr : ∀ r s2, F = some (r, s2) → jr_R z nL pc lv st0 rest (s, t, o) (some (.int r)) (s2, t, o)) (hq : pc + 3 = q) (k : ∀ r s2, jj_J z nL q lv (.int r :: rest) (s2, t, o) Q (f r s2)) : jj_J z nL pc lv st0 (s, t, o) Q (b_IS F f) := by
  subst hq
  cases hF : F with
  | none => exact ji_none
  | some r0 => exact jr_J (ret := some (.int r0.1)) (hr r0.1 r0.2 hF) (k r0.1 r0.2)
theorem jk_IT {F : Option (Int32 × wt_M)} {f : Int32 → wt_M → Option ρ} (hr : ∀ r s2, F = some (r, s2) → jr_R z nL pc lv st0 rest (s, t, o) (some (.int r)) (s, s2, o)) (hq : pc + 3 = q) (k : ∀ r s2, jj_J z nL q lv (.int r :: rest) (s, s2, o) Q (f r s2)) : jj_J z nL pc lv st0 (s, t, o) Q (b_IT F f) := by
  subst hq
  cases hF : F with
  | none => exact ji_none
  | some r0 => exact jr_J (ret := some (.int r0.1)) (hr r0.1 r0.2 hF) (k r0.1 r0.2)
end Calls
theorem ct_of {ρ : Type} {v : wt_V} {y : MethodName} {cc : ByteArray} {nL h : Nat} {rt : Option FieldType} {as : List Value} {lv : List (Nat × Value)} {w : wt_W} {x : Option ρ} (rv : ρ → Option Value) (rw : ρ → wt_W) (hy : plainName y.cls = true) (hn : (lg_sl as).length ≤ nL) (hl : lv_args 0 as = lv) (body : ∀ z : wt_Z, zz_v z = v → wt_Am z y.cls cc nL h rt → jj_J z nL 0 lv [] w (ct_M z rv rw) x) (r : ρ) (hx : x = some r) : ct_C v y (Cond.code y cc nL rt) h as (rv r) w (rw r) := by
  subst hl
  refine Met.ofW (cc := cc) (maxL := nL) (ret := rt) hy rfl ?_
  intro p e s m args below meth c s₁ B hml hv
  obtain ⟨rfl, hP, hK, hN, hD⟩ := hv
  have hts := atoms_spec (ws := Cond.code y cc nL rt :: wt_WS) B.pre
  have hb := body (p, e, wt_rm h, s, m, as.toArray, below, meth, c, v) rfl ⟨B.exec, B.bytes, hml, findClass_of_methodNamed B.named, fun w hw => hts w (List.mem_cons_of_mem _ hw), hK, hN, hD, Nat.le_refl _, Nat.le_refl _, B.notSynchronized, B.returns⟩ r hx s.heap [] _ hP va_S.rf (lv_entry as hn)
  rw [lg_entry_eq]
  exact hb
end
section
/-! Which word each call needs: printed by my program. -/
theorem ln_X_x_needRegister : ln_S R_X 16 yx_needRegister bx_needRegister 1 1 none := ⟨mc_x_needRegister, ml_X_x_needRegister, ms_x_needRegister, mi_X, ⟨by decide +kernel, by decide +kernel, by decide +kernel⟩, by decide⟩
theorem ln_X_x_needVariable : ln_S R_X 20 yx_needVariable bx_needVariable 1 1 none := ⟨mc_x_needVariable, ml_X_x_needVariable, ms_x_needVariable, mi_X, ⟨by decide +kernel, by decide +kernel, by decide +kernel⟩, by decide⟩
theorem ln_X_d_literal : ln_V R_X 23 yd_literal bd_literal 2 1 (some .int) := ⟨mc_d_literal, ml_X_d_literal, mn_d_literal, me_d_literal, mi_D, ⟨by decide +kernel, by decide +kernel, by decide +kernel⟩, by decide⟩
theorem ln_X_d_keep : ln_V R_X 27 yd_keep bd_keep 4 2 none := ⟨mc_d_keep, ml_X_d_keep, mn_d_keep, me_d_keep, mi_D, ⟨by decide +kernel, by decide +kernel, by decide +kernel⟩, by decide⟩
theorem ln_X_x_needBelow : ln_S R_X 31 yx_needBelow bx_needBelow 2 2 none := ⟨mc_x_needBelow, ml_X_x_needBelow, ms_x_needBelow, mi_X, ⟨by decide +kernel, by decide +kernel, by decide +kernel⟩, by decide⟩
theorem ln_X_d_root : ln_V R_X 34 yd_root bd_root 2 1 (some .int) := ⟨mc_d_root, ml_X_d_root, mn_d_root, me_d_root, mi_D, ⟨by decide +kernel, by decide +kernel, by decide +kernel⟩, by decide⟩
theorem ln_X_d_join : ln_N R_X 37 yd_join bd_join 8 4 (some .int) R_X := ⟨mc_d_join, List.mem_of_getElem? (i := 0) rfl, mn_d_join, me_d_join, mi_D, ⟨by decide +kernel, by decide +kernel, by decide +kernel⟩, by decide⟩
theorem ln_X_d_pick : ln_N R_X 41 yd_pick bd_pick 8 4 (some .int) R_X := ⟨mc_d_pick, List.mem_of_getElem? (i := 1) rfl, mn_d_pick, me_d_pick, mi_D, ⟨by decide +kernel, by decide +kernel, by decide +kernel⟩, by decide⟩
theorem ln_X_d_fix : ln_N R_X 44 yd_fix bd_fix 5 4 (some .int) R_X := ⟨mc_d_fix, List.mem_of_getElem? (i := 2) rfl, mn_d_fix, me_d_fix, mi_D, ⟨by decide +kernel, by decide +kernel, by decide +kernel⟩, by decide⟩
theorem ln_X_d_negate : ln_V R_X 48 yd_negate bd_negate 2 1 (some .int) := ⟨mc_d_negate, ml_X_d_negate, mn_d_negate, me_d_negate, mi_D, ⟨by decide +kernel, by decide +kernel, by decide +kernel⟩, by decide⟩
theorem ln_X_d_overlap : ln_N R_X 51 yd_overlap bd_overlap 8 4 (some .int) R_X := ⟨mc_d_overlap, List.mem_of_getElem? (i := 3) rfl, mn_d_overlap, me_d_overlap, mi_D, ⟨by decide +kernel, by decide +kernel, by decide +kernel⟩, by decide⟩
theorem ln_X_d_mirror : ln_N R_X 54 yd_mirror bd_mirror 5 2 (some .int) R_X := ⟨mc_d_mirror, List.mem_of_getElem? (i := 4) rfl, mn_d_mirror, me_d_mirror, mi_D, ⟨by decide +kernel, by decide +kernel, by decide +kernel⟩, by decide⟩
theorem ln_X_d_value : ln_V R_X 58 yd_value bd_value 5 2 (some .boolean) := ⟨mc_d_value, ml_X_d_value, mn_d_value, me_d_value, mi_D, ⟨by decide +kernel, by decide +kernel, by decide +kernel⟩, by decide⟩
theorem ln_X_d_weight : ln_N R_X 62 yd_weight bd_weight 3 2 (some .int) R_X := ⟨mc_d_weight, List.mem_of_getElem? (i := 5) rfl, mn_d_weight, me_d_weight, mi_D, ⟨by decide +kernel, by decide +kernel, by decide +kernel⟩, by decide⟩
theorem ln_X_d_support : ln_N R_X 65 yd_support bd_support 3 2 (some .int) R_X := ⟨mc_d_support, List.mem_of_getElem? (i := 6) rfl, mn_d_support, me_d_support, mi_D, ⟨by decide +kernel, by decide +kernel, by decide +kernel⟩, by decide⟩
theorem ln_X_d_size : ln_V R_X 68 yd_size bd_size 2 1 (some .int) := ⟨mc_d_size, ml_X_d_size, mn_d_size, me_d_size, mi_D, ⟨by decide +kernel, by decide +kernel, by decide +kernel⟩, by decide⟩
theorem ln_X_d_live : ln_V R_X 71 yd_live bd_live 1 0 (some .int) := ⟨mc_d_live, ml_X_d_live, mn_d_live, me_d_live, mi_D, ⟨by decide +kernel, by decide +kernel, by decide +kernel⟩, by decide⟩
theorem ln_X_x_needLevel : ln_S R_X 75 yx_needLevel bx_needLevel 2 2 none := ⟨mc_x_needLevel, ml_X_x_needLevel, ms_x_needLevel, mi_X, ⟨by decide +kernel, by decide +kernel, by decide +kernel⟩, by decide⟩
theorem ln_X_d_variableAt : ln_V R_X 78 yd_variableAt bd_variableAt 2 1 (some .int) := ⟨mc_d_variableAt, ml_X_d_variableAt, mn_d_variableAt, me_d_variableAt, mi_D, ⟨by decide +kernel, by decide +kernel, by decide +kernel⟩, by decide⟩
theorem ln_X_d_exchange : ln_V R_X 81 yd_exchange bd_exchange 5 1 none := ⟨mc_d_exchange, ml_X_d_exchange, mn_d_exchange, me_d_exchange, mi_D, ⟨by decide +kernel, by decide +kernel, by decide +kernel⟩, by decide⟩
theorem ln_X_d_move : ln_V R_X 84 yd_move bd_move 4 2 none := ⟨mc_d_move, ml_X_d_move, mn_d_move, me_d_move, mi_D, ⟨by decide +kernel, by decide +kernel, by decide +kernel⟩, by decide⟩
theorem ln_X_x_needSet : ln_V R_X 87 yx_needSet bx_needSet 2 1 none := ⟨mc_x_needSet, ml_X_x_needSet, mn_x_needSet, me_x_needSet, mi_X, ⟨by decide +kernel, by decide +kernel, by decide +kernel⟩, by decide⟩
theorem ln_X_x_after : ln_V R_X 90 yx_after bx_after 3 2 (some .int) := ⟨mc_x_after, ml_X_x_after, mn_x_after, me_x_after, mi_X, ⟨by decide +kernel, by decide +kernel, by decide +kernel⟩, by decide⟩
theorem ln_X_x_states : ln_V R_X 93 yx_states bx_states 2 1 (some .int) := ⟨mc_x_states, ml_X_x_states, mn_x_states, me_x_states, mi_X, ⟨by decide +kernel, by decide +kernel, by decide +kernel⟩, by decide⟩
theorem ln_X_d_hold : ln_V R_X 96 yd_hold bd_hold 3 2 none := ⟨mc_d_hold, ml_X_d_hold, mn_d_hold, me_d_hold, mi_D, ⟨by decide +kernel, by decide +kernel, by decide +kernel⟩, by decide⟩
theorem ln_X_d_collect : ln_V R_X 99 yd_collect bd_collect 3 0 none := ⟨mc_d_collect, ml_X_d_collect, mn_d_collect, me_d_collect, mi_D, ⟨by decide +kernel, by decide +kernel, by decide +kernel⟩, by decide⟩
theorem ln_X_x_before : ln_V R_X 102 yx_before bx_before 3 2 (some .int) := ⟨mc_x_before, ml_X_x_before, mn_x_before, me_x_before, mi_X, ⟨by decide +kernel, by decide +kernel, by decide +kernel⟩, by decide⟩
theorem ln_X_x_settle : ln_V R_X 105 yx_settle bx_settle 8 4 (some .int) := ⟨mc_x_settle, ml_X_x_settle, mn_x_settle, me_x_settle, mi_X, ⟨by decide +kernel, by decide +kernel, by decide +kernel⟩, by decide⟩
theorem ln_X_d_faults : ln_V R_X 108 yd_faults bd_faults 3 0 (some .int) := ⟨mc_d_faults, ml_X_d_faults, mn_d_faults, me_d_faults, mi_D, ⟨by decide +kernel, by decide +kernel, by decide +kernel⟩, by decide⟩
theorem ln_D_a_fill : ln_S R_D 50 ya_fill ba_fill 4 2 none := ⟨mc_a_fill, ml_D_a_fill, ms_a_fill, mi_A, ⟨by decide +kernel, by decide +kernel, by decide +kernel⟩, by decide⟩
theorem ln_D_d_collect : ln_V R_D 56 yd_collect bd_collect 3 0 none := ⟨mc_d_collect, ml_D_d_collect, mn_d_collect, me_d_collect, mi_D, ⟨by decide +kernel, by decide +kernel, by decide +kernel⟩, by decide⟩
theorem ln_D_d_node : ln_V R_D 59 yd_node bd_node 6 3 (some .int) := ⟨mc_d_node, ml_D_d_node, mn_d_node, me_d_node, mi_D, ⟨by decide +kernel, by decide +kernel, by decide +kernel⟩, by decide⟩
theorem ln_D_d_join : ln_V R_D 63 yd_join bd_join 8 4 (some .int) := ⟨mc_d_join, ml_D_d_join, mn_d_join, me_d_join, mi_D, ⟨by decide +kernel, by decide +kernel, by decide +kernel⟩, by decide⟩
theorem ln_D_d_upper : ln_V R_D 67 yd_upper bd_upper 3 2 (some .int) := ⟨mc_d_upper, ml_D_d_upper, mn_d_upper, me_d_upper, mi_D, ⟨by decide +kernel, by decide +kernel, by decide +kernel⟩, by decide⟩
theorem ln_D_d_offWay : ln_V R_D 71 yd_offWay bd_offWay 3 2 (some .int) := ⟨mc_d_offWay, ml_D_d_offWay, mn_d_offWay, me_d_offWay, mi_D, ⟨by decide +kernel, by decide +kernel, by decide +kernel⟩, by decide⟩
theorem ln_D_d_onWay : ln_V R_D 74 yd_onWay bd_onWay 3 2 (some .int) := ⟨mc_d_onWay, ml_D_d_onWay, mn_d_onWay, me_d_onWay, mi_D, ⟨by decide +kernel, by decide +kernel, by decide +kernel⟩, by decide⟩
theorem ln_D_d_pick : ln_V R_D 77 yd_pick bd_pick 8 4 (some .int) := ⟨mc_d_pick, ml_D_d_pick, mn_d_pick, me_d_pick, mi_D, ⟨by decide +kernel, by decide +kernel, by decide +kernel⟩, by decide⟩
theorem ln_D_d_fix : ln_V R_D 80 yd_fix bd_fix 5 4 (some .int) := ⟨mc_d_fix, ml_D_d_fix, mn_d_fix, me_d_fix, mi_D, ⟨by decide +kernel, by decide +kernel, by decide +kernel⟩, by decide⟩
theorem ln_D_d_overlap : ln_V R_D 84 yd_overlap bd_overlap 8 4 (some .int) := ⟨mc_d_overlap, ml_D_d_overlap, mn_d_overlap, me_d_overlap, mi_D, ⟨by decide +kernel, by decide +kernel, by decide +kernel⟩, by decide⟩
theorem ln_D_d_mirror : ln_V R_D 87 yd_mirror bd_mirror 5 2 (some .int) := ⟨mc_d_mirror, ml_D_d_mirror, mn_d_mirror, me_d_mirror, mi_D, ⟨by decide +kernel, by decide +kernel, by decide +kernel⟩, by decide⟩
theorem ln_D_d_weight : ln_V R_D 90 yd_weight bd_weight 3 2 (some .int) := ⟨mc_d_weight, ml_D_d_weight, mn_d_weight, me_d_weight, mi_D, ⟨by decide +kernel, by decide +kernel, by decide +kernel⟩, by decide⟩
theorem ln_D_d_support : ln_V R_D 93 yd_support bd_support 3 2 (some .int) := ⟨mc_d_support, ml_D_d_support, mn_d_support, me_d_support, mi_D, ⟨by decide +kernel, by decide +kernel, by decide +kernel⟩, by decide⟩
theorem ln_D_d_clearMarks : ln_V R_D 96 yd_clearMarks bd_clearMarks 2 0 none := ⟨mc_d_clearMarks, ml_D_d_clearMarks, mn_d_clearMarks, me_d_clearMarks, mi_D, ⟨by decide +kernel, by decide +kernel, by decide +kernel⟩, by decide⟩
theorem ln_D_d_mark : ln_V R_D 99 yd_mark bd_mark 3 2 (some .int) := ⟨mc_d_mark, ml_D_d_mark, mn_d_mark, me_d_mark, mi_D, ⟨by decide +kernel, by decide +kernel, by decide +kernel⟩, by decide⟩
theorem ln_D_d_exchange : ln_V R_D 102 yd_exchange bd_exchange 5 1 none := ⟨mc_d_exchange, ml_D_d_exchange, mn_d_exchange, me_d_exchange, mi_D, ⟨by decide +kernel, by decide +kernel, by decide +kernel⟩, by decide⟩
theorem ln_D_d_seat : ln_V R_D 106 yd_seat bd_seat 3 2 none := ⟨mc_d_seat, ml_D_d_seat, mn_d_seat, me_d_seat, mi_D, ⟨by decide +kernel, by decide +kernel, by decide +kernel⟩, by decide⟩
theorem ln_D_d_lift : ln_V R_D 110 yd_lift bd_lift 6 3 none := ⟨mc_d_lift, ml_D_d_lift, mn_d_lift, me_d_lift, mi_D, ⟨by decide +kernel, by decide +kernel, by decide +kernel⟩, by decide⟩
theorem ln_D_d_sweep : ln_V R_D 114 yd_sweep bd_sweep 4 0 none := ⟨mc_d_sweep, ml_D_d_sweep, mn_d_sweep, me_d_sweep, mi_D, ⟨by decide +kernel, by decide +kernel, by decide +kernel⟩, by decide⟩
theorem ln_D_d_bucket : ln_S R_D 117 yd_bucket bd_bucket 3 3 (some .int) := ⟨mc_d_bucket, ml_D_d_bucket, ms_d_bucket, mi_D, ⟨by decide +kernel, by decide +kernel, by decide +kernel⟩, by decide⟩
theorem ln_D_d_blameUnder : ln_V R_D 120 yd_blameUnder bd_blameUnder 4 2 none := ⟨mc_d_blameUnder, ml_D_d_blameUnder, mn_d_blameUnder, me_d_blameUnder, mi_D, ⟨by decide +kernel, by decide +kernel, by decide +kernel⟩, by decide⟩
theorem ln_D_d_blame : ln_V R_D 123 yd_blame bd_blame 4 1 none := ⟨mc_d_blame, ml_D_d_blame, mn_d_blame, me_d_blame, mi_D, ⟨by decide +kernel, by decide +kernel, by decide +kernel⟩, by decide⟩
theorem ln_D_d_found : ln_V R_D 126 yd_found bd_found 7 4 (some .int) := ⟨mc_d_found, ml_D_d_found, mn_d_found, me_d_found, mi_D, ⟨by decide +kernel, by decide +kernel, by decide +kernel⟩, by decide⟩
theorem ln_D_d_added : ln_V R_D 129 yd_added bd_added 6 4 (some .int) := ⟨mc_d_added, ml_D_d_added, mn_d_added, me_d_added, mi_D, ⟨by decide +kernel, by decide +kernel, by decide +kernel⟩, by decide⟩
theorem ln_M_m_in : ln_S R_M 54 ym_in bm_in 3 3 (some .boolean) := ⟨mc_m_in, ml_M_m_in, ms_m_in, mi_M, ⟨by decide +kernel, by decide +kernel, by decide +kernel⟩, by decide⟩
theorem ln_M_m_isRegister : ln_S R_M 58 ym_isRegister bm_isRegister 1 1 (some .boolean) := ⟨mc_m_isRegister, ml_M_m_isRegister, ms_m_isRegister, mi_M, ⟨by decide +kernel, by decide +kernel, by decide +kernel⟩, by decide⟩
theorem ln_M_m_isVariable : ln_S R_M 62 ym_isVariable bm_isVariable 1 1 (some .boolean) := ⟨mc_m_isVariable, ml_M_m_isVariable, ms_m_isVariable, mi_M, ⟨by decide +kernel, by decide +kernel, by decide +kernel⟩, by decide⟩
theorem ln_M_m_clear : ln_V R_M 65 ym_clear bm_clear 2 0 none := ⟨mc_m_clear, ml_M_m_clear, mn_m_clear, me_m_clear, mi_M, ⟨by decide +kernel, by decide +kernel, by decide +kernel⟩, by decide⟩
theorem ln_M_m_set : ln_V R_M 68 ym_set bm_set 3 2 none := ⟨mc_m_set, ml_M_m_set, mn_m_set, me_m_set, mi_M, ⟨by decide +kernel, by decide +kernel, by decide +kernel⟩, by decide⟩
theorem ln_M_m_keep : ln_V R_M 72 ym_keep bm_keep 3 1 none := ⟨mc_m_keep, ml_M_m_keep, mn_m_keep, me_m_keep, mi_M, ⟨by decide +kernel, by decide +kernel, by decide +kernel⟩, by decide⟩
theorem ln_M_m_value : ln_V R_M 76 ym_value bm_value 3 2 (some .boolean) := ⟨mc_m_value, ml_M_m_value, mn_m_value, me_m_value, mi_M, ⟨by decide +kernel, by decide +kernel, by decide +kernel⟩, by decide⟩
theorem ln_M_m_with : ln_S R_M 80 ym_with bm_with 3 3 (some .int) := ⟨mc_m_with, ml_M_m_with, ms_m_with, mi_M, ⟨by decide +kernel, by decide +kernel, by decide +kernel⟩, by decide⟩
theorem ln_M_m_dependsOn : ln_V R_M 84 ym_dependsOn bm_dependsOn 5 1 (some .int) := ⟨mc_m_dependsOn, ml_M_m_dependsOn, mn_m_dependsOn, me_m_dependsOn, mi_M, ⟨by decide +kernel, by decide +kernel, by decide +kernel⟩, by decide⟩
theorem ln_M_m_put : ln_V R_M 96 ym_put bm_put 6 1 (some .int) := ⟨mc_m_put, ml_M_m_put, mn_m_put, me_m_put, mi_M, ⟨by decide +kernel, by decide +kernel, by decide +kernel⟩, by decide⟩
theorem ln_M_m_tell : ln_V R_M 99 ym_tell bm_tell 3 2 none := ⟨mc_m_tell, ml_M_m_tell, mn_m_tell, me_m_tell, mi_M, ⟨by decide +kernel, by decide +kernel, by decide +kernel⟩, by decide⟩
theorem ln_M_m_cutBy : ln_V R_M 106 ym_cutBy bm_cutBy 9 3 none := ⟨mc_m_cutBy, ml_M_m_cutBy, mn_m_cutBy, me_m_cutBy, mi_M, ⟨by decide +kernel, by decide +kernel, by decide +kernel⟩, by decide⟩
theorem ln_M_m_nodesOf : ln_V R_M 110 ym_nodesOf bm_nodesOf 6 2 (some .int) := ⟨mc_m_nodesOf, ml_M_m_nodesOf, mn_m_nodesOf, me_m_nodesOf, mi_M, ⟨by decide +kernel, by decide +kernel, by decide +kernel⟩, by decide⟩
theorem ln_M_m_lay : ln_V R_M 114 ym_lay bm_lay 5 2 none := ⟨mc_m_lay, ml_M_m_lay, mn_m_lay, me_m_lay, mi_M, ⟨by decide +kernel, by decide +kernel, by decide +kernel⟩, by decide⟩
theorem ln_M_m_spread : ln_S R_M 118 ym_spread bm_spread 1 1 (some .int) := ⟨mc_m_spread, ml_M_m_spread, ms_m_spread, mi_M, ⟨by decide +kernel, by decide +kernel, by decide +kernel⟩, by decide⟩
theorem ln_M_m_isSet : ln_V R_M 121 ym_isSet bm_isSet 2 1 (some .boolean) := ⟨mc_m_isSet, ml_M_m_isSet, mn_m_isSet, me_m_isSet, mi_M, ⟨by decide +kernel, by decide +kernel, by decide +kernel⟩, by decide⟩
theorem ln_M_m_learnSteps : ln_V R_M 124 ym_learnSteps bm_learnSteps 4 1 none := ⟨mc_m_learnSteps, ml_M_m_learnSteps, mn_m_learnSteps, me_m_learnSteps, mi_M, ⟨by decide +kernel, by decide +kernel, by decide +kernel⟩, by decide⟩
theorem ln_M_m_statesOf : ln_V R_M 127 ym_statesOf bm_statesOf 4 1 (some .int) := ⟨mc_m_statesOf, ml_M_m_statesOf, mn_m_statesOf, me_m_statesOf, mi_M, ⟨by decide +kernel, by decide +kernel, by decide +kernel⟩, by decide⟩
theorem ln_M_m_imageOf : ln_V R_M 130 ym_imageOf bm_imageOf 4 1 (some .int) := ⟨mc_m_imageOf, ml_M_m_imageOf, mn_m_imageOf, me_m_imageOf, mi_M, ⟨by decide +kernel, by decide +kernel, by decide +kernel⟩, by decide⟩
theorem ln_M_m_keepStates : ln_V R_M 133 ym_keepStates bm_keepStates 5 2 none := ⟨mc_m_keepStates, ml_M_m_keepStates, mn_m_keepStates, me_m_keepStates, mi_M, ⟨by decide +kernel, by decide +kernel, by decide +kernel⟩, by decide⟩
theorem ln_M_m_sizeOf : ln_S R_M 136 ym_sizeOf bm_sizeOf 3 1 (some .int) := ⟨mc_m_sizeOf, ml_M_m_sizeOf, ms_m_sizeOf, mi_M, ⟨by decide +kernel, by decide +kernel, by decide +kernel⟩, by decide⟩
theorem ln_M_m_stepsTo : ln_V R_M 139 ym_stepsTo bm_stepsTo 4 1 (some .int) := ⟨mc_m_stepsTo, ml_M_m_stepsTo, mn_m_stepsTo, me_m_stepsTo, mi_M, ⟨by decide +kernel, by decide +kernel, by decide +kernel⟩, by decide⟩
theorem ln_M_m_until : ln_V R_M 143 ym_until bm_until 5 2 (some .int) := ⟨mc_m_until, ml_M_m_until, mn_m_until, me_m_until, mi_M, ⟨by decide +kernel, by decide +kernel, by decide +kernel⟩, by decide⟩
theorem ln_M_m_always : ln_V R_M 146 ym_always bm_always 4 1 (some .int) := ⟨mc_m_always, ml_M_m_always, mn_m_always, me_m_always, mi_M, ⟨by decide +kernel, by decide +kernel, by decide +kernel⟩, by decide⟩
theorem ln_M_m_formulaOf : ln_V R_M 149 ym_formulaOf bm_formulaOf 6 3 (some .int) := ⟨mc_m_formulaOf, ml_M_m_formulaOf, mn_m_formulaOf, me_m_formulaOf, mi_M, ⟨by decide +kernel, by decide +kernel, by decide +kernel⟩, by decide⟩
end
