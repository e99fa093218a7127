theorem ml0_3 : Cond.methodLink "FilterProof" 3 ⟨"java/lang/Object", "<init>", "()V"⟩ ∈ xm_tbl := (xm_in (List.mem_of_getElem? (i := 20) (by decide +kernel)) rfl)
theorem ml0_11 : Cond.methodLink "FilterProof" 11 ⟨"java/lang/Math", "min", "(II)I"⟩ ∈ xm_tbl := (xm_in (List.mem_of_getElem? (i := 25) (by decide +kernel)) rfl)
theorem ml0_17 : Cond.methodLink "FilterProof" 17 ⟨"java/lang/Math", "max", "(II)I"⟩ ∈ xm_tbl := (xm_in (List.mem_of_getElem? (i := 28) (by decide +kernel)) rfl)
theorem ml0_20 : Cond.methodLink "FilterProof" 20 ⟨"FilterProof$Filter", "<init>", "(I)V"⟩ ∈ xm_tbl := (xm_in (List.mem_of_getElem? (i := 31) (by decide +kernel)) rfl)
theorem ml0_29 : ("FilterProof", 29, (⟨"FilterProof$Tape", "<init>", "()V"⟩ : MethodName)) ∈ xm_nest := by decide
theorem ml0_36 : ("FilterProof", 36, (⟨"FilterProof$Packet", "<init>", "()V"⟩ : MethodName)) ∈ xm_nest := by decide
theorem ml0_43 : Cond.methodLink "FilterProof" 43 ⟨"FilterProof$Producer", "<init>", "()V"⟩ ∈ xm_tbl := (xm_in (List.mem_of_getElem? (i := 135) (by decide +kernel)) rfl)
theorem ml0_50 : ("FilterProof", 50, (⟨"FilterProof$Consumer", "<init>", "()V"⟩ : MethodName)) ∈ xm_nest := by decide
theorem ml0_57 : ("FilterProof", 57, (⟨"FilterProof$Machine", "<init>", "()V"⟩ : MethodName)) ∈ xm_nest := by decide
theorem ml0_66 : Cond.methodLink "FilterProof" 66 ⟨"FilterProof$Filter", "append", "(IIIII)Z"⟩ ∈ xm_tbl := (xm_in (List.mem_of_getElem? (i := 356) (by decide +kernel)) rfl)
theorem ml0_73 : Cond.methodLink "FilterProof" 73 ⟨"FilterProof$Tape", "keep", "(I)Z"⟩ ∈ xm_tbl := (xm_in (List.mem_of_getElem? (i := 368) (by decide +kernel)) rfl)
theorem ml0_77 : Cond.methodLink "FilterProof" 77 ⟨"FilterProof$Filter", "wrongPlace", "()I"⟩ ∈ xm_tbl := (xm_in (List.mem_of_getElem? (i := 372) (by decide +kernel)) rfl)
theorem ml0_81 : Cond.methodLink "FilterProof" 81 ⟨"FilterProof$Producer", "produce", "(LFilterProof$Filter;LFilterProof$Tape;)I"⟩ ∈ xm_tbl := (xm_in (List.mem_of_getElem? (i := 391) (by decide +kernel)) rfl)
theorem ml0_88 : Cond.methodLink "FilterProof" 88 ⟨"FilterProof$Tape", "append", "(I)Z"⟩ ∈ xm_tbl := (xm_in (List.mem_of_getElem? (i := 592) (by decide +kernel)) rfl)
theorem ml0_90 : Cond.methodLink "FilterProof" 90 ⟨"FilterProof$Tape", "replace", "(II)Z"⟩ ∈ xm_tbl := (xm_in (List.mem_of_getElem? (i := 601) (by decide +kernel)) rfl)
theorem ml0_94 : Cond.methodLink "FilterProof" 94 ⟨"FilterProof$Tape", "get", "(I)I"⟩ ∈ xm_tbl := (xm_in (List.mem_of_getElem? (i := 613) (by decide +kernel)) rfl)
theorem ml0_98 : Cond.methodLink "FilterProof" 98 ⟨"FilterProof$Consumer", "read", "(LFilterProof$Filter;LFilterProof$Tape;)I"⟩ ∈ xm_tbl := (xm_in (List.mem_of_getElem? (i := 621) (by decide +kernel)) rfl)
theorem ml0_104 : Cond.methodLink "FilterProof" 104 ⟨"FilterProof$Packet", "append", "(JI)Z"⟩ ∈ xm_tbl := (xm_in (List.mem_of_getElem? (i := 691) (by decide +kernel)) rfl)
theorem ml0_111 : Cond.methodLink "FilterProof" 111 ⟨"FilterProof$Machine", "execute", "(LFilterProof$Filter;LFilterProof$Packet;)I"⟩ ∈ xm_tbl := (xm_in (List.mem_of_getElem? (i := 703) (by decide +kernel)) rfl)
theorem ml9_3 : Cond.methodLink "FilterProof$Consumer" 3 ⟨"java/lang/Object", "<init>", "()V"⟩ ∈ xm_tbl := (xm_in (List.mem_of_getElem? (i := 271) (by decide +kernel)) rfl)
theorem ml9_20 : ("FilterProof$Consumer", 20, (⟨"FilterProof$Step", "<init>", "()V"⟩ : MethodName)) ∈ xm_nest := by decide
theorem ml9_49 : Cond.methodLink "FilterProof$Consumer" 49 ⟨"FilterProof$Filter", "wrongPlace", "()I"⟩ ∈ xm_tbl := (xm_in (List.mem_of_getElem? (i := 625) (by decide +kernel)) rfl)
theorem ml9_55 : Cond.methodLink "FilterProof$Consumer" 55 ⟨"FilterProof$Consumer", "readFacts", "()Z"⟩ ∈ xm_tbl := (xm_in (List.mem_of_getElem? (i := 626) (by decide +kernel)) rfl)
theorem ml9_59 : Cond.methodLink "FilterProof$Consumer" 59 ⟨"FilterProof$Consumer", "readReasonsFor", "(III)Z"⟩ ∈ xm_tbl := (xm_in (List.mem_of_getElem? (i := 647) (by decide +kernel)) rfl)
theorem ml9_63 : Cond.methodLink "FilterProof$Consumer" 63 ⟨"FilterProof$Consumer", "refuse", "(II)Z"⟩ ∈ xm_tbl := (xm_in (List.mem_of_getElem? (i := 638) (by decide +kernel)) rfl)
theorem ml9_70 : Cond.methodLink "FilterProof$Consumer" 70 ⟨"FilterProof$Consumer", "readAccess", "(I)Z"⟩ ∈ xm_tbl := (xm_in (List.mem_of_getElem? (i := 669) (by decide +kernel)) rfl)
theorem ml9_74 : Cond.methodLink "FilterProof$Consumer" 74 ⟨"FilterProof$Consumer", "readEdges", "(I)Z"⟩ ∈ xm_tbl := (xm_in (List.mem_of_getElem? (i := 676) (by decide +kernel)) rfl)
theorem ml9_82 : Cond.methodLink "FilterProof$Consumer" 82 ⟨"FilterProof$Tape", "get", "(I)I"⟩ ∈ xm_tbl := (xm_in (List.mem_of_getElem? (i := 642) (by decide +kernel)) rfl)
theorem ml9_89 : Cond.methodLink "FilterProof$Consumer" 89 ⟨"FilterProof$Consumer", "readAny", "()Z"⟩ ∈ xm_tbl := (xm_in (List.mem_of_getElem? (i := 634) (by decide +kernel)) rfl)
theorem ml9_92 : Cond.methodLink "FilterProof$Consumer" 92 ⟨"FilterProof$Consumer", "readWithin", "(II)Z"⟩ ∈ xm_tbl := (xm_in (List.mem_of_getElem? (i := 630) (by decide +kernel)) rfl)
theorem ml9_95 : Cond.methodLink "FilterProof$Consumer" 95 ⟨"FilterProof$Consumer", "readFact", "()Z"⟩ ∈ xm_tbl := (xm_in (List.mem_of_getElem? (i := 643) (by decide +kernel)) rfl)
theorem ml9_102 : Cond.methodLink "FilterProof$Consumer" 102 ⟨"FilterProof$Instruction", "isAccess", "()Z"⟩ ∈ xm_tbl := (xm_in (List.mem_of_getElem? (i := 673) (by decide +kernel)) rfl)
theorem ml9_113 : Cond.methodLink "FilterProof$Consumer" 113 ⟨"FilterProof$Consumer", "readReason", "(IIIIJ)Z"⟩ ∈ xm_tbl := (xm_in (List.mem_of_getElem? (i := 651) (by decide +kernel)) rfl)
theorem ml9_117 : Cond.methodLink "FilterProof$Consumer" 117 ⟨"FilterProof$Instruction", "accessTop", "()I"⟩ ∈ xm_tbl := (xm_in (List.mem_of_getElem? (i := 674) (by decide +kernel)) rfl)
theorem ml9_120 : Cond.methodLink "FilterProof$Consumer" 120 ⟨"FilterProof$Instruction", "accessMost", "()J"⟩ ∈ xm_tbl := (xm_in (List.mem_of_getElem? (i := 675) (by decide +kernel)) rfl)
theorem ml9_124 : Cond.methodLink "FilterProof$Consumer" 124 ⟨"FilterProof$Instruction", "edgeCount", "()I"⟩ ∈ xm_tbl := (xm_in (List.mem_of_getElem? (i := 680) (by decide +kernel)) rfl)
theorem ml9_127 : Cond.methodLink "FilterProof$Consumer" 127 ⟨"FilterProof$Instruction", "edgeEnd", "(II)I"⟩ ∈ xm_tbl := (xm_in (List.mem_of_getElem? (i := 681) (by decide +kernel)) rfl)
theorem ml9_133 : Cond.methodLink "FilterProof$Consumer" 133 ⟨"FilterProof$Consumer", "findStep", "(III)Z"⟩ ∈ xm_tbl := (xm_in (List.mem_of_getElem? (i := 655) (by decide +kernel)) rfl)
theorem ml9_149 : Cond.methodLink "FilterProof$Consumer" 149 ⟨"FilterProof$Step", "becomeBeginning", "(II)Z"⟩ ∈ xm_tbl := (xm_in (List.mem_of_getElem? (i := 659) (by decide +kernel)) rfl)
theorem ml9_152 : Cond.methodLink "FilterProof$Consumer" 152 ⟨"FilterProof$Consumer", "findFact", "(LFilterProof$Step;II)Z"⟩ ∈ xm_tbl := (xm_in (List.mem_of_getElem? (i := 660) (by decide +kernel)) rfl)
theorem ml9_156 : Cond.methodLink "FilterProof$Consumer" 156 ⟨"FilterProof$Step", "carryOver", "(LFilterProof$Instruction;)Z"⟩ ∈ xm_tbl := (xm_in (List.mem_of_getElem? (i := 665) (by decide +kernel)) rfl)
theorem ml9_163 : Cond.methodLink "FilterProof$Consumer" 163 ⟨"FilterProof$Instruction", "jumpsBy", "(I)Z"⟩ ∈ xm_tbl := (xm_in (List.mem_of_getElem? (i := 666) (by decide +kernel)) rfl)
theorem ml9_166 : Cond.methodLink "FilterProof$Consumer" 166 ⟨"FilterProof$Step", "becomeFurther", "(LFilterProof$Instruction;ZI)Z"⟩ ∈ xm_tbl := (xm_in (List.mem_of_getElem? (i := 667) (by decide +kernel)) rfl)
theorem ml9_170 : Cond.methodLink "FilterProof$Consumer" 170 ⟨"FilterProof$Step", "becomeSum", "(LFilterProof$Instruction;LFilterProof$Step;LFilterProof$Step;)Z"⟩ ∈ xm_tbl := (xm_in (List.mem_of_getElem? (i := 668) (by decide +kernel)) rfl)
theorem ml9_174 : Cond.methodLink "FilterProof$Consumer" 174 ⟨"FilterProof$Step", "become", "(IIJ)Z"⟩ ∈ xm_tbl := (xm_in (List.mem_of_getElem? (i := 664) (by decide +kernel)) rfl)
theorem ml1_3 : Cond.methodLink "FilterProof$Filter" 3 ⟨"java/lang/Object", "<init>", "()V"⟩ ∈ xm_tbl := (xm_in (List.mem_of_getElem? (i := 34) (by decide +kernel)) rfl)
theorem ml1_21 : ("FilterProof$Filter", 21, (⟨"FilterProof$Instruction", "<init>", "()V"⟩ : MethodName)) ∈ xm_nest := by decide
theorem ml1_40 : Cond.methodLink "FilterProof$Filter" 40 ⟨"FilterProof$Instruction", "isRight", "(II)Z"⟩ ∈ xm_tbl := (xm_in (List.mem_of_getElem? (i := 376) (by decide +kernel)) rfl)
theorem ml2_3 : Cond.methodLink "FilterProof$Instruction" 3 ⟨"java/lang/Object", "<init>", "()V"⟩ ∈ xm_tbl := (xm_in (List.mem_of_getElem? (i := 41) (by decide +kernel)) rfl)
theorem ml2_15 : Cond.methodLink "FilterProof$Instruction" 15 ⟨"FilterProof$Instruction", "isRegister", "(I)Z"⟩ ∈ xm_tbl := (xm_in (List.mem_of_getElem? (i := 380) (by decide +kernel)) rfl)
theorem ml2_22 : Cond.methodLink "FilterProof$Instruction" 22 ⟨"FilterProof$Instruction", "hasRightNumber", "()Z"⟩ ∈ xm_tbl := (xm_in (List.mem_of_getElem? (i := 383) (by decide +kernel)) rfl)
theorem ml2_26 : Cond.methodLink "FilterProof$Instruction" 26 ⟨"FilterProof$Instruction", "hasRightTarget", "(II)Z"⟩ ∈ xm_tbl := (xm_in (List.mem_of_getElem? (i := 387) (by decide +kernel)) rfl)
theorem ml2_39 : Cond.methodLink "FilterProof$Instruction" 39 ⟨"FilterProof$Instruction", "jumpsBy", "(I)Z"⟩ ∈ xm_tbl := (xm_in (List.mem_of_getElem? (i := 491) (by decide +kernel)) rfl)
theorem ml2_42 : Cond.methodLink "FilterProof$Instruction" 42 ⟨"FilterProof$Instruction", "isScratchAccess", "()Z"⟩ ∈ xm_tbl := (xm_in (List.mem_of_getElem? (i := 554) (by decide +kernel)) rfl)
theorem ml2_47 : Cond.methodLink "FilterProof$Instruction" 47 ⟨"FilterProof$Instruction", "loadSize", "()I"⟩ ∈ xm_tbl := (xm_in (List.mem_of_getElem? (i := 563) (by decide +kernel)) rfl)
theorem ml10_3 : Cond.methodLink "FilterProof$Machine" 3 ⟨"java/lang/Object", "<init>", "()V"⟩ ∈ xm_tbl := (xm_in (List.mem_of_getElem? (i := 314) (by decide +kernel)) rfl)
theorem ml10_19 : Cond.methodLink "FilterProof$Machine" 19 ⟨"java/util/Arrays", "fill", "([II)V"⟩ ∈ xm_tbl := (xm_in (List.mem_of_getElem? (i := 707) (by decide +kernel)) rfl)
theorem ml10_25 : Cond.methodLink "FilterProof$Machine" 25 ⟨"java/util/Arrays", "fill", "([BB)V"⟩ ∈ xm_tbl := (xm_in (List.mem_of_getElem? (i := 710) (by decide +kernel)) rfl)
theorem ml10_57 : Cond.methodLink "FilterProof$Machine" 57 ⟨"FilterProof$Machine", "perform", "(LFilterProof$Instruction;LFilterProof$Packet;)I"⟩ ∈ xm_tbl := (xm_in (List.mem_of_getElem? (i := 713) (by decide +kernel)) rfl)
theorem ml10_61 : Cond.methodLink "FilterProof$Machine" 61 ⟨"FilterProof$Machine", "jumps", "(LFilterProof$Instruction;)Z"⟩ ∈ xm_tbl := (xm_in (List.mem_of_getElem? (i := 741) (by decide +kernel)) rfl)
theorem ml10_74 : Cond.methodLink "FilterProof$Machine" 74 ⟨"FilterProof$Machine", "become", "(IJ)I"⟩ ∈ xm_tbl := (xm_in (List.mem_of_getElem? (i := 717) (by decide +kernel)) rfl)
theorem ml10_78 : Cond.methodLink "FilterProof$Machine" 78 ⟨"FilterProof$Instruction", "isAccess", "()Z"⟩ ∈ xm_tbl := (xm_in (List.mem_of_getElem? (i := 721) (by decide +kernel)) rfl)
theorem ml10_82 : Cond.methodLink "FilterProof$Machine" 82 ⟨"FilterProof$Machine", "access", "(LFilterProof$Instruction;LFilterProof$Packet;)I"⟩ ∈ xm_tbl := (xm_in (List.mem_of_getElem? (i := 722) (by decide +kernel)) rfl)
theorem ml10_85 : Cond.methodLink "FilterProof$Machine" 85 ⟨"FilterProof$Instruction", "isScratchAccess", "()Z"⟩ ∈ xm_tbl := (xm_in (List.mem_of_getElem? (i := 726) (by decide +kernel)) rfl)
theorem ml10_88 : Cond.methodLink "FilterProof$Machine" 88 ⟨"FilterProof$Machine", "accessScratch", "(LFilterProof$Instruction;J)I"⟩ ∈ xm_tbl := (xm_in (List.mem_of_getElem? (i := 727) (by decide +kernel)) rfl)
theorem ml10_92 : Cond.methodLink "FilterProof$Machine" 92 ⟨"FilterProof$Instruction", "loadSize", "()I"⟩ ∈ xm_tbl := (xm_in (List.mem_of_getElem? (i := 732) (by decide +kernel)) rfl)
theorem ml10_96 : Cond.methodLink "FilterProof$Machine" 96 ⟨"FilterProof$Packet", "has", "(JI)Z"⟩ ∈ xm_tbl := (xm_in (List.mem_of_getElem? (i := 733) (by decide +kernel)) rfl)
theorem ml10_100 : Cond.methodLink "FilterProof$Machine" 100 ⟨"FilterProof$Packet", "load", "(II)I"⟩ ∈ xm_tbl := (xm_in (List.mem_of_getElem? (i := 737) (by decide +kernel)) rfl)
theorem ml4_3 : Cond.methodLink "FilterProof$Packet" 3 ⟨"java/lang/Object", "<init>", "()V"⟩ ∈ xm_tbl := (xm_in (List.mem_of_getElem? (i := 122) (by decide +kernel)) rfl)
theorem ml5_3 : Cond.methodLink "FilterProof$Producer" 3 ⟨"java/lang/Object", "<init>", "()V"⟩ ∈ xm_tbl := (xm_in (List.mem_of_getElem? (i := 138) (by decide +kernel)) rfl)
theorem ml5_35 : ("FilterProof$Producer", 35, (⟨"FilterProof$StepList", "<init>", "()V"⟩ : MethodName)) ∈ xm_nest := by decide
theorem ml5_42 : ("FilterProof$Producer", 42, (⟨"FilterProof$RowFinder", "<init>", "()V"⟩ : MethodName)) ∈ xm_nest := by decide
theorem ml5_49 : Cond.methodLink "FilterProof$Producer" 49 ⟨"java/util/Arrays", "fill", "([JJ)V"⟩ ∈ xm_tbl := (xm_in (List.mem_of_getElem? (i := 226) (by decide +kernel)) rfl)
theorem ml5_70 : Cond.methodLink "FilterProof$Producer" 70 ⟨"FilterProof$Producer", "findBounds", "()V"⟩ ∈ xm_tbl := (xm_in (List.mem_of_getElem? (i := 395) (by decide +kernel)) rfl)
theorem ml5_79 : Cond.methodLink "FilterProof$Producer" 79 ⟨"FilterProof$Producer", "forgetNeeds", "(I)V"⟩ ∈ xm_tbl := (xm_in (List.mem_of_getElem? (i := 492) (by decide +kernel)) rfl)
theorem ml5_83 : Cond.methodLink "FilterProof$Producer" 83 ⟨"FilterProof$Producer", "giveAccess", "(I)Z"⟩ ∈ xm_tbl := (xm_in (List.mem_of_getElem? (i := 496) (by decide +kernel)) rfl)
theorem ml5_87 : Cond.methodLink "FilterProof$Producer" 87 ⟨"FilterProof$Producer", "giveEdges", "(I)Z"⟩ ∈ xm_tbl := (xm_in (List.mem_of_getElem? (i := 567) (by decide +kernel)) rfl)
theorem ml5_90 : Cond.methodLink "FilterProof$Producer" 90 ⟨"FilterProof$Producer", "writeFacts", "()V"⟩ ∈ xm_tbl := (xm_in (List.mem_of_getElem? (i := 580) (by decide +kernel)) rfl)
theorem ml5_96 : Cond.methodLink "FilterProof$Producer" 96 ⟨"FilterProof$StepList", "takeBeginning", "(I)V"⟩ ∈ xm_tbl := (xm_in (List.mem_of_getElem? (i := 399) (by decide +kernel)) rfl)
theorem ml5_99 : Cond.methodLink "FilterProof$Producer" 99 ⟨"FilterProof$Producer", "giveReasonsFor", "(II)Z"⟩ ∈ xm_tbl := (xm_in (List.mem_of_getElem? (i := 576) (by decide +kernel)) rfl)
theorem ml5_103 : Cond.methodLink "FilterProof$Producer" 103 ⟨"FilterProof$Producer", "rankNeeds", "(I)V"⟩ ∈ xm_tbl := (xm_in (List.mem_of_getElem? (i := 584) (by decide +kernel)) rfl)
theorem ml5_106 : Cond.methodLink "FilterProof$Producer" 106 ⟨"FilterProof$StepList", "closeRows", "()Z"⟩ ∈ xm_tbl := (xm_in (List.mem_of_getElem? (i := 429) (by decide +kernel)) rfl)
theorem ml5_110 : Cond.methodLink "FilterProof$Producer" 110 ⟨"FilterProof$Producer", "joinBounds", "(I)V"⟩ ∈ xm_tbl := (xm_in (List.mem_of_getElem? (i := 437) (by decide +kernel)) rfl)
theorem ml5_117 : Cond.methodLink "FilterProof$Producer" 117 ⟨"FilterProof$Instruction", "edgeCount", "()I"⟩ ∈ xm_tbl := (xm_in (List.mem_of_getElem? (i := 448) (by decide +kernel)) rfl)
theorem ml5_123 : Cond.methodLink "FilterProof$Producer" 123 ⟨"FilterProof$StepList", "takeEdge", "(LFilterProof$Instruction;I[J)V"⟩ ∈ xm_tbl := (xm_in (List.mem_of_getElem? (i := 452) (by decide +kernel)) rfl)
theorem ml5_127 : Cond.methodLink "FilterProof$Producer" 127 ⟨"FilterProof$Instruction", "edgeEnd", "(II)I"⟩ ∈ xm_tbl := (xm_in (List.mem_of_getElem? (i := 487) (by decide +kernel)) rfl)
theorem ml5_131 : Cond.methodLink "FilterProof$Producer" 131 ⟨"FilterProof$StepList", "bound", "(II)J"⟩ ∈ xm_tbl := (xm_in (List.mem_of_getElem? (i := 441) (by decide +kernel)) rfl)
theorem ml5_135 : Cond.methodLink "FilterProof$Producer" 135 ⟨"java/lang/Math", "max", "(JJ)J"⟩ ∈ xm_tbl := (xm_in (List.mem_of_getElem? (i := 445) (by decide +kernel)) rfl)
theorem ml5_141 : Cond.methodLink "FilterProof$Producer" 141 ⟨"FilterProof$Instruction", "isAccess", "()Z"⟩ ∈ xm_tbl := (xm_in (List.mem_of_getElem? (i := 500) (by decide +kernel)) rfl)
theorem ml5_144 : Cond.methodLink "FilterProof$Producer" 144 ⟨"FilterProof$StepList", "takeFacts", "([J)V"⟩ ∈ xm_tbl := (xm_in (List.mem_of_getElem? (i := 504) (by decide +kernel)) rfl)
theorem ml5_154 : Cond.methodLink "FilterProof$Producer" 154 ⟨"FilterProof$RowFinder", "find", "(LFilterProof$StepList;IIJ)Z"⟩ ∈ xm_tbl := (xm_in (List.mem_of_getElem? (i := 508) (by decide +kernel)) rfl)
theorem ml5_158 : Cond.methodLink "FilterProof$Producer" 158 ⟨"FilterProof$Producer", "giveRow", "(I)Z"⟩ ∈ xm_tbl := (xm_in (List.mem_of_getElem? (i := 526) (by decide +kernel)) rfl)
theorem ml5_161 : Cond.methodLink "FilterProof$Producer" 161 ⟨"FilterProof$Instruction", "accessTop", "()I"⟩ ∈ xm_tbl := (xm_in (List.mem_of_getElem? (i := 550) (by decide +kernel)) rfl)
theorem ml5_164 : Cond.methodLink "FilterProof$Producer" 164 ⟨"FilterProof$Instruction", "accessMost", "()J"⟩ ∈ xm_tbl := (xm_in (List.mem_of_getElem? (i := 558) (by decide +kernel)) rfl)
theorem ml5_168 : Cond.methodLink "FilterProof$Producer" 168 ⟨"FilterProof$Producer", "put", "(I)V"⟩ ∈ xm_tbl := (xm_in (List.mem_of_getElem? (i := 530) (by decide +kernel)) rfl)
theorem ml5_171 : Cond.methodLink "FilterProof$Producer" 171 ⟨"FilterProof$Producer", "giveImpossible", "(I)Z"⟩ ∈ xm_tbl := (xm_in (List.mem_of_getElem? (i := 571) (by decide +kernel)) rfl)
theorem ml5_182 : Cond.methodLink "FilterProof$Producer" 182 ⟨"FilterProof$Producer", "numberInProof", "(II)I"⟩ ∈ xm_tbl := (xm_in (List.mem_of_getElem? (i := 538) (by decide +kernel)) rfl)
theorem ml5_185 : Cond.methodLink "FilterProof$Producer" 185 ⟨"FilterProof$Producer", "needPartsOf", "(II)V"⟩ ∈ xm_tbl := (xm_in (List.mem_of_getElem? (i := 542) (by decide +kernel)) rfl)
theorem ml5_189 : Cond.methodLink "FilterProof$Producer" 189 ⟨"FilterProof$Producer", "need", "(II)V"⟩ ∈ xm_tbl := (xm_in (List.mem_of_getElem? (i := 546) (by decide +kernel)) rfl)
theorem ml5_195 : Cond.methodLink "FilterProof$Producer" 195 ⟨"FilterProof$Tape", "append", "(I)Z"⟩ ∈ xm_tbl := (xm_in (List.mem_of_getElem? (i := 534) (by decide +kernel)) rfl)
theorem ml8_3 : Cond.methodLink "FilterProof$RowFinder" 3 ⟨"java/lang/Object", "<init>", "()V"⟩ ∈ xm_tbl := (xm_in (List.mem_of_getElem? (i := 211) (by decide +kernel)) rfl)
theorem ml8_22 : Cond.methodLink "FilterProof$RowFinder" 22 ⟨"java/util/Arrays", "fill", "([JJ)V"⟩ ∈ xm_tbl := (xm_in (List.mem_of_getElem? (i := 513) (by decide +kernel)) rfl)
theorem ml8_28 : Cond.methodLink "FilterProof$RowFinder" 28 ⟨"FilterProof$RowFinder", "lengthenRows", "(LFilterProof$StepList;I)V"⟩ ∈ xm_tbl := (xm_in (List.mem_of_getElem? (i := 514) (by decide +kernel)) rfl)
theorem ml8_36 : Cond.methodLink "FilterProof$RowFinder" 36 ⟨"FilterProof$RowFinder", "chooseSteps", "(LFilterProof$StepList;IJ)V"⟩ ∈ xm_tbl := (xm_in (List.mem_of_getElem? (i := 519) (by decide +kernel)) rfl)
theorem ml8_45 : Cond.methodLink "FilterProof$RowFinder" 45 ⟨"java/lang/Math", "min", "(JJ)J"⟩ ∈ xm_tbl := (xm_in (List.mem_of_getElem? (i := 518) (by decide +kernel)) rfl)
theorem ml8_51 : Cond.methodLink "FilterProof$RowFinder" 51 ⟨"FilterProof$RowFinder", "firstFitting", "(LFilterProof$StepList;IJ[J)I"⟩ ∈ xm_tbl := (xm_in (List.mem_of_getElem? (i := 523) (by decide +kernel)) rfl)
theorem ml7_3 : Cond.methodLink "FilterProof$Step" 3 ⟨"java/lang/Object", "<init>", "()V"⟩ ∈ xm_tbl := (xm_in (List.mem_of_getElem? (i := 153) (by decide +kernel)) rfl)
theorem ml7_22 : Cond.methodLink "FilterProof$Step" 22 ⟨"FilterProof$Step", "becomePair", "(IIIJJ)Z"⟩ ∈ xm_tbl := (xm_in (List.mem_of_getElem? (i := 413) (by decide +kernel)) rfl)
theorem ml7_26 : Cond.methodLink "FilterProof$Step" 26 ⟨"FilterProof$Step", "become", "(IIJ)Z"⟩ ∈ xm_tbl := (xm_in (List.mem_of_getElem? (i := 417) (by decide +kernel)) rfl)
theorem ml7_37 : Cond.methodLink "FilterProof$Step" 37 ⟨"FilterProof$Instruction", "changesRegister", "()Z"⟩ ∈ xm_tbl := (xm_in (List.mem_of_getElem? (i := 464) (by decide +kernel)) rfl)
theorem ml6_3 : Cond.methodLink "FilterProof$StepList" 3 ⟨"java/lang/Object", "<init>", "()V"⟩ ∈ xm_tbl := (xm_in (List.mem_of_getElem? (i := 146) (by decide +kernel)) rfl)
theorem ml6_32 : ("FilterProof$StepList", 32, (⟨"FilterProof$Step", "<init>", "()V"⟩ : MethodName)) ∈ xm_nest := by decide
theorem ml6_49 : Cond.methodLink "FilterProof$StepList" 49 ⟨"java/util/Arrays", "fill", "([JJ)V"⟩ ∈ xm_tbl := (xm_in (List.mem_of_getElem? (i := 408) (by decide +kernel)) rfl)
theorem ml6_65 : Cond.methodLink "FilterProof$StepList" 65 ⟨"java/lang/Math", "min", "(JJ)J"⟩ ∈ xm_tbl := (xm_in (List.mem_of_getElem? (i := 426) (by decide +kernel)) rfl)
theorem ml6_71 : Cond.methodLink "FilterProof$StepList" 71 ⟨"FilterProof$StepList", "forget", "()V"⟩ ∈ xm_tbl := (xm_in (List.mem_of_getElem? (i := 403) (by decide +kernel)) rfl)
theorem ml6_74 : Cond.methodLink "FilterProof$StepList" 74 ⟨"FilterProof$Step", "becomeBeginning", "(II)Z"⟩ ∈ xm_tbl := (xm_in (List.mem_of_getElem? (i := 409) (by decide +kernel)) rfl)
theorem ml6_78 : Cond.methodLink "FilterProof$StepList" 78 ⟨"FilterProof$StepList", "append", "(I)V"⟩ ∈ xm_tbl := (xm_in (List.mem_of_getElem? (i := 422) (by decide +kernel)) rfl)
theorem ml6_82 : Cond.methodLink "FilterProof$StepList" 82 ⟨"FilterProof$StepList", "findBound", "(LFilterProof$Step;[JI)Z"⟩ ∈ xm_tbl := (xm_in (List.mem_of_getElem? (i := 456) (by decide +kernel)) rfl)
theorem ml6_86 : Cond.methodLink "FilterProof$StepList" 86 ⟨"FilterProof$Step", "carryOver", "(LFilterProof$Instruction;)Z"⟩ ∈ xm_tbl := (xm_in (List.mem_of_getElem? (i := 460) (by decide +kernel)) rfl)
theorem ml6_95 : Cond.methodLink "FilterProof$StepList" 95 ⟨"FilterProof$StepList", "takeSums", "(LFilterProof$Instruction;[J)V"⟩ ∈ xm_tbl := (xm_in (List.mem_of_getElem? (i := 468) (by decide +kernel)) rfl)
theorem ml6_99 : Cond.methodLink "FilterProof$StepList" 99 ⟨"FilterProof$Instruction", "jumpsBy", "(I)Z"⟩ ∈ xm_tbl := (xm_in (List.mem_of_getElem? (i := 476) (by decide +kernel)) rfl)
theorem ml6_103 : Cond.methodLink "FilterProof$StepList" 103 ⟨"FilterProof$Step", "becomeFurther", "(LFilterProof$Instruction;ZI)Z"⟩ ∈ xm_tbl := (xm_in (List.mem_of_getElem? (i := 480) (by decide +kernel)) rfl)
theorem ml6_113 : Cond.methodLink "FilterProof$StepList" 113 ⟨"FilterProof$Step", "becomeSum", "(LFilterProof$Instruction;LFilterProof$Step;LFilterProof$Step;)Z"⟩ ∈ xm_tbl := (xm_in (List.mem_of_getElem? (i := 472) (by decide +kernel)) rfl)
theorem ml6_117 : Cond.methodLink "FilterProof$StepList" 117 ⟨"FilterProof$Step", "become", "(IIJ)Z"⟩ ∈ xm_tbl := (xm_in (List.mem_of_getElem? (i := 459) (by decide +kernel)) rfl)
theorem ml6_121 : Cond.methodLink "FilterProof$StepList" 121 ⟨"FilterProof$StepList", "closeFrom", "(II)V"⟩ ∈ xm_tbl := (xm_in (List.mem_of_getElem? (i := 433) (by decide +kernel)) rfl)
theorem ml3_3 : Cond.methodLink "FilterProof$Tape" 3 ⟨"java/lang/Object", "<init>", "()V"⟩ ∈ xm_tbl := (xm_in (List.mem_of_getElem? (i := 106) (by decide +kernel)) rfl)
theorem mlL_9 : Cond.methodLink "FilterProofLaw" 9 ⟨"FilterProofLaw", "cell", "([II)I"⟩ ∈ xm_tbl := (xm_in (List.mem_of_getElem? (i := 753) (by decide +kernel)) rfl)
theorem mlL_15 : Cond.methodLink "FilterProofLaw" 15 ⟨"FilterProof", "<init>", "(I)V"⟩ ∈ xm_tbl := (xm_in (List.mem_of_getElem? (i := 17) (by decide +kernel)) rfl)
theorem mlL_20 : Cond.methodLink "FilterProofLaw" 20 ⟨"FilterProofModel", "<init>", "(I)V"⟩ ∈ xm_tbl := (xm_in (List.mem_of_getElem? (i := 758) (by decide +kernel)) rfl)
theorem mlL_21 : Cond.methodLink "FilterProofLaw" 21 ⟨"FilterProof", "instruction", "(IIIII)I"⟩ ∈ xm_tbl := (xm_in (List.mem_of_getElem? (i := 352) (by decide +kernel)) rfl)
theorem mlL_25 : Cond.methodLink "FilterProofLaw" 25 ⟨"FilterProofModel", "instruction", "(IIIII)I"⟩ ∈ xm_tbl := (xm_in (List.mem_of_getElem? (i := 874) (by decide +kernel)) rfl)
theorem mlL_26 : Cond.methodLink "FilterProofLaw" 26 ⟨"FilterProof", "clear", "()I"⟩ ∈ xm_tbl := (xm_in (List.mem_of_getElem? (i := 360) (by decide +kernel)) rfl)
theorem mlL_30 : Cond.methodLink "FilterProofLaw" 30 ⟨"FilterProofModel", "clear", "()I"⟩ ∈ xm_tbl := (xm_in (List.mem_of_getElem? (i := 878) (by decide +kernel)) rfl)
theorem mlL_31 : Cond.methodLink "FilterProofLaw" 31 ⟨"FilterProof", "prove", "()I"⟩ ∈ xm_tbl := (xm_in (List.mem_of_getElem? (i := 364) (by decide +kernel)) rfl)
theorem mlL_34 : Cond.methodLink "FilterProofLaw" 34 ⟨"FilterProofModel", "prove", "()I"⟩ ∈ xm_tbl := (xm_in (List.mem_of_getElem? (i := 882) (by decide +kernel)) rfl)
theorem mlL_35 : Cond.methodLink "FilterProofLaw" 35 ⟨"FilterProof", "say", "(I)I"⟩ ∈ xm_tbl := (xm_in (List.mem_of_getElem? (i := 588) (by decide +kernel)) rfl)
theorem mlL_39 : Cond.methodLink "FilterProofLaw" 39 ⟨"FilterProofModel", "say", "(I)I"⟩ ∈ xm_tbl := (xm_in (List.mem_of_getElem? (i := 1020) (by decide +kernel)) rfl)
theorem mlL_40 : Cond.methodLink "FilterProofLaw" 40 ⟨"FilterProof", "cut", "(I)Z"⟩ ∈ xm_tbl := (xm_in (List.mem_of_getElem? (i := 593) (by decide +kernel)) rfl)
theorem mlL_44 : Cond.methodLink "FilterProofLaw" 44 ⟨"FilterProofModel", "cut", "(I)Z"⟩ ∈ xm_tbl := (xm_in (List.mem_of_getElem? (i := 1024) (by decide +kernel)) rfl)
theorem mlL_45 : Cond.methodLink "FilterProofLaw" 45 ⟨"FilterProof", "change", "(II)Z"⟩ ∈ xm_tbl := (xm_in (List.mem_of_getElem? (i := 597) (by decide +kernel)) rfl)
theorem mlL_49 : Cond.methodLink "FilterProofLaw" 49 ⟨"FilterProofModel", "change", "(II)Z"⟩ ∈ xm_tbl := (xm_in (List.mem_of_getElem? (i := 1028) (by decide +kernel)) rfl)
theorem mlL_50 : Cond.methodLink "FilterProofLaw" 50 ⟨"FilterProof", "length", "()I"⟩ ∈ xm_tbl := (xm_in (List.mem_of_getElem? (i := 605) (by decide +kernel)) rfl)
theorem mlL_53 : Cond.methodLink "FilterProofLaw" 53 ⟨"FilterProofModel", "length", "()I"⟩ ∈ xm_tbl := (xm_in (List.mem_of_getElem? (i := 1032) (by decide +kernel)) rfl)
theorem mlL_54 : Cond.methodLink "FilterProofLaw" 54 ⟨"FilterProof", "at", "(I)I"⟩ ∈ xm_tbl := (xm_in (List.mem_of_getElem? (i := 609) (by decide +kernel)) rfl)
theorem mlL_57 : Cond.methodLink "FilterProofLaw" 57 ⟨"FilterProofModel", "at", "(I)I"⟩ ∈ xm_tbl := (xm_in (List.mem_of_getElem? (i := 1036) (by decide +kernel)) rfl)
theorem mlL_58 : Cond.methodLink "FilterProofLaw" 58 ⟨"FilterProof", "check", "()I"⟩ ∈ xm_tbl := (xm_in (List.mem_of_getElem? (i := 617) (by decide +kernel)) rfl)
theorem mlL_61 : Cond.methodLink "FilterProofLaw" 61 ⟨"FilterProofModel", "check", "()I"⟩ ∈ xm_tbl := (xm_in (List.mem_of_getElem? (i := 1040) (by decide +kernel)) rfl)
theorem mlL_62 : Cond.methodLink "FilterProofLaw" 62 ⟨"FilterProof", "place", "()I"⟩ ∈ xm_tbl := (xm_in (List.mem_of_getElem? (i := 683) (by decide +kernel)) rfl)
theorem mlL_65 : Cond.methodLink "FilterProofLaw" 65 ⟨"FilterProofModel", "place", "()I"⟩ ∈ xm_tbl := (xm_in (List.mem_of_getElem? (i := 1080) (by decide +kernel)) rfl)
theorem mlL_68 : Cond.methodLink "FilterProofLaw" 68 ⟨"FilterProof", "receive", "(JI)I"⟩ ∈ xm_tbl := (xm_in (List.mem_of_getElem? (i := 687) (by decide +kernel)) rfl)
theorem mlL_72 : Cond.methodLink "FilterProofLaw" 72 ⟨"FilterProofModel", "receive", "(JI)I"⟩ ∈ xm_tbl := (xm_in (List.mem_of_getElem? (i := 1084) (by decide +kernel)) rfl)
theorem mlL_73 : Cond.methodLink "FilterProofLaw" 73 ⟨"FilterProof", "drop", "()I"⟩ ∈ xm_tbl := (xm_in (List.mem_of_getElem? (i := 695) (by decide +kernel)) rfl)
theorem mlL_76 : Cond.methodLink "FilterProofLaw" 76 ⟨"FilterProofModel", "drop", "()I"⟩ ∈ xm_tbl := (xm_in (List.mem_of_getElem? (i := 1088) (by decide +kernel)) rfl)
theorem mlL_77 : Cond.methodLink "FilterProofLaw" 77 ⟨"FilterProof", "run", "()I"⟩ ∈ xm_tbl := (xm_in (List.mem_of_getElem? (i := 699) (by decide +kernel)) rfl)
theorem mlL_80 : Cond.methodLink "FilterProofLaw" 80 ⟨"FilterProofModel", "run", "()I"⟩ ∈ xm_tbl := (xm_in (List.mem_of_getElem? (i := 1092) (by decide +kernel)) rfl)
theorem mlL_81 : Cond.methodLink "FilterProofLaw" 81 ⟨"FilterProof", "result", "()I"⟩ ∈ xm_tbl := (xm_in (List.mem_of_getElem? (i := 745) (by decide +kernel)) rfl)
theorem mlL_84 : Cond.methodLink "FilterProofLaw" 84 ⟨"FilterProofModel", "result", "()I"⟩ ∈ xm_tbl := (xm_in (List.mem_of_getElem? (i := 1100) (by decide +kernel)) rfl)
theorem mlL_85 : Cond.methodLink "FilterProofLaw" 85 ⟨"FilterProof", "steps", "()I"⟩ ∈ xm_tbl := (xm_in (List.mem_of_getElem? (i := 749) (by decide +kernel)) rfl)
theorem mlL_88 : Cond.methodLink "FilterProofLaw" 88 ⟨"FilterProofModel", "steps", "()I"⟩ ∈ xm_tbl := (xm_in (List.mem_of_getElem? (i := 1104) (by decide +kernel)) rfl)
theorem ml11_1 : Cond.methodLink "FilterProofModel" 1 ⟨"java/lang/Object", "<init>", "()V"⟩ ∈ xm_tbl := (xm_in (List.mem_of_getElem? (i := 761) (by decide +kernel)) rfl)
theorem ml11_96 : Cond.methodLink "FilterProofModel" 96 ⟨"FilterProofModel", "isInt", "(J)Z"⟩ ∈ xm_tbl := (xm_in (List.mem_of_getElem? (i := 906) (by decide +kernel)) rfl)
theorem ml11_103 : Cond.methodLink "FilterProofModel" 103 ⟨"FilterProofModel", "changes", "(I)Z"⟩ ∈ xm_tbl := (xm_in (List.mem_of_getElem? (i := 937) (by decide +kernel)) rfl)
theorem ml11_107 : Cond.methodLink "FilterProofModel" 107 ⟨"FilterProofModel", "step", "(IIIJ)V"⟩ ∈ xm_tbl := (xm_in (List.mem_of_getElem? (i := 902) (by decide +kernel)) rfl)
theorem ml11_111 : Cond.methodLink "FilterProofModel" 111 ⟨"FilterProofModel", "both", "(IIIJJ)V"⟩ ∈ xm_tbl := (xm_in (List.mem_of_getElem? (i := 898) (by decide +kernel)) rfl)
theorem ml11_125 : Cond.methodLink "FilterProofModel" 125 ⟨"FilterProofModel", "relaxOne", "(II)Z"⟩ ∈ xm_tbl := (xm_in (List.mem_of_getElem? (i := 917) (by decide +kernel)) rfl)
theorem ml11_133 : Cond.methodLink "FilterProofModel" 133 ⟨"FilterProofModel", "keep", "(IIIIJ)V"⟩ ∈ xm_tbl := (xm_in (List.mem_of_getElem? (i := 933) (by decide +kernel)) rfl)
theorem ml11_137 : Cond.methodLink "FilterProofModel" 137 ⟨"FilterProofModel", "further", "(III)V"⟩ ∈ xm_tbl := (xm_in (List.mem_of_getElem? (i := 941) (by decide +kernel)) rfl)
theorem ml11_141 : Cond.methodLink "FilterProofModel" 141 ⟨"FilterProofModel", "sumOf", "(III)V"⟩ ∈ xm_tbl := (xm_in (List.mem_of_getElem? (i := 948) (by decide +kernel)) rfl)
theorem ml11_144 : Cond.methodLink "FilterProofModel" 144 ⟨"FilterProofModel", "isSum", "(IIIII)Z"⟩ ∈ xm_tbl := (xm_in (List.mem_of_getElem? (i := 952) (by decide +kernel)) rfl)
theorem ml11_148 : Cond.methodLink "FilterProofModel" 148 ⟨"FilterProofModel", "beginning", "()V"⟩ ∈ xm_tbl := (xm_in (List.mem_of_getElem? (i := 894) (by decide +kernel)) rfl)
theorem ml11_151 : Cond.methodLink "FilterProofModel" 151 ⟨"FilterProofModel", "relax", "()Z"⟩ ∈ xm_tbl := (xm_in (List.mem_of_getElem? (i := 912) (by decide +kernel)) rfl)
theorem ml11_155 : Cond.methodLink "FilterProofModel" 155 ⟨"FilterProofModel", "come", "(I)V"⟩ ∈ xm_tbl := (xm_in (List.mem_of_getElem? (i := 921) (by decide +kernel)) rfl)
theorem ml11_159 : Cond.methodLink "FilterProofModel" 159 ⟨"FilterProofModel", "end", "(II)I"⟩ ∈ xm_tbl := (xm_in (List.mem_of_getElem? (i := 925) (by decide +kernel)) rfl)
theorem ml11_163 : Cond.methodLink "FilterProofModel" 163 ⟨"FilterProofModel", "stepsOf", "(II)V"⟩ ∈ xm_tbl := (xm_in (List.mem_of_getElem? (i := 929) (by decide +kernel)) rfl)
theorem ml11_167 : Cond.methodLink "FilterProofModel" 167 ⟨"FilterProofModel", "findRests", "(I)V"⟩ ∈ xm_tbl := (xm_in (List.mem_of_getElem? (i := 972) (by decide +kernel)) rfl)
theorem ml11_173 : Cond.methodLink "FilterProofModel" 173 ⟨"FilterProofModel", "findReason", "(IIJ)Z"⟩ ∈ xm_tbl := (xm_in (List.mem_of_getElem? (i := 968) (by decide +kernel)) rfl)
theorem ml11_179 : Cond.methodLink "FilterProofModel" 179 ⟨"FilterProofModel", "sizeOf", "(I)I"⟩ ∈ xm_tbl := (xm_in (List.mem_of_getElem? (i := 985) (by decide +kernel)) rfl)
theorem ml11_183 : Cond.methodLink "FilterProofModel" 183 ⟨"FilterProofModel", "upper", "(I)I"⟩ ∈ xm_tbl := (xm_in (List.mem_of_getElem? (i := 976) (by decide +kernel)) rfl)
theorem ml11_186 : Cond.methodLink "FilterProofModel" 186 ⟨"FilterProofModel", "greatest", "(I)J"⟩ ∈ xm_tbl := (xm_in (List.mem_of_getElem? (i := 980) (by decide +kernel)) rfl)
theorem ml11_190 : Cond.methodLink "FilterProofModel" 190 ⟨"FilterProofModel", "isAccess", "(I)Z"⟩ ∈ xm_tbl := (xm_in (List.mem_of_getElem? (i := 960) (by decide +kernel)) rfl)
theorem ml11_193 : Cond.methodLink "FilterProofModel" 193 ⟨"FilterProofModel", "findBound", "(II)Z"⟩ ∈ xm_tbl := (xm_in (List.mem_of_getElem? (i := 964) (by decide +kernel)) rfl)
theorem ml11_196 : Cond.methodLink "FilterProofModel" 196 ⟨"FilterProofModel", "needChosen", "(I)V"⟩ ∈ xm_tbl := (xm_in (List.mem_of_getElem? (i := 988) (by decide +kernel)) rfl)
theorem ml11_199 : Cond.methodLink "FilterProofModel" 199 ⟨"FilterProofModel", "findRound", "()I"⟩ ∈ xm_tbl := (xm_in (List.mem_of_getElem? (i := 992) (by decide +kernel)) rfl)
theorem ml11_203 : Cond.methodLink "FilterProofModel" 203 ⟨"FilterProofModel", "factsAt", "(I)I"⟩ ∈ xm_tbl := (xm_in (List.mem_of_getElem? (i := 996) (by decide +kernel)) rfl)
theorem ml11_208 : Cond.methodLink "FilterProofModel" 208 ⟨"FilterProofModel", "tell", "(I)V"⟩ ∈ xm_tbl := (xm_in (List.mem_of_getElem? (i := 1004) (by decide +kernel)) rfl)
theorem ml11_211 : Cond.methodLink "FilterProofModel" 211 ⟨"FilterProofModel", "factNumber", "(II)I"⟩ ∈ xm_tbl := (xm_in (List.mem_of_getElem? (i := 1012) (by decide +kernel)) rfl)
theorem ml11_214 : Cond.methodLink "FilterProofModel" 214 ⟨"FilterProofModel", "tellReason", "(I)V"⟩ ∈ xm_tbl := (xm_in (List.mem_of_getElem? (i := 1008) (by decide +kernel)) rfl)
theorem ml11_220 : Cond.methodLink "FilterProofModel" 220 ⟨"FilterProofModel", "wrong", "()I"⟩ ∈ xm_tbl := (xm_in (List.mem_of_getElem? (i := 886) (by decide +kernel)) rfl)
theorem ml11_223 : Cond.methodLink "FilterProofModel" 223 ⟨"FilterProofModel", "findBounds", "()V"⟩ ∈ xm_tbl := (xm_in (List.mem_of_getElem? (i := 890) (by decide +kernel)) rfl)
theorem ml11_226 : Cond.methodLink "FilterProofModel" 226 ⟨"FilterProofModel", "need", "(I)Z"⟩ ∈ xm_tbl := (xm_in (List.mem_of_getElem? (i := 956) (by decide +kernel)) rfl)
theorem ml11_229 : Cond.methodLink "FilterProofModel" 229 ⟨"FilterProofModel", "tellFacts", "()V"⟩ ∈ xm_tbl := (xm_in (List.mem_of_getElem? (i := 1000) (by decide +kernel)) rfl)
theorem ml11_232 : Cond.methodLink "FilterProofModel" 232 ⟨"FilterProofModel", "tellInstruction", "(I)V"⟩ ∈ xm_tbl := (xm_in (List.mem_of_getElem? (i := 1016) (by decide +kernel)) rfl)
theorem ml11_241 : Cond.methodLink "FilterProofModel" 241 ⟨"FilterProofModel", "fail", "(II)V"⟩ ∈ xm_tbl := (xm_in (List.mem_of_getElem? (i := 1056) (by decide +kernel)) rfl)
theorem ml11_244 : Cond.methodLink "FilterProofModel" 244 ⟨"FilterProofModel", "read", "()I"⟩ ∈ xm_tbl := (xm_in (List.mem_of_getElem? (i := 1052) (by decide +kernel)) rfl)
theorem ml11_247 : Cond.methodLink "FilterProofModel" 247 ⟨"FilterProofModel", "readIn", "(II)I"⟩ ∈ xm_tbl := (xm_in (List.mem_of_getElem? (i := 1048) (by decide +kernel)) rfl)
theorem ml11_250 : Cond.methodLink "FilterProofModel" 250 ⟨"FilterProofModel", "tapeSteps", "(II)V"⟩ ∈ xm_tbl := (xm_in (List.mem_of_getElem? (i := 1076) (by decide +kernel)) rfl)
theorem ml11_253 : Cond.methodLink "FilterProofModel" 253 ⟨"FilterProofModel", "readReason", "(IIJ)V"⟩ ∈ xm_tbl := (xm_in (List.mem_of_getElem? (i := 1060) (by decide +kernel)) rfl)
theorem ml11_257 : Cond.methodLink "FilterProofModel" 257 ⟨"FilterProofModel", "plainSteps", "(I)V"⟩ ∈ xm_tbl := (xm_in (List.mem_of_getElem? (i := 1068) (by decide +kernel)) rfl)
theorem ml11_260 : Cond.methodLink "FilterProofModel" 260 ⟨"FilterProofModel", "readEdge", "(II)V"⟩ ∈ xm_tbl := (xm_in (List.mem_of_getElem? (i := 1072) (by decide +kernel)) rfl)
theorem ml11_263 : Cond.methodLink "FilterProofModel" 263 ⟨"FilterProofModel", "readFacts", "(I)V"⟩ ∈ xm_tbl := (xm_in (List.mem_of_getElem? (i := 1044) (by decide +kernel)) rfl)
theorem ml11_266 : Cond.methodLink "FilterProofModel" 266 ⟨"FilterProofModel", "readInstruction", "(I)V"⟩ ∈ xm_tbl := (xm_in (List.mem_of_getElem? (i := 1064) (by decide +kernel)) rfl)
theorem ml11_278 : Cond.methodLink "FilterProofModel" 278 ⟨"FilterProofModel", "one", "(I)I"⟩ ∈ xm_tbl := (xm_in (List.mem_of_getElem? (i := 1096) (by decide +kernel)) rfl)
theorem fl0_23 : xm_fl "FilterProof" 23 0 0 := ⟨_, rfl, by decide, rfl, (xm_in (List.mem_of_getElem? (i := 330) (by decide +kernel)) rfl)⟩
theorem ff0_23 : xm_ff "FilterProof" 23 0 0 := ⟨_, rfl, by decide, rfl, (xm_in (List.mem_of_getElem? (i := 330) (by decide +kernel)) rfl), rfl, rfl⟩
theorem fl0_30 : xm_fl "FilterProof" 30 0 1 := ⟨_, rfl, by decide, rfl, (xm_in (List.mem_of_getElem? (i := 331) (by decide +kernel)) rfl)⟩
theorem ff0_30 : xm_ff "FilterProof" 30 0 1 := ⟨_, rfl, by decide, rfl, (xm_in (List.mem_of_getElem? (i := 331) (by decide +kernel)) rfl), rfl, rfl⟩
theorem fl0_37 : xm_fl "FilterProof" 37 0 2 := ⟨_, rfl, by decide, rfl, (xm_in (List.mem_of_getElem? (i := 332) (by decide +kernel)) rfl)⟩
theorem ff0_37 : xm_ff "FilterProof" 37 0 2 := ⟨_, rfl, by decide, rfl, (xm_in (List.mem_of_getElem? (i := 332) (by decide +kernel)) rfl), rfl, rfl⟩
theorem fl0_44 : xm_fl "FilterProof" 44 0 3 := ⟨_, rfl, by decide, rfl, (xm_in (List.mem_of_getElem? (i := 333) (by decide +kernel)) rfl)⟩
theorem ff0_44 : xm_ff "FilterProof" 44 0 3 := ⟨_, rfl, by decide, rfl, (xm_in (List.mem_of_getElem? (i := 333) (by decide +kernel)) rfl), rfl, rfl⟩
theorem fl0_51 : xm_fl "FilterProof" 51 0 4 := ⟨_, rfl, by decide, rfl, (xm_in (List.mem_of_getElem? (i := 334) (by decide +kernel)) rfl)⟩
theorem ff0_51 : xm_ff "FilterProof" 51 0 4 := ⟨_, rfl, by decide, rfl, (xm_in (List.mem_of_getElem? (i := 334) (by decide +kernel)) rfl), rfl, rfl⟩
theorem fl0_58 : xm_fl "FilterProof" 58 0 5 := ⟨_, rfl, by decide, rfl, (xm_in (List.mem_of_getElem? (i := 335) (by decide +kernel)) rfl)⟩
theorem ff0_58 : xm_ff "FilterProof" 58 0 5 := ⟨_, rfl, by decide, rfl, (xm_in (List.mem_of_getElem? (i := 335) (by decide +kernel)) rfl), rfl, rfl⟩
theorem fl0_62 : xm_fl "FilterProof" 62 0 6 := ⟨_, rfl, by decide, rfl, (xm_in (List.mem_of_getElem? (i := 336) (by decide +kernel)) rfl)⟩
theorem fw0_62 : xm_fw "FilterProof" 62 0 6 := ⟨_, rfl, by decide, rfl, (xm_in (List.mem_of_getElem? (i := 336) (by decide +kernel)) rfl), rfl⟩
theorem fl0_70 : xm_fl "FilterProof" 70 1 2 := ⟨_, rfl, by decide, rfl, (xm_in (List.mem_of_getElem? (i := 91) (by decide +kernel)) rfl)⟩
theorem fw0_70 : xm_fw "FilterProof" 70 1 2 := ⟨_, rfl, by decide, rfl, (xm_in (List.mem_of_getElem? (i := 91) (by decide +kernel)) rfl), rfl⟩
theorem fl0_85 : xm_fl "FilterProof" 85 3 1 := ⟨_, rfl, by decide, rfl, (xm_in (List.mem_of_getElem? (i := 110) (by decide +kernel)) rfl)⟩
theorem fw0_85 : xm_fw "FilterProof" 85 3 1 := ⟨_, rfl, by decide, rfl, (xm_in (List.mem_of_getElem? (i := 110) (by decide +kernel)) rfl), rfl⟩
theorem fl0_101 : xm_fl "FilterProof" 101 9 10 := ⟨_, rfl, by decide, rfl, (xm_in (List.mem_of_getElem? (i := 285) (by decide +kernel)) rfl)⟩
theorem fw0_101 : xm_fw "FilterProof" 101 9 10 := ⟨_, rfl, by decide, rfl, (xm_in (List.mem_of_getElem? (i := 285) (by decide +kernel)) rfl), rfl⟩
theorem fl0_107 : xm_fl "FilterProof" 107 4 1 := ⟨_, rfl, by decide, rfl, (xm_in (List.mem_of_getElem? (i := 126) (by decide +kernel)) rfl)⟩
theorem fw0_107 : xm_fw "FilterProof" 107 4 1 := ⟨_, rfl, by decide, rfl, (xm_in (List.mem_of_getElem? (i := 126) (by decide +kernel)) rfl), rfl⟩
theorem fl0_108 : xm_fl "FilterProof" 108 1 0 := ⟨_, rfl, by decide, rfl, (xm_in (List.mem_of_getElem? (i := 84) (by decide +kernel)) rfl)⟩
theorem fl0_115 : xm_fl "FilterProof" 115 10 2 := ⟨_, rfl, by decide, rfl, (xm_in (List.mem_of_getElem? (i := 318) (by decide +kernel)) rfl)⟩
theorem fw0_115 : xm_fw "FilterProof" 115 10 2 := ⟨_, rfl, by decide, rfl, (xm_in (List.mem_of_getElem? (i := 318) (by decide +kernel)) rfl), rfl⟩
theorem fl0_118 : xm_fl "FilterProof" 118 10 3 := ⟨_, rfl, by decide, rfl, (xm_in (List.mem_of_getElem? (i := 320) (by decide +kernel)) rfl)⟩
theorem fw0_118 : xm_fw "FilterProof" 118 10 3 := ⟨_, rfl, by decide, rfl, (xm_in (List.mem_of_getElem? (i := 320) (by decide +kernel)) rfl), rfl⟩
theorem fl9_9 : xm_fl "FilterProof$Consumer" 9 9 0 := ⟨_, rfl, by decide, rfl, (xm_in (List.mem_of_getElem? (i := 274) (by decide +kernel)) rfl)⟩
theorem ff9_9 : xm_ff "FilterProof$Consumer" 9 9 0 := ⟨_, rfl, by decide, rfl, (xm_in (List.mem_of_getElem? (i := 274) (by decide +kernel)) rfl), rfl, rfl⟩
theorem fl9_15 : xm_fl "FilterProof$Consumer" 15 9 1 := ⟨_, rfl, by decide, rfl, (xm_in (List.mem_of_getElem? (i := 275) (by decide +kernel)) rfl)⟩
theorem ff9_15 : xm_ff "FilterProof$Consumer" 15 9 1 := ⟨_, rfl, by decide, rfl, (xm_in (List.mem_of_getElem? (i := 275) (by decide +kernel)) rfl), rfl, rfl⟩
theorem fl9_21 : xm_fl "FilterProof$Consumer" 21 9 2 := ⟨_, rfl, by decide, rfl, (xm_in (List.mem_of_getElem? (i := 276) (by decide +kernel)) rfl)⟩
theorem ff9_21 : xm_ff "FilterProof$Consumer" 21 9 2 := ⟨_, rfl, by decide, rfl, (xm_in (List.mem_of_getElem? (i := 276) (by decide +kernel)) rfl), rfl, rfl⟩
theorem fl9_25 : xm_fl "FilterProof$Consumer" 25 9 3 := ⟨_, rfl, by decide, rfl, (xm_in (List.mem_of_getElem? (i := 277) (by decide +kernel)) rfl)⟩
theorem ff9_25 : xm_ff "FilterProof$Consumer" 25 9 3 := ⟨_, rfl, by decide, rfl, (xm_in (List.mem_of_getElem? (i := 277) (by decide +kernel)) rfl), rfl, rfl⟩
theorem fl9_28 : xm_fl "FilterProof$Consumer" 28 9 4 := ⟨_, rfl, by decide, rfl, (xm_in (List.mem_of_getElem? (i := 278) (by decide +kernel)) rfl)⟩
theorem ff9_28 : xm_ff "FilterProof$Consumer" 28 9 4 := ⟨_, rfl, by decide, rfl, (xm_in (List.mem_of_getElem? (i := 278) (by decide +kernel)) rfl), rfl, rfl⟩
theorem fl9_31 : xm_fl "FilterProof$Consumer" 31 9 5 := ⟨_, rfl, by decide, rfl, (xm_in (List.mem_of_getElem? (i := 279) (by decide +kernel)) rfl)⟩
theorem fw9_31 : xm_fw "FilterProof$Consumer" 31 9 5 := ⟨_, rfl, by decide, rfl, (xm_in (List.mem_of_getElem? (i := 279) (by decide +kernel)) rfl), rfl⟩
theorem fl9_35 : xm_fl "FilterProof$Consumer" 35 9 6 := ⟨_, rfl, by decide, rfl, (xm_in (List.mem_of_getElem? (i := 280) (by decide +kernel)) rfl)⟩
theorem fw9_35 : xm_fw "FilterProof$Consumer" 35 9 6 := ⟨_, rfl, by decide, rfl, (xm_in (List.mem_of_getElem? (i := 280) (by decide +kernel)) rfl), rfl⟩
theorem fl9_39 : xm_fl "FilterProof$Consumer" 39 9 7 := ⟨_, rfl, by decide, rfl, (xm_in (List.mem_of_getElem? (i := 281) (by decide +kernel)) rfl)⟩
theorem fw9_39 : xm_fw "FilterProof$Consumer" 39 9 7 := ⟨_, rfl, by decide, rfl, (xm_in (List.mem_of_getElem? (i := 281) (by decide +kernel)) rfl), rfl⟩
theorem fl9_43 : xm_fl "FilterProof$Consumer" 43 9 9 := ⟨_, rfl, by decide, rfl, (xm_in (List.mem_of_getElem? (i := 283) (by decide +kernel)) rfl)⟩
theorem fw9_43 : xm_fw "FilterProof$Consumer" 43 9 9 := ⟨_, rfl, by decide, rfl, (xm_in (List.mem_of_getElem? (i := 283) (by decide +kernel)) rfl), rfl⟩
theorem fl9_46 : xm_fl "FilterProof$Consumer" 46 9 10 := ⟨_, rfl, by decide, rfl, (xm_in (List.mem_of_getElem? (i := 284) (by decide +kernel)) rfl)⟩
theorem fw9_46 : xm_fw "FilterProof$Consumer" 46 9 10 := ⟨_, rfl, by decide, rfl, (xm_in (List.mem_of_getElem? (i := 284) (by decide +kernel)) rfl), rfl⟩
theorem fl9_67 : xm_fl "FilterProof$Consumer" 67 1 2 := ⟨_, rfl, by decide, rfl, (xm_in (List.mem_of_getElem? (i := 93) (by decide +kernel)) rfl)⟩
theorem fw9_67 : xm_fw "FilterProof$Consumer" 67 1 2 := ⟨_, rfl, by decide, rfl, (xm_in (List.mem_of_getElem? (i := 93) (by decide +kernel)) rfl), rfl⟩
theorem fl9_77 : xm_fl "FilterProof$Consumer" 77 3 1 := ⟨_, rfl, by decide, rfl, (xm_in (List.mem_of_getElem? (i := 109) (by decide +kernel)) rfl)⟩
theorem fw9_77 : xm_fw "FilterProof$Consumer" 77 3 1 := ⟨_, rfl, by decide, rfl, (xm_in (List.mem_of_getElem? (i := 109) (by decide +kernel)) rfl), rfl⟩
theorem fl9_86 : xm_fl "FilterProof$Consumer" 86 9 8 := ⟨_, rfl, by decide, rfl, (xm_in (List.mem_of_getElem? (i := 282) (by decide +kernel)) rfl)⟩
theorem fw9_86 : xm_fw "FilterProof$Consumer" 86 9 8 := ⟨_, rfl, by decide, rfl, (xm_in (List.mem_of_getElem? (i := 282) (by decide +kernel)) rfl), rfl⟩
theorem fl9_98 : xm_fl "FilterProof$Consumer" 98 1 1 := ⟨_, rfl, by decide, rfl, (xm_in (List.mem_of_getElem? (i := 88) (by decide +kernel)) rfl)⟩
theorem fl9_107 : xm_fl "FilterProof$Consumer" 107 2 2 := ⟨_, rfl, by decide, rfl, (xm_in (List.mem_of_getElem? (i := 60) (by decide +kernel)) rfl)⟩
theorem fw9_107 : xm_fw "FilterProof$Consumer" 107 2 2 := ⟨_, rfl, by decide, rfl, (xm_in (List.mem_of_getElem? (i := 60) (by decide +kernel)) rfl), rfl⟩
theorem fl9_110 : xm_fl "FilterProof$Consumer" 110 2 3 := ⟨_, rfl, by decide, rfl, (xm_in (List.mem_of_getElem? (i := 66) (by decide +kernel)) rfl)⟩
theorem fw9_110 : xm_fw "FilterProof$Consumer" 110 2 3 := ⟨_, rfl, by decide, rfl, (xm_in (List.mem_of_getElem? (i := 66) (by decide +kernel)) rfl), rfl⟩
theorem fl9_136 : xm_fl "FilterProof$Consumer" 136 7 0 := ⟨_, rfl, by decide, rfl, (xm_in (List.mem_of_getElem? (i := 156) (by decide +kernel)) rfl)⟩
theorem fw9_136 : xm_fw "FilterProof$Consumer" 136 7 0 := ⟨_, rfl, by decide, rfl, (xm_in (List.mem_of_getElem? (i := 156) (by decide +kernel)) rfl), rfl⟩
theorem fl9_139 : xm_fl "FilterProof$Consumer" 139 7 1 := ⟨_, rfl, by decide, rfl, (xm_in (List.mem_of_getElem? (i := 159) (by decide +kernel)) rfl)⟩
theorem fw9_139 : xm_fw "FilterProof$Consumer" 139 7 1 := ⟨_, rfl, by decide, rfl, (xm_in (List.mem_of_getElem? (i := 159) (by decide +kernel)) rfl), rfl⟩
theorem fl9_142 : xm_fl "FilterProof$Consumer" 142 7 2 := ⟨_, rfl, by decide, rfl, (xm_in (List.mem_of_getElem? (i := 162) (by decide +kernel)) rfl)⟩
theorem fw9_142 : xm_fw "FilterProof$Consumer" 142 7 2 := ⟨_, rfl, by decide, rfl, (xm_in (List.mem_of_getElem? (i := 162) (by decide +kernel)) rfl), rfl⟩
theorem fl9_146 : xm_fl "FilterProof$Consumer" 146 1 0 := ⟨_, rfl, by decide, rfl, (xm_in (List.mem_of_getElem? (i := 83) (by decide +kernel)) rfl)⟩
theorem fl9_160 : xm_fl "FilterProof$Consumer" 160 2 0 := ⟨_, rfl, by decide, rfl, (xm_in (List.mem_of_getElem? (i := 48) (by decide +kernel)) rfl)⟩
theorem fw9_160 : xm_fw "FilterProof$Consumer" 160 2 0 := ⟨_, rfl, by decide, rfl, (xm_in (List.mem_of_getElem? (i := 48) (by decide +kernel)) rfl), rfl⟩
theorem fl1_11 : xm_fl "FilterProof$Filter" 11 1 1 := ⟨_, rfl, by decide, rfl, (xm_in (List.mem_of_getElem? (i := 85) (by decide +kernel)) rfl)⟩
theorem ff1_11 : xm_ff "FilterProof$Filter" 11 1 1 := ⟨_, rfl, by decide, rfl, (xm_in (List.mem_of_getElem? (i := 85) (by decide +kernel)) rfl), rfl, rfl⟩
theorem fl1_17 : xm_fl "FilterProof$Filter" 17 1 0 := ⟨_, rfl, by decide, rfl, (xm_in (List.mem_of_getElem? (i := 81) (by decide +kernel)) rfl)⟩
theorem ff1_17 : xm_ff "FilterProof$Filter" 17 1 0 := ⟨_, rfl, by decide, rfl, (xm_in (List.mem_of_getElem? (i := 81) (by decide +kernel)) rfl), rfl, rfl⟩
theorem fl1_22 : xm_fl "FilterProof$Filter" 22 1 2 := ⟨_, rfl, by decide, rfl, (xm_in (List.mem_of_getElem? (i := 89) (by decide +kernel)) rfl)⟩
theorem fw1_22 : xm_fw "FilterProof$Filter" 22 1 2 := ⟨_, rfl, by decide, rfl, (xm_in (List.mem_of_getElem? (i := 89) (by decide +kernel)) rfl), rfl⟩
theorem fl1_25 : xm_fl "FilterProof$Filter" 25 2 0 := ⟨_, rfl, by decide, rfl, (xm_in (List.mem_of_getElem? (i := 42) (by decide +kernel)) rfl)⟩
theorem fw1_25 : xm_fw "FilterProof$Filter" 25 2 0 := ⟨_, rfl, by decide, rfl, (xm_in (List.mem_of_getElem? (i := 42) (by decide +kernel)) rfl), rfl⟩
theorem fl1_28 : xm_fl "FilterProof$Filter" 28 2 1 := ⟨_, rfl, by decide, rfl, (xm_in (List.mem_of_getElem? (i := 50) (by decide +kernel)) rfl)⟩
theorem fw1_28 : xm_fw "FilterProof$Filter" 28 2 1 := ⟨_, rfl, by decide, rfl, (xm_in (List.mem_of_getElem? (i := 50) (by decide +kernel)) rfl), rfl⟩
theorem fl1_31 : xm_fl "FilterProof$Filter" 31 2 2 := ⟨_, rfl, by decide, rfl, (xm_in (List.mem_of_getElem? (i := 55) (by decide +kernel)) rfl)⟩
theorem fw1_31 : xm_fw "FilterProof$Filter" 31 2 2 := ⟨_, rfl, by decide, rfl, (xm_in (List.mem_of_getElem? (i := 55) (by decide +kernel)) rfl), rfl⟩
theorem fl1_34 : xm_fl "FilterProof$Filter" 34 2 3 := ⟨_, rfl, by decide, rfl, (xm_in (List.mem_of_getElem? (i := 61) (by decide +kernel)) rfl)⟩
theorem fw1_34 : xm_fw "FilterProof$Filter" 34 2 3 := ⟨_, rfl, by decide, rfl, (xm_in (List.mem_of_getElem? (i := 61) (by decide +kernel)) rfl), rfl⟩
theorem fl1_37 : xm_fl "FilterProof$Filter" 37 2 4 := ⟨_, rfl, by decide, rfl, (xm_in (List.mem_of_getElem? (i := 67) (by decide +kernel)) rfl)⟩
theorem fw1_37 : xm_fw "FilterProof$Filter" 37 2 4 := ⟨_, rfl, by decide, rfl, (xm_in (List.mem_of_getElem? (i := 67) (by decide +kernel)) rfl), rfl⟩
theorem fl2_9 : xm_fl "FilterProof$Instruction" 9 2 1 := ⟨_, rfl, by decide, rfl, (xm_in (List.mem_of_getElem? (i := 49) (by decide +kernel)) rfl)⟩
theorem fw2_9 : xm_fw "FilterProof$Instruction" 9 2 1 := ⟨_, rfl, by decide, rfl, (xm_in (List.mem_of_getElem? (i := 49) (by decide +kernel)) rfl), rfl⟩
theorem fl2_19 : xm_fl "FilterProof$Instruction" 19 2 2 := ⟨_, rfl, by decide, rfl, (xm_in (List.mem_of_getElem? (i := 54) (by decide +kernel)) rfl)⟩
theorem fw2_19 : xm_fw "FilterProof$Instruction" 19 2 2 := ⟨_, rfl, by decide, rfl, (xm_in (List.mem_of_getElem? (i := 54) (by decide +kernel)) rfl), rfl⟩
theorem fl2_30 : xm_fl "FilterProof$Instruction" 30 2 0 := ⟨_, rfl, by decide, rfl, (xm_in (List.mem_of_getElem? (i := 44) (by decide +kernel)) rfl)⟩
theorem fw2_30 : xm_fw "FilterProof$Instruction" 30 2 0 := ⟨_, rfl, by decide, rfl, (xm_in (List.mem_of_getElem? (i := 44) (by decide +kernel)) rfl), rfl⟩
theorem fl2_33 : xm_fl "FilterProof$Instruction" 33 2 3 := ⟨_, rfl, by decide, rfl, (xm_in (List.mem_of_getElem? (i := 63) (by decide +kernel)) rfl)⟩
theorem fw2_33 : xm_fw "FilterProof$Instruction" 33 2 3 := ⟨_, rfl, by decide, rfl, (xm_in (List.mem_of_getElem? (i := 63) (by decide +kernel)) rfl), rfl⟩
theorem fl2_36 : xm_fl "FilterProof$Instruction" 36 2 4 := ⟨_, rfl, by decide, rfl, (xm_in (List.mem_of_getElem? (i := 69) (by decide +kernel)) rfl)⟩
theorem fw2_36 : xm_fw "FilterProof$Instruction" 36 2 4 := ⟨_, rfl, by decide, rfl, (xm_in (List.mem_of_getElem? (i := 69) (by decide +kernel)) rfl), rfl⟩
theorem fl10_9 : xm_fl "FilterProof$Machine" 9 10 0 := ⟨_, rfl, by decide, rfl, (xm_in (List.mem_of_getElem? (i := 315) (by decide +kernel)) rfl)⟩
theorem ff10_9 : xm_ff "FilterProof$Machine" 9 10 0 := ⟨_, rfl, by decide, rfl, (xm_in (List.mem_of_getElem? (i := 315) (by decide +kernel)) rfl), rfl, rfl⟩
theorem fl10_15 : xm_fl "FilterProof$Machine" 15 10 1 := ⟨_, rfl, by decide, rfl, (xm_in (List.mem_of_getElem? (i := 316) (by decide +kernel)) rfl)⟩
theorem ff10_15 : xm_ff "FilterProof$Machine" 15 10 1 := ⟨_, rfl, by decide, rfl, (xm_in (List.mem_of_getElem? (i := 316) (by decide +kernel)) rfl), rfl, rfl⟩
theorem fl10_28 : xm_fl "FilterProof$Machine" 28 4 1 := ⟨_, rfl, by decide, rfl, (xm_in (List.mem_of_getElem? (i := 125) (by decide +kernel)) rfl)⟩
theorem fw10_28 : xm_fw "FilterProof$Machine" 28 4 1 := ⟨_, rfl, by decide, rfl, (xm_in (List.mem_of_getElem? (i := 125) (by decide +kernel)) rfl), rfl⟩
theorem fl10_34 : xm_fl "FilterProof$Machine" 34 10 2 := ⟨_, rfl, by decide, rfl, (xm_in (List.mem_of_getElem? (i := 317) (by decide +kernel)) rfl)⟩
theorem fw10_34 : xm_fw "FilterProof$Machine" 34 10 2 := ⟨_, rfl, by decide, rfl, (xm_in (List.mem_of_getElem? (i := 317) (by decide +kernel)) rfl), rfl⟩
theorem fl10_37 : xm_fl "FilterProof$Machine" 37 10 3 := ⟨_, rfl, by decide, rfl, (xm_in (List.mem_of_getElem? (i := 319) (by decide +kernel)) rfl)⟩
theorem fw10_37 : xm_fw "FilterProof$Machine" 37 10 3 := ⟨_, rfl, by decide, rfl, (xm_in (List.mem_of_getElem? (i := 319) (by decide +kernel)) rfl), rfl⟩
theorem fl10_40 : xm_fl "FilterProof$Machine" 40 1 2 := ⟨_, rfl, by decide, rfl, (xm_in (List.mem_of_getElem? (i := 92) (by decide +kernel)) rfl)⟩
theorem fw10_40 : xm_fw "FilterProof$Machine" 40 1 2 := ⟨_, rfl, by decide, rfl, (xm_in (List.mem_of_getElem? (i := 92) (by decide +kernel)) rfl), rfl⟩
theorem fl10_45 : xm_fl "FilterProof$Machine" 45 1 1 := ⟨_, rfl, by decide, rfl, (xm_in (List.mem_of_getElem? (i := 86) (by decide +kernel)) rfl)⟩
theorem fl10_49 : xm_fl "FilterProof$Machine" 49 2 0 := ⟨_, rfl, by decide, rfl, (xm_in (List.mem_of_getElem? (i := 43) (by decide +kernel)) rfl)⟩
theorem fw10_49 : xm_fw "FilterProof$Machine" 49 2 0 := ⟨_, rfl, by decide, rfl, (xm_in (List.mem_of_getElem? (i := 43) (by decide +kernel)) rfl), rfl⟩
theorem fl10_54 : xm_fl "FilterProof$Machine" 54 2 1 := ⟨_, rfl, by decide, rfl, (xm_in (List.mem_of_getElem? (i := 51) (by decide +kernel)) rfl)⟩
theorem fw10_54 : xm_fw "FilterProof$Machine" 54 2 1 := ⟨_, rfl, by decide, rfl, (xm_in (List.mem_of_getElem? (i := 51) (by decide +kernel)) rfl), rfl⟩
theorem fl10_65 : xm_fl "FilterProof$Machine" 65 2 4 := ⟨_, rfl, by decide, rfl, (xm_in (List.mem_of_getElem? (i := 68) (by decide +kernel)) rfl)⟩
theorem fw10_65 : xm_fw "FilterProof$Machine" 65 2 4 := ⟨_, rfl, by decide, rfl, (xm_in (List.mem_of_getElem? (i := 68) (by decide +kernel)) rfl), rfl⟩
theorem fl10_68 : xm_fl "FilterProof$Machine" 68 2 3 := ⟨_, rfl, by decide, rfl, (xm_in (List.mem_of_getElem? (i := 62) (by decide +kernel)) rfl)⟩
theorem fw10_68 : xm_fw "FilterProof$Machine" 68 2 3 := ⟨_, rfl, by decide, rfl, (xm_in (List.mem_of_getElem? (i := 62) (by decide +kernel)) rfl), rfl⟩
theorem fl10_71 : xm_fl "FilterProof$Machine" 71 2 2 := ⟨_, rfl, by decide, rfl, (xm_in (List.mem_of_getElem? (i := 56) (by decide +kernel)) rfl)⟩
theorem fw10_71 : xm_fw "FilterProof$Machine" 71 2 2 := ⟨_, rfl, by decide, rfl, (xm_in (List.mem_of_getElem? (i := 56) (by decide +kernel)) rfl), rfl⟩
theorem fl4_9 : xm_fl "FilterProof$Packet" 9 4 0 := ⟨_, rfl, by decide, rfl, (xm_in (List.mem_of_getElem? (i := 123) (by decide +kernel)) rfl)⟩
theorem ff4_9 : xm_ff "FilterProof$Packet" 9 4 0 := ⟨_, rfl, by decide, rfl, (xm_in (List.mem_of_getElem? (i := 123) (by decide +kernel)) rfl), rfl, rfl⟩
theorem fl4_15 : xm_fl "FilterProof$Packet" 15 4 1 := ⟨_, rfl, by decide, rfl, (xm_in (List.mem_of_getElem? (i := 124) (by decide +kernel)) rfl)⟩
theorem fw4_15 : xm_fw "FilterProof$Packet" 15 4 1 := ⟨_, rfl, by decide, rfl, (xm_in (List.mem_of_getElem? (i := 124) (by decide +kernel)) rfl), rfl⟩
theorem fl5_11 : xm_fl "FilterProof$Producer" 11 5 0 := ⟨_, rfl, by decide, rfl, (xm_in (List.mem_of_getElem? (i := 229) (by decide +kernel)) rfl)⟩
theorem ff5_11 : xm_ff "FilterProof$Producer" 11 5 0 := ⟨_, rfl, by decide, rfl, (xm_in (List.mem_of_getElem? (i := 229) (by decide +kernel)) rfl), rfl, rfl⟩
theorem fl5_16 : xm_fl "FilterProof$Producer" 16 5 1 := ⟨_, rfl, by decide, rfl, (xm_in (List.mem_of_getElem? (i := 230) (by decide +kernel)) rfl)⟩
theorem ff5_16 : xm_ff "FilterProof$Producer" 16 5 1 := ⟨_, rfl, by decide, rfl, (xm_in (List.mem_of_getElem? (i := 230) (by decide +kernel)) rfl), rfl, rfl⟩
theorem fl5_20 : xm_fl "FilterProof$Producer" 20 5 2 := ⟨_, rfl, by decide, rfl, (xm_in (List.mem_of_getElem? (i := 231) (by decide +kernel)) rfl)⟩
theorem ff5_20 : xm_ff "FilterProof$Producer" 20 5 2 := ⟨_, rfl, by decide, rfl, (xm_in (List.mem_of_getElem? (i := 231) (by decide +kernel)) rfl), rfl, rfl⟩
theorem fl5_23 : xm_fl "FilterProof$Producer" 23 5 3 := ⟨_, rfl, by decide, rfl, (xm_in (List.mem_of_getElem? (i := 232) (by decide +kernel)) rfl)⟩
theorem ff5_23 : xm_ff "FilterProof$Producer" 23 5 3 := ⟨_, rfl, by decide, rfl, (xm_in (List.mem_of_getElem? (i := 232) (by decide +kernel)) rfl), rfl, rfl⟩
theorem fl5_26 : xm_fl "FilterProof$Producer" 26 5 4 := ⟨_, rfl, by decide, rfl, (xm_in (List.mem_of_getElem? (i := 233) (by decide +kernel)) rfl)⟩
theorem ff5_26 : xm_ff "FilterProof$Producer" 26 5 4 := ⟨_, rfl, by decide, rfl, (xm_in (List.mem_of_getElem? (i := 233) (by decide +kernel)) rfl), rfl, rfl⟩
theorem fl5_30 : xm_fl "FilterProof$Producer" 30 5 5 := ⟨_, rfl, by decide, rfl, (xm_in (List.mem_of_getElem? (i := 234) (by decide +kernel)) rfl)⟩
theorem ff5_30 : xm_ff "FilterProof$Producer" 30 5 5 := ⟨_, rfl, by decide, rfl, (xm_in (List.mem_of_getElem? (i := 234) (by decide +kernel)) rfl), rfl, rfl⟩
theorem fl5_36 : xm_fl "FilterProof$Producer" 36 5 6 := ⟨_, rfl, by decide, rfl, (xm_in (List.mem_of_getElem? (i := 235) (by decide +kernel)) rfl)⟩
theorem ff5_36 : xm_ff "FilterProof$Producer" 36 5 6 := ⟨_, rfl, by decide, rfl, (xm_in (List.mem_of_getElem? (i := 235) (by decide +kernel)) rfl), rfl, rfl⟩
theorem fl5_43 : xm_fl "FilterProof$Producer" 43 5 7 := ⟨_, rfl, by decide, rfl, (xm_in (List.mem_of_getElem? (i := 236) (by decide +kernel)) rfl)⟩
theorem ff5_43 : xm_ff "FilterProof$Producer" 43 5 7 := ⟨_, rfl, by decide, rfl, (xm_in (List.mem_of_getElem? (i := 236) (by decide +kernel)) rfl), rfl, rfl⟩
theorem fl5_55 : xm_fl "FilterProof$Producer" 55 5 8 := ⟨_, rfl, by decide, rfl, (xm_in (List.mem_of_getElem? (i := 237) (by decide +kernel)) rfl)⟩
theorem fw5_55 : xm_fw "FilterProof$Producer" 55 5 8 := ⟨_, rfl, by decide, rfl, (xm_in (List.mem_of_getElem? (i := 237) (by decide +kernel)) rfl), rfl⟩
theorem fl5_59 : xm_fl "FilterProof$Producer" 59 5 9 := ⟨_, rfl, by decide, rfl, (xm_in (List.mem_of_getElem? (i := 238) (by decide +kernel)) rfl)⟩
theorem fw5_59 : xm_fw "FilterProof$Producer" 59 5 9 := ⟨_, rfl, by decide, rfl, (xm_in (List.mem_of_getElem? (i := 238) (by decide +kernel)) rfl), rfl⟩
theorem fl5_63 : xm_fl "FilterProof$Producer" 63 5 10 := ⟨_, rfl, by decide, rfl, (xm_in (List.mem_of_getElem? (i := 239) (by decide +kernel)) rfl)⟩
theorem fw5_63 : xm_fw "FilterProof$Producer" 63 5 10 := ⟨_, rfl, by decide, rfl, (xm_in (List.mem_of_getElem? (i := 239) (by decide +kernel)) rfl), rfl⟩
theorem fl5_67 : xm_fl "FilterProof$Producer" 67 5 11 := ⟨_, rfl, by decide, rfl, (xm_in (List.mem_of_getElem? (i := 240) (by decide +kernel)) rfl)⟩
theorem fw5_67 : xm_fw "FilterProof$Producer" 67 5 11 := ⟨_, rfl, by decide, rfl, (xm_in (List.mem_of_getElem? (i := 240) (by decide +kernel)) rfl), rfl⟩
theorem fl5_73 : xm_fl "FilterProof$Producer" 73 1 2 := ⟨_, rfl, by decide, rfl, (xm_in (List.mem_of_getElem? (i := 90) (by decide +kernel)) rfl)⟩
theorem fw5_73 : xm_fw "FilterProof$Producer" 73 1 2 := ⟨_, rfl, by decide, rfl, (xm_in (List.mem_of_getElem? (i := 90) (by decide +kernel)) rfl), rfl⟩
theorem fl5_93 : xm_fl "FilterProof$Producer" 93 1 0 := ⟨_, rfl, by decide, rfl, (xm_in (List.mem_of_getElem? (i := 82) (by decide +kernel)) rfl)⟩
theorem fl5_113 : xm_fl "FilterProof$Producer" 113 1 1 := ⟨_, rfl, by decide, rfl, (xm_in (List.mem_of_getElem? (i := 87) (by decide +kernel)) rfl)⟩
theorem fl5_148 : xm_fl "FilterProof$Producer" 148 2 2 := ⟨_, rfl, by decide, rfl, (xm_in (List.mem_of_getElem? (i := 59) (by decide +kernel)) rfl)⟩
theorem fw5_148 : xm_fw "FilterProof$Producer" 148 2 2 := ⟨_, rfl, by decide, rfl, (xm_in (List.mem_of_getElem? (i := 59) (by decide +kernel)) rfl), rfl⟩
theorem fl5_151 : xm_fl "FilterProof$Producer" 151 2 3 := ⟨_, rfl, by decide, rfl, (xm_in (List.mem_of_getElem? (i := 65) (by decide +kernel)) rfl)⟩
theorem fw5_151 : xm_fw "FilterProof$Producer" 151 2 3 := ⟨_, rfl, by decide, rfl, (xm_in (List.mem_of_getElem? (i := 65) (by decide +kernel)) rfl), rfl⟩
theorem fl5_176 : xm_fl "FilterProof$Producer" 176 8 2 := ⟨_, rfl, by decide, rfl, (xm_in (List.mem_of_getElem? (i := 217) (by decide +kernel)) rfl)⟩
theorem fw5_176 : xm_fw "FilterProof$Producer" 176 8 2 := ⟨_, rfl, by decide, rfl, (xm_in (List.mem_of_getElem? (i := 217) (by decide +kernel)) rfl), rfl⟩
theorem fl5_179 : xm_fl "FilterProof$Producer" 179 8 1 := ⟨_, rfl, by decide, rfl, (xm_in (List.mem_of_getElem? (i := 215) (by decide +kernel)) rfl)⟩
theorem fl5_192 : xm_fl "FilterProof$Producer" 192 2 0 := ⟨_, rfl, by decide, rfl, (xm_in (List.mem_of_getElem? (i := 47) (by decide +kernel)) rfl)⟩
theorem fw5_192 : xm_fw "FilterProof$Producer" 192 2 0 := ⟨_, rfl, by decide, rfl, (xm_in (List.mem_of_getElem? (i := 47) (by decide +kernel)) rfl), rfl⟩
theorem fl8_11 : xm_fl "FilterProof$RowFinder" 11 8 0 := ⟨_, rfl, by decide, rfl, (xm_in (List.mem_of_getElem? (i := 213) (by decide +kernel)) rfl)⟩
theorem ff8_11 : xm_ff "FilterProof$RowFinder" 11 8 0 := ⟨_, rfl, by decide, rfl, (xm_in (List.mem_of_getElem? (i := 213) (by decide +kernel)) rfl), rfl, rfl⟩
theorem fl8_16 : xm_fl "FilterProof$RowFinder" 16 8 1 := ⟨_, rfl, by decide, rfl, (xm_in (List.mem_of_getElem? (i := 214) (by decide +kernel)) rfl)⟩
theorem ff8_16 : xm_ff "FilterProof$RowFinder" 16 8 1 := ⟨_, rfl, by decide, rfl, (xm_in (List.mem_of_getElem? (i := 214) (by decide +kernel)) rfl), rfl, rfl⟩
theorem fl8_32 : xm_fl "FilterProof$RowFinder" 32 8 2 := ⟨_, rfl, by decide, rfl, (xm_in (List.mem_of_getElem? (i := 216) (by decide +kernel)) rfl)⟩
theorem fw8_32 : xm_fw "FilterProof$RowFinder" 32 8 2 := ⟨_, rfl, by decide, rfl, (xm_in (List.mem_of_getElem? (i := 216) (by decide +kernel)) rfl), rfl⟩
theorem fl8_40 : xm_fl "FilterProof$RowFinder" 40 6 5 := ⟨_, rfl, by decide, rfl, (xm_in (List.mem_of_getElem? (i := 183) (by decide +kernel)) rfl)⟩
theorem fl8_55 : xm_fl "FilterProof$RowFinder" 55 6 0 := ⟨_, rfl, by decide, rfl, (xm_in (List.mem_of_getElem? (i := 173) (by decide +kernel)) rfl)⟩
theorem fl8_58 : xm_fl "FilterProof$RowFinder" 58 6 2 := ⟨_, rfl, by decide, rfl, (xm_in (List.mem_of_getElem? (i := 177) (by decide +kernel)) rfl)⟩
theorem fl8_61 : xm_fl "FilterProof$RowFinder" 61 6 3 := ⟨_, rfl, by decide, rfl, (xm_in (List.mem_of_getElem? (i := 179) (by decide +kernel)) rfl)⟩
theorem fl8_65 : xm_fl "FilterProof$RowFinder" 65 6 4 := ⟨_, rfl, by decide, rfl, (xm_in (List.mem_of_getElem? (i := 181) (by decide +kernel)) rfl)⟩
theorem fw8_65 : xm_fw "FilterProof$RowFinder" 65 6 4 := ⟨_, rfl, by decide, rfl, (xm_in (List.mem_of_getElem? (i := 181) (by decide +kernel)) rfl), rfl⟩
theorem fl8_68 : xm_fl "FilterProof$RowFinder" 68 6 1 := ⟨_, rfl, by decide, rfl, (xm_in (List.mem_of_getElem? (i := 175) (by decide +kernel)) rfl)⟩
theorem fl7_9 : xm_fl "FilterProof$Step" 9 7 0 := ⟨_, rfl, by decide, rfl, (xm_in (List.mem_of_getElem? (i := 154) (by decide +kernel)) rfl)⟩
theorem fw7_9 : xm_fw "FilterProof$Step" 9 7 0 := ⟨_, rfl, by decide, rfl, (xm_in (List.mem_of_getElem? (i := 154) (by decide +kernel)) rfl), rfl⟩
theorem fl7_15 : xm_fl "FilterProof$Step" 15 7 1 := ⟨_, rfl, by decide, rfl, (xm_in (List.mem_of_getElem? (i := 157) (by decide +kernel)) rfl)⟩
theorem fw7_15 : xm_fw "FilterProof$Step" 15 7 1 := ⟨_, rfl, by decide, rfl, (xm_in (List.mem_of_getElem? (i := 157) (by decide +kernel)) rfl), rfl⟩
theorem fl7_18 : xm_fl "FilterProof$Step" 18 7 2 := ⟨_, rfl, by decide, rfl, (xm_in (List.mem_of_getElem? (i := 160) (by decide +kernel)) rfl)⟩
theorem fw7_18 : xm_fw "FilterProof$Step" 18 7 2 := ⟨_, rfl, by decide, rfl, (xm_in (List.mem_of_getElem? (i := 160) (by decide +kernel)) rfl), rfl⟩
theorem fl7_32 : xm_fl "FilterProof$Step" 32 2 1 := ⟨_, rfl, by decide, rfl, (xm_in (List.mem_of_getElem? (i := 52) (by decide +kernel)) rfl)⟩
theorem fw7_32 : xm_fw "FilterProof$Step" 32 2 1 := ⟨_, rfl, by decide, rfl, (xm_in (List.mem_of_getElem? (i := 52) (by decide +kernel)) rfl), rfl⟩
theorem fl7_41 : xm_fl "FilterProof$Step" 41 2 0 := ⟨_, rfl, by decide, rfl, (xm_in (List.mem_of_getElem? (i := 45) (by decide +kernel)) rfl)⟩
theorem fw7_41 : xm_fw "FilterProof$Step" 41 2 0 := ⟨_, rfl, by decide, rfl, (xm_in (List.mem_of_getElem? (i := 45) (by decide +kernel)) rfl), rfl⟩
theorem fl7_44 : xm_fl "FilterProof$Step" 44 2 3 := ⟨_, rfl, by decide, rfl, (xm_in (List.mem_of_getElem? (i := 64) (by decide +kernel)) rfl)⟩
theorem fw7_44 : xm_fw "FilterProof$Step" 44 2 3 := ⟨_, rfl, by decide, rfl, (xm_in (List.mem_of_getElem? (i := 64) (by decide +kernel)) rfl), rfl⟩
theorem fl7_47 : xm_fl "FilterProof$Step" 47 2 2 := ⟨_, rfl, by decide, rfl, (xm_in (List.mem_of_getElem? (i := 57) (by decide +kernel)) rfl)⟩
theorem fw7_47 : xm_fw "FilterProof$Step" 47 2 2 := ⟨_, rfl, by decide, rfl, (xm_in (List.mem_of_getElem? (i := 57) (by decide +kernel)) rfl), rfl⟩
theorem fl6_11 : xm_fl "FilterProof$StepList" 11 6 0 := ⟨_, rfl, by decide, rfl, (xm_in (List.mem_of_getElem? (i := 172) (by decide +kernel)) rfl)⟩
theorem ff6_11 : xm_ff "FilterProof$StepList" 11 6 0 := ⟨_, rfl, by decide, rfl, (xm_in (List.mem_of_getElem? (i := 172) (by decide +kernel)) rfl), rfl, rfl⟩
theorem fl6_15 : xm_fl "FilterProof$StepList" 15 6 1 := ⟨_, rfl, by decide, rfl, (xm_in (List.mem_of_getElem? (i := 174) (by decide +kernel)) rfl)⟩
theorem ff6_15 : xm_ff "FilterProof$StepList" 15 6 1 := ⟨_, rfl, by decide, rfl, (xm_in (List.mem_of_getElem? (i := 174) (by decide +kernel)) rfl), rfl, rfl⟩
theorem fl6_18 : xm_fl "FilterProof$StepList" 18 6 2 := ⟨_, rfl, by decide, rfl, (xm_in (List.mem_of_getElem? (i := 176) (by decide +kernel)) rfl)⟩
theorem ff6_18 : xm_ff "FilterProof$StepList" 18 6 2 := ⟨_, rfl, by decide, rfl, (xm_in (List.mem_of_getElem? (i := 176) (by decide +kernel)) rfl), rfl, rfl⟩
theorem fl6_21 : xm_fl "FilterProof$StepList" 21 6 3 := ⟨_, rfl, by decide, rfl, (xm_in (List.mem_of_getElem? (i := 178) (by decide +kernel)) rfl)⟩
theorem ff6_21 : xm_ff "FilterProof$StepList" 21 6 3 := ⟨_, rfl, by decide, rfl, (xm_in (List.mem_of_getElem? (i := 178) (by decide +kernel)) rfl), rfl, rfl⟩
theorem fl6_27 : xm_fl "FilterProof$StepList" 27 6 5 := ⟨_, rfl, by decide, rfl, (xm_in (List.mem_of_getElem? (i := 182) (by decide +kernel)) rfl)⟩
theorem ff6_27 : xm_ff "FilterProof$StepList" 27 6 5 := ⟨_, rfl, by decide, rfl, (xm_in (List.mem_of_getElem? (i := 182) (by decide +kernel)) rfl), rfl, rfl⟩
theorem fl6_33 : xm_fl "FilterProof$StepList" 33 6 6 := ⟨_, rfl, by decide, rfl, (xm_in (List.mem_of_getElem? (i := 184) (by decide +kernel)) rfl)⟩
theorem ff6_33 : xm_ff "FilterProof$StepList" 33 6 6 := ⟨_, rfl, by decide, rfl, (xm_in (List.mem_of_getElem? (i := 184) (by decide +kernel)) rfl), rfl, rfl⟩
theorem fl6_37 : xm_fl "FilterProof$StepList" 37 6 7 := ⟨_, rfl, by decide, rfl, (xm_in (List.mem_of_getElem? (i := 185) (by decide +kernel)) rfl)⟩
theorem ff6_37 : xm_ff "FilterProof$StepList" 37 6 7 := ⟨_, rfl, by decide, rfl, (xm_in (List.mem_of_getElem? (i := 185) (by decide +kernel)) rfl), rfl, rfl⟩
theorem fl6_40 : xm_fl "FilterProof$StepList" 40 6 8 := ⟨_, rfl, by decide, rfl, (xm_in (List.mem_of_getElem? (i := 186) (by decide +kernel)) rfl)⟩
theorem ff6_40 : xm_ff "FilterProof$StepList" 40 6 8 := ⟨_, rfl, by decide, rfl, (xm_in (List.mem_of_getElem? (i := 186) (by decide +kernel)) rfl), rfl, rfl⟩
theorem fl6_43 : xm_fl "FilterProof$StepList" 43 6 4 := ⟨_, rfl, by decide, rfl, (xm_in (List.mem_of_getElem? (i := 180) (by decide +kernel)) rfl)⟩
theorem fw6_43 : xm_fw "FilterProof$StepList" 43 6 4 := ⟨_, rfl, by decide, rfl, (xm_in (List.mem_of_getElem? (i := 180) (by decide +kernel)) rfl), rfl⟩
theorem fl6_55 : xm_fl "FilterProof$StepList" 55 7 2 := ⟨_, rfl, by decide, rfl, (xm_in (List.mem_of_getElem? (i := 161) (by decide +kernel)) rfl)⟩
theorem fw6_55 : xm_fw "FilterProof$StepList" 55 7 2 := ⟨_, rfl, by decide, rfl, (xm_in (List.mem_of_getElem? (i := 161) (by decide +kernel)) rfl), rfl⟩
theorem fl6_59 : xm_fl "FilterProof$StepList" 59 7 0 := ⟨_, rfl, by decide, rfl, (xm_in (List.mem_of_getElem? (i := 155) (by decide +kernel)) rfl)⟩
theorem fw6_59 : xm_fw "FilterProof$StepList" 59 7 0 := ⟨_, rfl, by decide, rfl, (xm_in (List.mem_of_getElem? (i := 155) (by decide +kernel)) rfl), rfl⟩
theorem fl6_62 : xm_fl "FilterProof$StepList" 62 7 1 := ⟨_, rfl, by decide, rfl, (xm_in (List.mem_of_getElem? (i := 158) (by decide +kernel)) rfl)⟩
theorem fw6_62 : xm_fw "FilterProof$StepList" 62 7 1 := ⟨_, rfl, by decide, rfl, (xm_in (List.mem_of_getElem? (i := 158) (by decide +kernel)) rfl), rfl⟩
theorem fl6_90 : xm_fl "FilterProof$StepList" 90 2 0 := ⟨_, rfl, by decide, rfl, (xm_in (List.mem_of_getElem? (i := 46) (by decide +kernel)) rfl)⟩
theorem fw6_90 : xm_fw "FilterProof$StepList" 90 2 0 := ⟨_, rfl, by decide, rfl, (xm_in (List.mem_of_getElem? (i := 46) (by decide +kernel)) rfl), rfl⟩
theorem fl6_107 : xm_fl "FilterProof$StepList" 107 2 2 := ⟨_, rfl, by decide, rfl, (xm_in (List.mem_of_getElem? (i := 58) (by decide +kernel)) rfl)⟩
theorem fw6_107 : xm_fw "FilterProof$StepList" 107 2 2 := ⟨_, rfl, by decide, rfl, (xm_in (List.mem_of_getElem? (i := 58) (by decide +kernel)) rfl), rfl⟩
theorem fl6_110 : xm_fl "FilterProof$StepList" 110 2 1 := ⟨_, rfl, by decide, rfl, (xm_in (List.mem_of_getElem? (i := 53) (by decide +kernel)) rfl)⟩
theorem fw6_110 : xm_fw "FilterProof$StepList" 110 2 1 := ⟨_, rfl, by decide, rfl, (xm_in (List.mem_of_getElem? (i := 53) (by decide +kernel)) rfl), rfl⟩
theorem fl3_9 : xm_fl "FilterProof$Tape" 9 3 0 := ⟨_, rfl, by decide, rfl, (xm_in (List.mem_of_getElem? (i := 107) (by decide +kernel)) rfl)⟩
theorem ff3_9 : xm_ff "FilterProof$Tape" 9 3 0 := ⟨_, rfl, by decide, rfl, (xm_in (List.mem_of_getElem? (i := 107) (by decide +kernel)) rfl), rfl, rfl⟩
theorem fl3_15 : xm_fl "FilterProof$Tape" 15 3 1 := ⟨_, rfl, by decide, rfl, (xm_in (List.mem_of_getElem? (i := 108) (by decide +kernel)) rfl)⟩
theorem fw3_15 : xm_fw "FilterProof$Tape" 15 3 1 := ⟨_, rfl, by decide, rfl, (xm_in (List.mem_of_getElem? (i := 108) (by decide +kernel)) rfl), rfl⟩
theorem fl11_7 : xm_fl "FilterProofModel" 7 11 2 := ⟨_, rfl, by decide, rfl, (xm_in (List.mem_of_getElem? (i := 764) (by decide +kernel)) rfl)⟩
theorem ff11_7 : xm_ff "FilterProofModel" 7 11 2 := ⟨_, rfl, by decide, rfl, (xm_in (List.mem_of_getElem? (i := 764) (by decide +kernel)) rfl), rfl, rfl⟩
theorem fl11_13 : xm_fl "FilterProofModel" 13 11 3 := ⟨_, rfl, by decide, rfl, (xm_in (List.mem_of_getElem? (i := 765) (by decide +kernel)) rfl)⟩
theorem ff11_13 : xm_ff "FilterProofModel" 13 11 3 := ⟨_, rfl, by decide, rfl, (xm_in (List.mem_of_getElem? (i := 765) (by decide +kernel)) rfl), rfl, rfl⟩
theorem fl11_16 : xm_fl "FilterProofModel" 16 11 4 := ⟨_, rfl, by decide, rfl, (xm_in (List.mem_of_getElem? (i := 766) (by decide +kernel)) rfl)⟩
theorem ff11_16 : xm_ff "FilterProofModel" 16 11 4 := ⟨_, rfl, by decide, rfl, (xm_in (List.mem_of_getElem? (i := 766) (by decide +kernel)) rfl), rfl, rfl⟩
theorem fl11_19 : xm_fl "FilterProofModel" 19 11 5 := ⟨_, rfl, by decide, rfl, (xm_in (List.mem_of_getElem? (i := 767) (by decide +kernel)) rfl)⟩
theorem ff11_19 : xm_ff "FilterProofModel" 19 11 5 := ⟨_, rfl, by decide, rfl, (xm_in (List.mem_of_getElem? (i := 767) (by decide +kernel)) rfl), rfl, rfl⟩
theorem fl11_22 : xm_fl "FilterProofModel" 22 11 6 := ⟨_, rfl, by decide, rfl, (xm_in (List.mem_of_getElem? (i := 768) (by decide +kernel)) rfl)⟩
theorem ff11_22 : xm_ff "FilterProofModel" 22 11 6 := ⟨_, rfl, by decide, rfl, (xm_in (List.mem_of_getElem? (i := 768) (by decide +kernel)) rfl), rfl, rfl⟩
theorem fl11_25 : xm_fl "FilterProofModel" 25 11 7 := ⟨_, rfl, by decide, rfl, (xm_in (List.mem_of_getElem? (i := 769) (by decide +kernel)) rfl)⟩
theorem ff11_25 : xm_ff "FilterProofModel" 25 11 7 := ⟨_, rfl, by decide, rfl, (xm_in (List.mem_of_getElem? (i := 769) (by decide +kernel)) rfl), rfl, rfl⟩
theorem fl11_28 : xm_fl "FilterProofModel" 28 11 9 := ⟨_, rfl, by decide, rfl, (xm_in (List.mem_of_getElem? (i := 771) (by decide +kernel)) rfl)⟩
theorem fw11_28 : xm_fw "FilterProofModel" 28 11 9 := ⟨_, rfl, by decide, rfl, (xm_in (List.mem_of_getElem? (i := 771) (by decide +kernel)) rfl), rfl⟩
theorem fl11_32 : xm_fl "FilterProofModel" 32 11 10 := ⟨_, rfl, by decide, rfl, (xm_in (List.mem_of_getElem? (i := 772) (by decide +kernel)) rfl)⟩
theorem ff11_32 : xm_ff "FilterProofModel" 32 11 10 := ⟨_, rfl, by decide, rfl, (xm_in (List.mem_of_getElem? (i := 772) (by decide +kernel)) rfl), rfl, rfl⟩
theorem fl11_36 : xm_fl "FilterProofModel" 36 11 15 := ⟨_, rfl, by decide, rfl, (xm_in (List.mem_of_getElem? (i := 777) (by decide +kernel)) rfl)⟩
theorem ff11_36 : xm_ff "FilterProofModel" 36 11 15 := ⟨_, rfl, by decide, rfl, (xm_in (List.mem_of_getElem? (i := 777) (by decide +kernel)) rfl), rfl, rfl⟩
theorem fl11_39 : xm_fl "FilterProofModel" 39 11 16 := ⟨_, rfl, by decide, rfl, (xm_in (List.mem_of_getElem? (i := 778) (by decide +kernel)) rfl)⟩
theorem ff11_39 : xm_ff "FilterProofModel" 39 11 16 := ⟨_, rfl, by decide, rfl, (xm_in (List.mem_of_getElem? (i := 778) (by decide +kernel)) rfl), rfl, rfl⟩
theorem fl11_42 : xm_fl "FilterProofModel" 42 11 17 := ⟨_, rfl, by decide, rfl, (xm_in (List.mem_of_getElem? (i := 779) (by decide +kernel)) rfl)⟩
theorem ff11_42 : xm_ff "FilterProofModel" 42 11 17 := ⟨_, rfl, by decide, rfl, (xm_in (List.mem_of_getElem? (i := 779) (by decide +kernel)) rfl), rfl, rfl⟩
theorem fl11_45 : xm_fl "FilterProofModel" 45 11 18 := ⟨_, rfl, by decide, rfl, (xm_in (List.mem_of_getElem? (i := 780) (by decide +kernel)) rfl)⟩
theorem ff11_45 : xm_ff "FilterProofModel" 45 11 18 := ⟨_, rfl, by decide, rfl, (xm_in (List.mem_of_getElem? (i := 780) (by decide +kernel)) rfl), rfl, rfl⟩
theorem fl11_49 : xm_fl "FilterProofModel" 49 11 20 := ⟨_, rfl, by decide, rfl, (xm_in (List.mem_of_getElem? (i := 782) (by decide +kernel)) rfl)⟩
theorem ff11_49 : xm_ff "FilterProofModel" 49 11 20 := ⟨_, rfl, by decide, rfl, (xm_in (List.mem_of_getElem? (i := 782) (by decide +kernel)) rfl), rfl, rfl⟩
theorem fl11_52 : xm_fl "FilterProofModel" 52 11 21 := ⟨_, rfl, by decide, rfl, (xm_in (List.mem_of_getElem? (i := 783) (by decide +kernel)) rfl)⟩
theorem ff11_52 : xm_ff "FilterProofModel" 52 11 21 := ⟨_, rfl, by decide, rfl, (xm_in (List.mem_of_getElem? (i := 783) (by decide +kernel)) rfl), rfl, rfl⟩
theorem fl11_56 : xm_fl "FilterProofModel" 56 11 22 := ⟨_, rfl, by decide, rfl, (xm_in (List.mem_of_getElem? (i := 784) (by decide +kernel)) rfl)⟩
theorem ff11_56 : xm_ff "FilterProofModel" 56 11 22 := ⟨_, rfl, by decide, rfl, (xm_in (List.mem_of_getElem? (i := 784) (by decide +kernel)) rfl), rfl, rfl⟩
theorem fl11_59 : xm_fl "FilterProofModel" 59 11 23 := ⟨_, rfl, by decide, rfl, (xm_in (List.mem_of_getElem? (i := 785) (by decide +kernel)) rfl)⟩
theorem ff11_59 : xm_ff "FilterProofModel" 59 11 23 := ⟨_, rfl, by decide, rfl, (xm_in (List.mem_of_getElem? (i := 785) (by decide +kernel)) rfl), rfl, rfl⟩
theorem fl11_62 : xm_fl "FilterProofModel" 62 11 24 := ⟨_, rfl, by decide, rfl, (xm_in (List.mem_of_getElem? (i := 786) (by decide +kernel)) rfl)⟩
theorem ff11_62 : xm_ff "FilterProofModel" 62 11 24 := ⟨_, rfl, by decide, rfl, (xm_in (List.mem_of_getElem? (i := 786) (by decide +kernel)) rfl), rfl, rfl⟩
theorem fl11_65 : xm_fl "FilterProofModel" 65 11 25 := ⟨_, rfl, by decide, rfl, (xm_in (List.mem_of_getElem? (i := 787) (by decide +kernel)) rfl)⟩
theorem ff11_65 : xm_ff "FilterProofModel" 65 11 25 := ⟨_, rfl, by decide, rfl, (xm_in (List.mem_of_getElem? (i := 787) (by decide +kernel)) rfl), rfl, rfl⟩
theorem fl11_68 : xm_fl "FilterProofModel" 68 11 27 := ⟨_, rfl, by decide, rfl, (xm_in (List.mem_of_getElem? (i := 789) (by decide +kernel)) rfl)⟩
theorem ff11_68 : xm_ff "FilterProofModel" 68 11 27 := ⟨_, rfl, by decide, rfl, (xm_in (List.mem_of_getElem? (i := 789) (by decide +kernel)) rfl), rfl, rfl⟩
theorem fl11_71 : xm_fl "FilterProofModel" 71 11 28 := ⟨_, rfl, by decide, rfl, (xm_in (List.mem_of_getElem? (i := 790) (by decide +kernel)) rfl)⟩
theorem ff11_71 : xm_ff "FilterProofModel" 71 11 28 := ⟨_, rfl, by decide, rfl, (xm_in (List.mem_of_getElem? (i := 790) (by decide +kernel)) rfl), rfl, rfl⟩
theorem fl11_74 : xm_fl "FilterProofModel" 74 11 32 := ⟨_, rfl, by decide, rfl, (xm_in (List.mem_of_getElem? (i := 794) (by decide +kernel)) rfl)⟩
theorem ff11_74 : xm_ff "FilterProofModel" 74 11 32 := ⟨_, rfl, by decide, rfl, (xm_in (List.mem_of_getElem? (i := 794) (by decide +kernel)) rfl), rfl, rfl⟩
theorem fl11_77 : xm_fl "FilterProofModel" 77 11 33 := ⟨_, rfl, by decide, rfl, (xm_in (List.mem_of_getElem? (i := 795) (by decide +kernel)) rfl)⟩
theorem ff11_77 : xm_ff "FilterProofModel" 77 11 33 := ⟨_, rfl, by decide, rfl, (xm_in (List.mem_of_getElem? (i := 795) (by decide +kernel)) rfl), rfl, rfl⟩
theorem fl11_80 : xm_fl "FilterProofModel" 80 11 34 := ⟨_, rfl, by decide, rfl, (xm_in (List.mem_of_getElem? (i := 796) (by decide +kernel)) rfl)⟩
theorem ff11_80 : xm_ff "FilterProofModel" 80 11 34 := ⟨_, rfl, by decide, rfl, (xm_in (List.mem_of_getElem? (i := 796) (by decide +kernel)) rfl), rfl, rfl⟩
theorem fl11_83 : xm_fl "FilterProofModel" 83 11 35 := ⟨_, rfl, by decide, rfl, (xm_in (List.mem_of_getElem? (i := 797) (by decide +kernel)) rfl)⟩
theorem ff11_83 : xm_ff "FilterProofModel" 83 11 35 := ⟨_, rfl, by decide, rfl, (xm_in (List.mem_of_getElem? (i := 797) (by decide +kernel)) rfl), rfl, rfl⟩
theorem fl11_86 : xm_fl "FilterProofModel" 86 11 0 := ⟨_, rfl, by decide, rfl, (xm_in (List.mem_of_getElem? (i := 762) (by decide +kernel)) rfl)⟩
theorem ff11_86 : xm_ff "FilterProofModel" 86 11 0 := ⟨_, rfl, by decide, rfl, (xm_in (List.mem_of_getElem? (i := 762) (by decide +kernel)) rfl), rfl, rfl⟩
theorem fl11_89 : xm_fl "FilterProofModel" 89 11 1 := ⟨_, rfl, by decide, rfl, (xm_in (List.mem_of_getElem? (i := 763) (by decide +kernel)) rfl)⟩
theorem fw11_89 : xm_fw "FilterProofModel" 89 11 1 := ⟨_, rfl, by decide, rfl, (xm_in (List.mem_of_getElem? (i := 763) (by decide +kernel)) rfl), rfl⟩
theorem fl11_92 : xm_fl "FilterProofModel" 92 11 19 := ⟨_, rfl, by decide, rfl, (xm_in (List.mem_of_getElem? (i := 781) (by decide +kernel)) rfl)⟩
theorem fw11_92 : xm_fw "FilterProofModel" 92 11 19 := ⟨_, rfl, by decide, rfl, (xm_in (List.mem_of_getElem? (i := 781) (by decide +kernel)) rfl), rfl⟩
theorem fl11_100 : xm_fl "FilterProofModel" 100 11 14 := ⟨_, rfl, by decide, rfl, (xm_in (List.mem_of_getElem? (i := 776) (by decide +kernel)) rfl)⟩
theorem fw11_100 : xm_fw "FilterProofModel" 100 11 14 := ⟨_, rfl, by decide, rfl, (xm_in (List.mem_of_getElem? (i := 776) (by decide +kernel)) rfl), rfl⟩
theorem fl11_170 : xm_fl "FilterProofModel" 170 11 26 := ⟨_, rfl, by decide, rfl, (xm_in (List.mem_of_getElem? (i := 788) (by decide +kernel)) rfl)⟩
theorem fw11_170 : xm_fw "FilterProofModel" 170 11 26 := ⟨_, rfl, by decide, rfl, (xm_in (List.mem_of_getElem? (i := 788) (by decide +kernel)) rfl), rfl⟩
theorem fl11_205 : xm_fl "FilterProofModel" 205 11 29 := ⟨_, rfl, by decide, rfl, (xm_in (List.mem_of_getElem? (i := 791) (by decide +kernel)) rfl)⟩
theorem fw11_205 : xm_fw "FilterProofModel" 205 11 29 := ⟨_, rfl, by decide, rfl, (xm_in (List.mem_of_getElem? (i := 791) (by decide +kernel)) rfl), rfl⟩
theorem fl11_217 : xm_fl "FilterProofModel" 217 11 8 := ⟨_, rfl, by decide, rfl, (xm_in (List.mem_of_getElem? (i := 770) (by decide +kernel)) rfl)⟩
theorem fw11_217 : xm_fw "FilterProofModel" 217 11 8 := ⟨_, rfl, by decide, rfl, (xm_in (List.mem_of_getElem? (i := 770) (by decide +kernel)) rfl), rfl⟩
theorem fl11_235 : xm_fl "FilterProofModel" 235 11 31 := ⟨_, rfl, by decide, rfl, (xm_in (List.mem_of_getElem? (i := 793) (by decide +kernel)) rfl)⟩
theorem fw11_235 : xm_fw "FilterProofModel" 235 11 31 := ⟨_, rfl, by decide, rfl, (xm_in (List.mem_of_getElem? (i := 793) (by decide +kernel)) rfl), rfl⟩
theorem fl11_238 : xm_fl "FilterProofModel" 238 11 30 := ⟨_, rfl, by decide, rfl, (xm_in (List.mem_of_getElem? (i := 792) (by decide +kernel)) rfl)⟩
theorem fw11_238 : xm_fw "FilterProofModel" 238 11 30 := ⟨_, rfl, by decide, rfl, (xm_in (List.mem_of_getElem? (i := 792) (by decide +kernel)) rfl), rfl⟩
theorem fl11_269 : xm_fl "FilterProofModel" 269 11 11 := ⟨_, rfl, by decide, rfl, (xm_in (List.mem_of_getElem? (i := 773) (by decide +kernel)) rfl)⟩
theorem fw11_269 : xm_fw "FilterProofModel" 269 11 11 := ⟨_, rfl, by decide, rfl, (xm_in (List.mem_of_getElem? (i := 773) (by decide +kernel)) rfl), rfl⟩
theorem fl11_272 : xm_fl "FilterProofModel" 272 11 12 := ⟨_, rfl, by decide, rfl, (xm_in (List.mem_of_getElem? (i := 774) (by decide +kernel)) rfl)⟩
theorem fw11_272 : xm_fw "FilterProofModel" 272 11 12 := ⟨_, rfl, by decide, rfl, (xm_in (List.mem_of_getElem? (i := 774) (by decide +kernel)) rfl), rfl⟩
theorem fl11_275 : xm_fl "FilterProofModel" 275 11 13 := ⟨_, rfl, by decide, rfl, (xm_in (List.mem_of_getElem? (i := 775) (by decide +kernel)) rfl)⟩
theorem fw11_275 : xm_fw "FilterProofModel" 275 11 13 := ⟨_, rfl, by decide, rfl, (xm_in (List.mem_of_getElem? (i := 775) (by decide +kernel)) rfl), rfl⟩
theorem fl11_281 : xm_fl "FilterProofModel" 281 11 36 := ⟨_, rfl, by decide, rfl, (xm_in (List.mem_of_getElem? (i := 798) (by decide +kernel)) rfl)⟩
theorem fw11_281 : xm_fw "FilterProofModel" 281 11 36 := ⟨_, rfl, by decide, rfl, (xm_in (List.mem_of_getElem? (i := 798) (by decide +kernel)) rfl), rfl⟩
theorem lc9_131 : Cond.constantLong "FilterProof$Consumer" 131 (-1) ∈ xm_tbl := (xm_in (List.mem_of_getElem? (i := 682) (by decide +kernel)) rfl)
theorem lc2_45 : Cond.constantLong "FilterProof$Instruction" 45 (31) ∈ xm_tbl := (xm_in (List.mem_of_getElem? (i := 562) (by decide +kernel)) rfl)
theorem lc10_104 : Cond.constantLong "FilterProof$Machine" 104 (32) ∈ xm_tbl := (xm_in (List.mem_of_getElem? (i := 731) (by decide +kernel)) rfl)
theorem lc5_47 : Cond.constantLong "FilterProof$Producer" 47 (4611686018427387904) ∈ xm_tbl := (xm_in (List.mem_of_getElem? (i := 225) (by decide +kernel)) rfl)
theorem lc5_174 : Cond.constantLong "FilterProof$Producer" 174 (-1) ∈ xm_tbl := (xm_in (List.mem_of_getElem? (i := 575) (by decide +kernel)) rfl)
theorem lc8_20 : Cond.constantLong "FilterProof$RowFinder" 20 (4611686018427387904) ∈ xm_tbl := (xm_in (List.mem_of_getElem? (i := 512) (by decide +kernel)) rfl)
theorem lc7_30 : Cond.constantLong "FilterProof$Step" 30 (1024) ∈ xm_tbl := (xm_in (List.mem_of_getElem? (i := 421) (by decide +kernel)) rfl)
theorem lc7_50 : Cond.constantLong "FilterProof$Step" 50 (255) ∈ xm_tbl := (xm_in (List.mem_of_getElem? (i := 484) (by decide +kernel)) rfl)
theorem lc7_52 : Cond.constantLong "FilterProof$Step" 52 (65535) ∈ xm_tbl := (xm_in (List.mem_of_getElem? (i := 485) (by decide +kernel)) rfl)
theorem lc7_54 : Cond.constantLong "FilterProof$Step" 54 (-1) ∈ xm_tbl := (xm_in (List.mem_of_getElem? (i := 486) (by decide +kernel)) rfl)
theorem lc6_47 : Cond.constantLong "FilterProof$StepList" 47 (4611686018427387904) ∈ xm_tbl := (xm_in (List.mem_of_getElem? (i := 407) (by decide +kernel)) rfl)
theorem lcL_66 : Cond.constantLong "FilterProofLaw" 66 (4294967295) ∈ xm_tbl := (xm_in (List.mem_of_getElem? (i := 1108) (by decide +kernel)) rfl)
theorem lc11_115 : Cond.constantLong "FilterProofModel" 115 (255) ∈ xm_tbl := (xm_in (List.mem_of_getElem? (i := 945) (by decide +kernel)) rfl)
theorem lc11_117 : Cond.constantLong "FilterProofModel" 117 (65535) ∈ xm_tbl := (xm_in (List.mem_of_getElem? (i := 946) (by decide +kernel)) rfl)
theorem lc11_119 : Cond.constantLong "FilterProofModel" 119 (-1) ∈ xm_tbl := (xm_in (List.mem_of_getElem? (i := 947) (by decide +kernel)) rfl)
theorem lc11_121 : Cond.constantLong "FilterProofModel" 121 (1024) ∈ xm_tbl := (xm_in (List.mem_of_getElem? (i := 911) (by decide +kernel)) rfl)
theorem lc11_123 : Cond.constantLong "FilterProofModel" 123 (1125899906842624) ∈ xm_tbl := (xm_in (List.mem_of_getElem? (i := 916) (by decide +kernel)) rfl)
theorem lc11_129 : Cond.constantLong "FilterProofModel" 129 (-2147483648) ∈ xm_tbl := (xm_in (List.mem_of_getElem? (i := 909) (by decide +kernel)) rfl)
theorem lc11_131 : Cond.constantLong "FilterProofModel" 131 (2147483647) ∈ xm_tbl := (xm_in (List.mem_of_getElem? (i := 910) (by decide +kernel)) rfl)
theorem lc11_177 : Cond.constantLong "FilterProofModel" 177 (31) ∈ xm_tbl := (xm_in (List.mem_of_getElem? (i := 984) (by decide +kernel)) rfl)
