-- ===== PART A: goes FIRST, ahead of the names: the tables' words, and 'selects' of the private methods out of them =====
/-- a private method of a class that the tables say can be made, by its rows of tables_1 -/
def lw_okq (q : MethodName × Nat) : Prop := (q.1.cls ≠ "java/lang/invoke/MethodHandle" ∧ q.1.cls ≠ "java/lang/invoke/VarHandle") ∧ Cond.instantiable q.1.cls q.2 ∈ tables_1 ∧ Cond.privateMethod q.1 ∈ tables_1 ∧ Cond.instanceMethod q.1 ∈ tables_1
theorem lw_p0 : lw_okq (⟨"StepNets$Group", "findInverses", "()V"⟩, 12) := ⟨⟨by decide +kernel, by decide +kernel⟩, List.mem_of_getElem? (i := 124) (by decide +kernel), List.mem_of_getElem? (i := 146) (by decide +kernel), List.mem_of_getElem? (i := 147) (by decide +kernel)⟩
theorem lw_p1 : lw_okq (⟨"StepNets$Group", "findPeriods", "()V"⟩, 12) := ⟨⟨by decide +kernel, by decide +kernel⟩, List.mem_of_getElem? (i := 124) (by decide +kernel), List.mem_of_getElem? (i := 150) (by decide +kernel), List.mem_of_getElem? (i := 151) (by decide +kernel)⟩
theorem lw_p2 : lw_okq (⟨"StepNets$Group", "findClasses", "()V"⟩, 12) := ⟨⟨by decide +kernel, by decide +kernel⟩, List.mem_of_getElem? (i := 124) (by decide +kernel), List.mem_of_getElem? (i := 158) (by decide +kernel), List.mem_of_getElem? (i := 159) (by decide +kernel)⟩
theorem lw_p3 : lw_okq (⟨"StepNets$Group", "findMarks", "()V"⟩, 12) := ⟨⟨by decide +kernel, by decide +kernel⟩, List.mem_of_getElem? (i := 124) (by decide +kernel), List.mem_of_getElem? (i := 162) (by decide +kernel), List.mem_of_getElem? (i := 163) (by decide +kernel)⟩
theorem lw_p4 : lw_okq (⟨"StepNets", "putOnTape", "(I)V"⟩, 16) := ⟨⟨by decide +kernel, by decide +kernel⟩, List.mem_of_getElem? (i := 22) (by decide +kernel), List.mem_of_getElem? (i := 487) (by decide +kernel), List.mem_of_getElem? (i := 488) (by decide +kernel)⟩
theorem lw_p5 : lw_okq (⟨"StepNets$Lexer", "goesOn", "(CC)Z"⟩, 5) := ⟨⟨by decide +kernel, by decide +kernel⟩, List.mem_of_getElem? (i := 72) (by decide +kernel), List.mem_of_getElem? (i := 513) (by decide +kernel), List.mem_of_getElem? (i := 514) (by decide +kernel)⟩
theorem lw_p6 : lw_okq (⟨"StepNets$TextReader", "readLine", "()Z"⟩, 7) := ⟨⟨by decide +kernel, by decide +kernel⟩, List.mem_of_getElem? (i := 30) (by decide +kernel), List.mem_of_getElem? (i := 517) (by decide +kernel), List.mem_of_getElem? (i := 518) (by decide +kernel)⟩
theorem lw_p7 : lw_okq (⟨"StepNets$TextReader", "readSteps", "()Z"⟩, 7) := ⟨⟨by decide +kernel, by decide +kernel⟩, List.mem_of_getElem? (i := 30) (by decide +kernel), List.mem_of_getElem? (i := 574) (by decide +kernel), List.mem_of_getElem? (i := 575) (by decide +kernel)⟩
theorem lw_p8 : lw_okq (⟨"StepNets$TextReader", "take", "(Z)Z"⟩, 7) := ⟨⟨by decide +kernel, by decide +kernel⟩, List.mem_of_getElem? (i := 30) (by decide +kernel), List.mem_of_getElem? (i := 583) (by decide +kernel), List.mem_of_getElem? (i := 584) (by decide +kernel)⟩
theorem lw_p9 : lw_okq (⟨"StepNets$TextReader", "fail", "(II)Z"⟩, 7) := ⟨⟨by decide +kernel, by decide +kernel⟩, List.mem_of_getElem? (i := 30) (by decide +kernel), List.mem_of_getElem? (i := 587) (by decide +kernel), List.mem_of_getElem? (i := 588) (by decide +kernel)⟩
theorem lw_p10 : lw_okq (⟨"StepNets$TextReader", "readFactors", "()Z"⟩, 7) := ⟨⟨by decide +kernel, by decide +kernel⟩, List.mem_of_getElem? (i := 30) (by decide +kernel), List.mem_of_getElem? (i := 602) (by decide +kernel), List.mem_of_getElem? (i := 603) (by decide +kernel)⟩
theorem lw_p11 : lw_okq (⟨"StepNets$TextReader", "readFactor", "()Z"⟩, 7) := ⟨⟨by decide +kernel, by decide +kernel⟩, List.mem_of_getElem? (i := 30) (by decide +kernel), List.mem_of_getElem? (i := 606) (by decide +kernel), List.mem_of_getElem? (i := 607) (by decide +kernel)⟩
theorem lw_p12 : lw_okq (⟨"StepNets$TextReader", "factorLetter", "()I"⟩, 7) := ⟨⟨by decide +kernel, by decide +kernel⟩, List.mem_of_getElem? (i := 30) (by decide +kernel), List.mem_of_getElem? (i := 610) (by decide +kernel), List.mem_of_getElem? (i := 611) (by decide +kernel)⟩
theorem lw_p13 : lw_okq (⟨"StepNets$TextReader", "readRows", "(I)Z"⟩, 7) := ⟨⟨by decide +kernel, by decide +kernel⟩, List.mem_of_getElem? (i := 30) (by decide +kernel), List.mem_of_getElem? (i := 634) (by decide +kernel), List.mem_of_getElem? (i := 635) (by decide +kernel)⟩
theorem lw_p14 : lw_okq (⟨"StepNets$GroupBuilder", "rowProduct", "(II)I"⟩, 9) := ⟨⟨by decide +kernel, by decide +kernel⟩, List.mem_of_getElem? (i := 36) (by decide +kernel), List.mem_of_getElem? (i := 664) (by decide +kernel), List.mem_of_getElem? (i := 665) (by decide +kernel)⟩
theorem lw_p15 : lw_okq (⟨"StepNets$GroupBuilder", "factorsProduct", "(II)I"⟩, 9) := ⟨⟨by decide +kernel, by decide +kernel⟩, List.mem_of_getElem? (i := 36) (by decide +kernel), List.mem_of_getElem? (i := 671) (by decide +kernel), List.mem_of_getElem? (i := 672) (by decide +kernel)⟩
def lw_privs_1 : List (MethodName × Nat) := [(⟨"StepNets$Group", "findInverses", "()V"⟩, 12), (⟨"StepNets$Group", "findPeriods", "()V"⟩, 12), (⟨"StepNets$Group", "findClasses", "()V"⟩, 12), (⟨"StepNets$Group", "findMarks", "()V"⟩, 12), (⟨"StepNets", "putOnTape", "(I)V"⟩, 16), (⟨"StepNets$Lexer", "goesOn", "(CC)Z"⟩, 5), (⟨"StepNets$TextReader", "readLine", "()Z"⟩, 7), (⟨"StepNets$TextReader", "readSteps", "()Z"⟩, 7), (⟨"StepNets$TextReader", "take", "(Z)Z"⟩, 7), (⟨"StepNets$TextReader", "fail", "(II)Z"⟩, 7), (⟨"StepNets$TextReader", "readFactors", "()Z"⟩, 7), (⟨"StepNets$TextReader", "readFactor", "()Z"⟩, 7), (⟨"StepNets$TextReader", "factorLetter", "()I"⟩, 7), (⟨"StepNets$TextReader", "readRows", "(I)Z"⟩, 7), (⟨"StepNets$GroupBuilder", "rowProduct", "(II)I"⟩, 9), (⟨"StepNets$GroupBuilder", "factorsProduct", "(II)I"⟩, 9)]
theorem lw_r1 : ∀ q ∈ lw_privs_1, lw_okq q := List.forall_mem_cons.mpr ⟨lw_p0, List.forall_mem_cons.mpr ⟨lw_p1, List.forall_mem_cons.mpr ⟨lw_p2, List.forall_mem_cons.mpr ⟨lw_p3, List.forall_mem_cons.mpr ⟨lw_p4, List.forall_mem_cons.mpr ⟨lw_p5, List.forall_mem_cons.mpr ⟨lw_p6, List.forall_mem_cons.mpr ⟨lw_p7, List.forall_mem_cons.mpr ⟨lw_p8, List.forall_mem_cons.mpr ⟨lw_p9, List.forall_mem_cons.mpr ⟨lw_p10, List.forall_mem_cons.mpr ⟨lw_p11, List.forall_mem_cons.mpr ⟨lw_p12, List.forall_mem_cons.mpr ⟨lw_p13, List.forall_mem_cons.mpr ⟨lw_p14, List.forall_mem_cons.mpr ⟨lw_p15, fun _ h => absurd h List.not_mem_nil⟩⟩⟩⟩⟩⟩⟩⟩⟩⟩⟩⟩⟩⟩⟩⟩
theorem lw_p16 : lw_okq (⟨"StepNets$GroupBuilder", "factorProduct", "(III)I"⟩, 9) := ⟨⟨by decide +kernel, by decide +kernel⟩, List.mem_of_getElem? (i := 36) (by decide +kernel), List.mem_of_getElem? (i := 675) (by decide +kernel), List.mem_of_getElem? (i := 676) (by decide +kernel)⟩
theorem lw_p17 : lw_okq (⟨"StepNets$GroupBuilder", "names", "()LStepNets$Names;"⟩, 9) := ⟨⟨by decide +kernel, by decide +kernel⟩, List.mem_of_getElem? (i := 36) (by decide +kernel), List.mem_of_getElem? (i := 686) (by decide +kernel), List.mem_of_getElem? (i := 687) (by decide +kernel)⟩
theorem lw_p18 : lw_okq (⟨"StepNets", "become", "(ILStepNets$Group;I)V"⟩, 16) := ⟨⟨by decide +kernel, by decide +kernel⟩, List.mem_of_getElem? (i := 22) (by decide +kernel), List.mem_of_getElem? (i := 700) (by decide +kernel), List.mem_of_getElem? (i := 701) (by decide +kernel)⟩
theorem lw_p19 : lw_okq (⟨"StepNets", "isElement", "(II)Z"⟩, 16) := ⟨⟨by decide +kernel, by decide +kernel⟩, List.mem_of_getElem? (i := 22) (by decide +kernel), List.mem_of_getElem? (i := 716) (by decide +kernel), List.mem_of_getElem? (i := 717) (by decide +kernel)⟩
theorem lw_p20 : lw_okq (⟨"StepNets$Group", "findSubgroups", "()V"⟩, 12) := ⟨⟨by decide +kernel, by decide +kernel⟩, List.mem_of_getElem? (i := 124) (by decide +kernel), List.mem_of_getElem? (i := 806) (by decide +kernel), List.mem_of_getElem? (i := 807) (by decide +kernel)⟩
theorem lw_p21 : lw_okq (⟨"StepNets$Group", "keepSubgroup", "(I)V"⟩, 12) := ⟨⟨by decide +kernel, by decide +kernel⟩, List.mem_of_getElem? (i := 124) (by decide +kernel), List.mem_of_getElem? (i := 810) (by decide +kernel), List.mem_of_getElem? (i := 811) (by decide +kernel)⟩
theorem lw_p22 : lw_okq (⟨"StepNets$Group", "sortSubgroups", "()V"⟩, 12) := ⟨⟨by decide +kernel, by decide +kernel⟩, List.mem_of_getElem? (i := 124) (by decide +kernel), List.mem_of_getElem? (i := 819) (by decide +kernel), List.mem_of_getElem? (i := 820) (by decide +kernel)⟩
theorem lw_p23 : lw_okq (⟨"StepNets$GroupMatcher", "begin", "(LStepNets$Group;LStepNets$Group;[I[I)V"⟩, 9) := ⟨⟨by decide +kernel, by decide +kernel⟩, List.mem_of_getElem? (i := 342) (by decide +kernel), List.mem_of_getElem? (i := 870) (by decide +kernel), List.mem_of_getElem? (i := 871) (by decide +kernel)⟩
theorem lw_p24 : lw_okq (⟨"StepNets$GroupMatcher", "tryImage", "(II)Z"⟩, 9) := ⟨⟨by decide +kernel, by decide +kernel⟩, List.mem_of_getElem? (i := 342) (by decide +kernel), List.mem_of_getElem? (i := 875) (by decide +kernel), List.mem_of_getElem? (i := 876) (by decide +kernel)⟩
theorem lw_p25 : lw_okq (⟨"StepNets$GroupMatcher", "fits", "(II)Z"⟩, 9) := ⟨⟨by decide +kernel, by decide +kernel⟩, List.mem_of_getElem? (i := 342) (by decide +kernel), List.mem_of_getElem? (i := 879) (by decide +kernel), List.mem_of_getElem? (i := 880) (by decide +kernel)⟩
theorem lw_p26 : lw_okq (⟨"StepNets$GroupMatcher", "spread", "(I)Z"⟩, 9) := ⟨⟨by decide +kernel, by decide +kernel⟩, List.mem_of_getElem? (i := 342) (by decide +kernel), List.mem_of_getElem? (i := 883) (by decide +kernel), List.mem_of_getElem? (i := 884) (by decide +kernel)⟩
theorem lw_p27 : lw_okq (⟨"StepNets$GroupMatcher", "complete", "(I)Z"⟩, 9) := ⟨⟨by decide +kernel, by decide +kernel⟩, List.mem_of_getElem? (i := 342) (by decide +kernel), List.mem_of_getElem? (i := 888) (by decide +kernel), List.mem_of_getElem? (i := 889) (by decide +kernel)⟩
theorem lw_p28 : lw_okq (⟨"StepNets$Group", "countMark", "(I)I"⟩, 12) := ⟨⟨by decide +kernel, by decide +kernel⟩, List.mem_of_getElem? (i := 124) (by decide +kernel), List.mem_of_getElem? (i := 904) (by decide +kernel), List.mem_of_getElem? (i := 905) (by decide +kernel)⟩
theorem lw_p29 : lw_okq (⟨"StepNets$Network", "measure", "()V"⟩, 11) := ⟨⟨by decide +kernel, by decide +kernel⟩, List.mem_of_getElem? (i := 225) (by decide +kernel), List.mem_of_getElem? (i := 916) (by decide +kernel), List.mem_of_getElem? (i := 917) (by decide +kernel)⟩
theorem lw_p30 : lw_okq (⟨"StepNets$Network", "along", "(I)I"⟩, 11) := ⟨⟨by decide +kernel, by decide +kernel⟩, List.mem_of_getElem? (i := 225) (by decide +kernel), List.mem_of_getElem? (i := 921) (by decide +kernel), List.mem_of_getElem? (i := 922) (by decide +kernel)⟩
theorem lw_p31 : lw_okq (⟨"StepNets$Network", "firstStepTowards", "(II)I"⟩, 11) := ⟨⟨by decide +kernel, by decide +kernel⟩, List.mem_of_getElem? (i := 225) (by decide +kernel), List.mem_of_getElem? (i := 947) (by decide +kernel), List.mem_of_getElem? (i := 948) (by decide +kernel)⟩
def lw_privs_2 : List (MethodName × Nat) := [(⟨"StepNets$GroupBuilder", "factorProduct", "(III)I"⟩, 9), (⟨"StepNets$GroupBuilder", "names", "()LStepNets$Names;"⟩, 9), (⟨"StepNets", "become", "(ILStepNets$Group;I)V"⟩, 16), (⟨"StepNets", "isElement", "(II)Z"⟩, 16), (⟨"StepNets$Group", "findSubgroups", "()V"⟩, 12), (⟨"StepNets$Group", "keepSubgroup", "(I)V"⟩, 12), (⟨"StepNets$Group", "sortSubgroups", "()V"⟩, 12), (⟨"StepNets$GroupMatcher", "begin", "(LStepNets$Group;LStepNets$Group;[I[I)V"⟩, 9), (⟨"StepNets$GroupMatcher", "tryImage", "(II)Z"⟩, 9), (⟨"StepNets$GroupMatcher", "fits", "(II)Z"⟩, 9), (⟨"StepNets$GroupMatcher", "spread", "(I)Z"⟩, 9), (⟨"StepNets$GroupMatcher", "complete", "(I)Z"⟩, 9), (⟨"StepNets$Group", "countMark", "(I)I"⟩, 12), (⟨"StepNets$Network", "measure", "()V"⟩, 11), (⟨"StepNets$Network", "along", "(I)I"⟩, 11), (⟨"StepNets$Network", "firstStepTowards", "(II)I"⟩, 11)]
theorem lw_r2 : ∀ q ∈ lw_privs_2, lw_okq q := List.forall_mem_cons.mpr ⟨lw_p16, List.forall_mem_cons.mpr ⟨lw_p17, List.forall_mem_cons.mpr ⟨lw_p18, List.forall_mem_cons.mpr ⟨lw_p19, List.forall_mem_cons.mpr ⟨lw_p20, List.forall_mem_cons.mpr ⟨lw_p21, List.forall_mem_cons.mpr ⟨lw_p22, List.forall_mem_cons.mpr ⟨lw_p23, List.forall_mem_cons.mpr ⟨lw_p24, List.forall_mem_cons.mpr ⟨lw_p25, List.forall_mem_cons.mpr ⟨lw_p26, List.forall_mem_cons.mpr ⟨lw_p27, List.forall_mem_cons.mpr ⟨lw_p28, List.forall_mem_cons.mpr ⟨lw_p29, List.forall_mem_cons.mpr ⟨lw_p30, List.forall_mem_cons.mpr ⟨lw_p31, fun _ h => absurd h List.not_mem_nil⟩⟩⟩⟩⟩⟩⟩⟩⟩⟩⟩⟩⟩⟩⟩⟩
theorem lw_p32 : lw_okq (⟨"StepNets$Network", "ringThrough", "(II)I"⟩, 11) := ⟨⟨by decide +kernel, by decide +kernel⟩, List.mem_of_getElem? (i := 225) (by decide +kernel), List.mem_of_getElem? (i := 959) (by decide +kernel), List.mem_of_getElem? (i := 960) (by decide +kernel)⟩
theorem lw_p33 : lw_okq (⟨"StepNets", "solved", "(I)LStepNets$Network;"⟩, 16) := ⟨⟨by decide +kernel, by decide +kernel⟩, List.mem_of_getElem? (i := 22) (by decide +kernel), List.mem_of_getElem? (i := 972) (by decide +kernel), List.mem_of_getElem? (i := 973) (by decide +kernel)⟩
theorem lw_p34 : lw_okq (⟨"StepNets$Colouring", "sortOut", "()V"⟩, 9) := ⟨⟨by decide +kernel, by decide +kernel⟩, List.mem_of_getElem? (i := 231) (by decide +kernel), List.mem_of_getElem? (i := 984) (by decide +kernel), List.mem_of_getElem? (i := 985) (by decide +kernel)⟩
theorem lw_p35 : lw_okq (⟨"StepNets$Colouring", "refine", "(LStepNets$Group;)V"⟩, 9) := ⟨⟨by decide +kernel, by decide +kernel⟩, List.mem_of_getElem? (i := 231) (by decide +kernel), List.mem_of_getElem? (i := 992) (by decide +kernel), List.mem_of_getElem? (i := 993) (by decide +kernel)⟩
theorem lw_p36 : lw_okq (⟨"StepNets$NetMatcher", "begin", "(LStepNets$Colouring;LStepNets$Colouring;)Z"⟩, 8) := ⟨⟨by decide +kernel, by decide +kernel⟩, List.mem_of_getElem? (i := 376) (by decide +kernel), List.mem_of_getElem? (i := 1010) (by decide +kernel), List.mem_of_getElem? (i := 1011) (by decide +kernel)⟩
theorem lw_p37 : lw_okq (⟨"StepNets$NetMatcher", "lead", "(III)Z"⟩, 8) := ⟨⟨by decide +kernel, by decide +kernel⟩, List.mem_of_getElem? (i := 376) (by decide +kernel), List.mem_of_getElem? (i := 1019) (by decide +kernel), List.mem_of_getElem? (i := 1020) (by decide +kernel)⟩
theorem lw_p38 : lw_okq (⟨"StepNets$NetMatcher", "chain", "(II[I)J"⟩, 8) := ⟨⟨by decide +kernel, by decide +kernel⟩, List.mem_of_getElem? (i := 376) (by decide +kernel), List.mem_of_getElem? (i := 1023) (by decide +kernel), List.mem_of_getElem? (i := 1024) (by decide +kernel)⟩
theorem lw_p39 : lw_okq (⟨"StepNets$NetMatcher", "pick", "(II)I"⟩, 8) := ⟨⟨by decide +kernel, by decide +kernel⟩, List.mem_of_getElem? (i := 376) (by decide +kernel), List.mem_of_getElem? (i := 1027) (by decide +kernel), List.mem_of_getElem? (i := 1028) (by decide +kernel)⟩
theorem lw_p40 : lw_okq (⟨"StepNets$NetMatcher", "complete", "(II)Z"⟩, 8) := ⟨⟨by decide +kernel, by decide +kernel⟩, List.mem_of_getElem? (i := 376) (by decide +kernel), List.mem_of_getElem? (i := 1032) (by decide +kernel), List.mem_of_getElem? (i := 1033) (by decide +kernel)⟩
theorem lw_p41 : lw_okq (⟨"StepNets$NetMatcher", "joinOrbits", "([I)V"⟩, 8) := ⟨⟨by decide +kernel, by decide +kernel⟩, List.mem_of_getElem? (i := 376) (by decide +kernel), List.mem_of_getElem? (i := 1036) (by decide +kernel), List.mem_of_getElem? (i := 1037) (by decide +kernel)⟩
theorem lw_p42 : lw_okq (⟨"StepNets", "ownCount", "(I)I"⟩, 16) := ⟨⟨by decide +kernel, by decide +kernel⟩, List.mem_of_getElem? (i := 22) (by decide +kernel), List.mem_of_getElem? (i := 1056) (by decide +kernel), List.mem_of_getElem? (i := 1057) (by decide +kernel)⟩
theorem lw_p43 : lw_okq (⟨"StepNets$OtherFinder", "chooseOf", "(LStepNets$Network;)V"⟩, 6) := ⟨⟨by decide +kernel, by decide +kernel⟩, List.mem_of_getElem? (i := 407) (by decide +kernel), List.mem_of_getElem? (i := 1080) (by decide +kernel), List.mem_of_getElem? (i := 1081) (by decide +kernel)⟩
theorem lw_p44 : lw_okq (⟨"StepNets$OtherFinder", "shortWalks", "(LStepNets$Group;)J"⟩, 6) := ⟨⟨by decide +kernel, by decide +kernel⟩, List.mem_of_getElem? (i := 407) (by decide +kernel), List.mem_of_getElem? (i := 1084) (by decide +kernel), List.mem_of_getElem? (i := 1085) (by decide +kernel)⟩
theorem lw_p45 : lw_okq (⟨"StepNets$OtherFinder", "chosenSet", "()I"⟩, 6) := ⟨⟨by decide +kernel, by decide +kernel⟩, List.mem_of_getElem? (i := 407) (by decide +kernel), List.mem_of_getElem? (i := 1088) (by decide +kernel), List.mem_of_getElem? (i := 1089) (by decide +kernel)⟩
theorem lw_p46 : lw_okq (⟨"StepNets$OtherFinder", "longWalks", "(LStepNets$Group;)I"⟩, 6) := ⟨⟨by decide +kernel, by decide +kernel⟩, List.mem_of_getElem? (i := 407) (by decide +kernel), List.mem_of_getElem? (i := 1093) (by decide +kernel), List.mem_of_getElem? (i := 1094) (by decide +kernel)⟩
theorem lw_p47 : lw_okq (⟨"StepNets$OtherFinder", "isWanted", "(LStepNets$Colouring;LStepNets$Group;LStepNets$NetMatcher;)Z"⟩, 6) := ⟨⟨by decide +kernel, by decide +kernel⟩, List.mem_of_getElem? (i := 407) (by decide +kernel), List.mem_of_getElem? (i := 1098) (by decide +kernel), List.mem_of_getElem? (i := 1099) (by decide +kernel)⟩
def lw_privs_3 : List (MethodName × Nat) := [(⟨"StepNets$Network", "ringThrough", "(II)I"⟩, 11), (⟨"StepNets", "solved", "(I)LStepNets$Network;"⟩, 16), (⟨"StepNets$Colouring", "sortOut", "()V"⟩, 9), (⟨"StepNets$Colouring", "refine", "(LStepNets$Group;)V"⟩, 9), (⟨"StepNets$NetMatcher", "begin", "(LStepNets$Colouring;LStepNets$Colouring;)Z"⟩, 8), (⟨"StepNets$NetMatcher", "lead", "(III)Z"⟩, 8), (⟨"StepNets$NetMatcher", "chain", "(II[I)J"⟩, 8), (⟨"StepNets$NetMatcher", "pick", "(II)I"⟩, 8), (⟨"StepNets$NetMatcher", "complete", "(II)Z"⟩, 8), (⟨"StepNets$NetMatcher", "joinOrbits", "([I)V"⟩, 8), (⟨"StepNets", "ownCount", "(I)I"⟩, 16), (⟨"StepNets$OtherFinder", "chooseOf", "(LStepNets$Network;)V"⟩, 6), (⟨"StepNets$OtherFinder", "shortWalks", "(LStepNets$Group;)J"⟩, 6), (⟨"StepNets$OtherFinder", "chosenSet", "()I"⟩, 6), (⟨"StepNets$OtherFinder", "longWalks", "(LStepNets$Group;)I"⟩, 6), (⟨"StepNets$OtherFinder", "isWanted", "(LStepNets$Colouring;LStepNets$Group;LStepNets$NetMatcher;)Z"⟩, 6)]
theorem lw_r3 : ∀ q ∈ lw_privs_3, lw_okq q := List.forall_mem_cons.mpr ⟨lw_p32, List.forall_mem_cons.mpr ⟨lw_p33, List.forall_mem_cons.mpr ⟨lw_p34, List.forall_mem_cons.mpr ⟨lw_p35, List.forall_mem_cons.mpr ⟨lw_p36, List.forall_mem_cons.mpr ⟨lw_p37, List.forall_mem_cons.mpr ⟨lw_p38, List.forall_mem_cons.mpr ⟨lw_p39, List.forall_mem_cons.mpr ⟨lw_p40, List.forall_mem_cons.mpr ⟨lw_p41, List.forall_mem_cons.mpr ⟨lw_p42, List.forall_mem_cons.mpr ⟨lw_p43, List.forall_mem_cons.mpr ⟨lw_p44, List.forall_mem_cons.mpr ⟨lw_p45, List.forall_mem_cons.mpr ⟨lw_p46, List.forall_mem_cons.mpr ⟨lw_p47, fun _ h => absurd h List.not_mem_nil⟩⟩⟩⟩⟩⟩⟩⟩⟩⟩⟩⟩⟩⟩⟩⟩
theorem lw_p48 : lw_okq (⟨"StepNets$OtherFinder", "chooseNext", "()V"⟩, 6) := ⟨⟨by decide +kernel, by decide +kernel⟩, List.mem_of_getElem? (i := 407) (by decide +kernel), List.mem_of_getElem? (i := 1109) (by decide +kernel), List.mem_of_getElem? (i := 1110) (by decide +kernel)⟩
theorem lw_p49 : lw_okq (⟨"StepNets$Names", "byteOfNumbers", "(II)I"⟩, 3) := ⟨⟨by decide +kernel, by decide +kernel⟩, List.mem_of_getElem? (i := 126) (by decide +kernel), List.mem_of_getElem? (i := 1125) (by decide +kernel), List.mem_of_getElem? (i := 1126) (by decide +kernel)⟩
theorem lw_p50 : lw_okq (⟨"StepNetsModel", "peek", "()I"⟩, 36) := ⟨⟨by decide +kernel, by decide +kernel⟩, List.mem_of_getElem? (i := 1134) (by decide +kernel), List.mem_of_getElem? (i := 1266) (by decide +kernel), List.mem_of_getElem? (i := 1267) (by decide +kernel)⟩
theorem lw_p51 : lw_okq (⟨"StepNetsModel", "lineRead", "()V"⟩, 36) := ⟨⟨by decide +kernel, by decide +kernel⟩, List.mem_of_getElem? (i := 1134) (by decide +kernel), List.mem_of_getElem? (i := 1270) (by decide +kernel), List.mem_of_getElem? (i := 1271) (by decide +kernel)⟩
theorem lw_p52 : lw_okq (⟨"StepNetsModel", "wordHere", "()I"⟩, 36) := ⟨⟨by decide +kernel, by decide +kernel⟩, List.mem_of_getElem? (i := 1134) (by decide +kernel), List.mem_of_getElem? (i := 1274) (by decide +kernel), List.mem_of_getElem? (i := 1275) (by decide +kernel)⟩
theorem lw_p53 : lw_okq (⟨"StepNetsModel", "fails", "(II)V"⟩, 36) := ⟨⟨by decide +kernel, by decide +kernel⟩, List.mem_of_getElem? (i := 1134) (by decide +kernel), List.mem_of_getElem? (i := 1286) (by decide +kernel), List.mem_of_getElem? (i := 1287) (by decide +kernel)⟩
theorem lw_p54 : lw_okq (⟨"StepNetsModel", "passesWord", "()V"⟩, 36) := ⟨⟨by decide +kernel, by decide +kernel⟩, List.mem_of_getElem? (i := 1134) (by decide +kernel), List.mem_of_getElem? (i := 1290) (by decide +kernel), List.mem_of_getElem? (i := 1291) (by decide +kernel)⟩
theorem lw_p55 : lw_okq (⟨"StepNetsModel", "groupRead", "()V"⟩, 36) := ⟨⟨by decide +kernel, by decide +kernel⟩, List.mem_of_getElem? (i := 1134) (by decide +kernel), List.mem_of_getElem? (i := 1294) (by decide +kernel), List.mem_of_getElem? (i := 1295) (by decide +kernel)⟩
theorem lw_p56 : lw_okq (⟨"StepNetsModel", "begins", "(I)V"⟩, 36) := ⟨⟨by decide +kernel, by decide +kernel⟩, List.mem_of_getElem? (i := 1134) (by decide +kernel), List.mem_of_getElem? (i := 1298) (by decide +kernel), List.mem_of_getElem? (i := 1299) (by decide +kernel)⟩
theorem lw_p57 : lw_okq (⟨"StepNetsModel", "factorRead", "()V"⟩, 36) := ⟨⟨by decide +kernel, by decide +kernel⟩, List.mem_of_getElem? (i := 1134) (by decide +kernel), List.mem_of_getElem? (i := 1302) (by decide +kernel), List.mem_of_getElem? (i := 1303) (by decide +kernel)⟩
theorem lw_p58 : lw_okq (⟨"StepNetsModel", "numeral", "(II)I"⟩, 36) := ⟨⟨by decide +kernel, by decide +kernel⟩, List.mem_of_getElem? (i := 1134) (by decide +kernel), List.mem_of_getElem? (i := 1306) (by decide +kernel), List.mem_of_getElem? (i := 1307) (by decide +kernel)⟩
theorem lw_p59 : lw_okq (⟨"StepNetsModel", "sizeOfFactor", "()I"⟩, 36) := ⟨⟨by decide +kernel, by decide +kernel⟩, List.mem_of_getElem? (i := 1134) (by decide +kernel), List.mem_of_getElem? (i := 1315) (by decide +kernel), List.mem_of_getElem? (i := 1316) (by decide +kernel)⟩
theorem lw_p60 : lw_okq (⟨"StepNetsModel", "laysEven", "()V"⟩, 36) := ⟨⟨by decide +kernel, by decide +kernel⟩, List.mem_of_getElem? (i := 1134) (by decide +kernel), List.mem_of_getElem? (i := 1319) (by decide +kernel), List.mem_of_getElem? (i := 1320) (by decide +kernel)⟩
theorem lw_p61 : lw_okq (⟨"StepNetsModel", "factorProduct", "(II)I"⟩, 36) := ⟨⟨by decide +kernel, by decide +kernel⟩, List.mem_of_getElem? (i := 1134) (by decide +kernel), List.mem_of_getElem? (i := 1326) (by decide +kernel), List.mem_of_getElem? (i := 1327) (by decide +kernel)⟩
theorem lw_p62 : lw_okq (⟨"StepNetsModel", "evenProduct", "(II)I"⟩, 36) := ⟨⟨by decide +kernel, by decide +kernel⟩, List.mem_of_getElem? (i := 1134) (by decide +kernel), List.mem_of_getElem? (i := 1330) (by decide +kernel), List.mem_of_getElem? (i := 1331) (by decide +kernel)⟩
theorem lw_p63 : lw_okq (⟨"StepNetsModel", "base", "()V"⟩, 36) := ⟨⟨by decide +kernel, by decide +kernel⟩, List.mem_of_getElem? (i := 1134) (by decide +kernel), List.mem_of_getElem? (i := 1334) (by decide +kernel), List.mem_of_getElem? (i := 1335) (by decide +kernel)⟩
def lw_privs_4 : List (MethodName × Nat) := [(⟨"StepNets$OtherFinder", "chooseNext", "()V"⟩, 6), (⟨"StepNets$Names", "byteOfNumbers", "(II)I"⟩, 3), (⟨"StepNetsModel", "peek", "()I"⟩, 36), (⟨"StepNetsModel", "lineRead", "()V"⟩, 36), (⟨"StepNetsModel", "wordHere", "()I"⟩, 36), (⟨"StepNetsModel", "fails", "(II)V"⟩, 36), (⟨"StepNetsModel", "passesWord", "()V"⟩, 36), (⟨"StepNetsModel", "groupRead", "()V"⟩, 36), (⟨"StepNetsModel", "begins", "(I)V"⟩, 36), (⟨"StepNetsModel", "factorRead", "()V"⟩, 36), (⟨"StepNetsModel", "numeral", "(II)I"⟩, 36), (⟨"StepNetsModel", "sizeOfFactor", "()I"⟩, 36), (⟨"StepNetsModel", "laysEven", "()V"⟩, 36), (⟨"StepNetsModel", "factorProduct", "(II)I"⟩, 36), (⟨"StepNetsModel", "evenProduct", "(II)I"⟩, 36), (⟨"StepNetsModel", "base", "()V"⟩, 36)]
theorem lw_r4 : ∀ q ∈ lw_privs_4, lw_okq q := List.forall_mem_cons.mpr ⟨lw_p48, List.forall_mem_cons.mpr ⟨lw_p49, List.forall_mem_cons.mpr ⟨lw_p50, List.forall_mem_cons.mpr ⟨lw_p51, List.forall_mem_cons.mpr ⟨lw_p52, List.forall_mem_cons.mpr ⟨lw_p53, List.forall_mem_cons.mpr ⟨lw_p54, List.forall_mem_cons.mpr ⟨lw_p55, List.forall_mem_cons.mpr ⟨lw_p56, List.forall_mem_cons.mpr ⟨lw_p57, List.forall_mem_cons.mpr ⟨lw_p58, List.forall_mem_cons.mpr ⟨lw_p59, List.forall_mem_cons.mpr ⟨lw_p60, List.forall_mem_cons.mpr ⟨lw_p61, List.forall_mem_cons.mpr ⟨lw_p62, List.forall_mem_cons.mpr ⟨lw_p63, fun _ h => absurd h List.not_mem_nil⟩⟩⟩⟩⟩⟩⟩⟩⟩⟩⟩⟩⟩⟩⟩⟩
theorem lw_p64 : lw_okq (⟨"StepNetsModel", "permsRead", "(I)V"⟩, 36) := ⟨⟨by decide +kernel, by decide +kernel⟩, List.mem_of_getElem? (i := 1134) (by decide +kernel), List.mem_of_getElem? (i := 1338) (by decide +kernel), List.mem_of_getElem? (i := 1339) (by decide +kernel)⟩
theorem lw_p65 : lw_okq (⟨"StepNetsModel", "rowRead", "()V"⟩, 36) := ⟨⟨by decide +kernel, by decide +kernel⟩, List.mem_of_getElem? (i := 1134) (by decide +kernel), List.mem_of_getElem? (i := 1342) (by decide +kernel), List.mem_of_getElem? (i := 1343) (by decide +kernel)⟩
theorem lw_p66 : lw_okq (⟨"StepNetsModel", "findRow", "([I)I"⟩, 36) := ⟨⟨by decide +kernel, by decide +kernel⟩, List.mem_of_getElem? (i := 1134) (by decide +kernel), List.mem_of_getElem? (i := 1348) (by decide +kernel), List.mem_of_getElem? (i := 1349) (by decide +kernel)⟩
theorem lw_p67 : lw_okq (⟨"StepNetsModel", "isRow", "(I[I)Z"⟩, 36) := ⟨⟨by decide +kernel, by decide +kernel⟩, List.mem_of_getElem? (i := 1134) (by decide +kernel), List.mem_of_getElem? (i := 1352) (by decide +kernel), List.mem_of_getElem? (i := 1353) (by decide +kernel)⟩
theorem lw_p68 : lw_okq (⟨"StepNetsModel", "stepsRead", "()V"⟩, 36) := ⟨⟨by decide +kernel, by decide +kernel⟩, List.mem_of_getElem? (i := 1134) (by decide +kernel), List.mem_of_getElem? (i := 1356) (by decide +kernel), List.mem_of_getElem? (i := 1357) (by decide +kernel)⟩
theorem lw_p69 : lw_okq (⟨"StepNetsModel", "undoing", "(II)I"⟩, 36) := ⟨⟨by decide +kernel, by decide +kernel⟩, List.mem_of_getElem? (i := 1134) (by decide +kernel), List.mem_of_getElem? (i := 1360) (by decide +kernel), List.mem_of_getElem? (i := 1361) (by decide +kernel)⟩
theorem lw_p70 : lw_okq (⟨"StepNetsModel", "inverse", "(II)I"⟩, 36) := ⟨⟨by decide +kernel, by decide +kernel⟩, List.mem_of_getElem? (i := 1134) (by decide +kernel), List.mem_of_getElem? (i := 1367) (by decide +kernel), List.mem_of_getElem? (i := 1368) (by decide +kernel)⟩
theorem lw_p71 : lw_okq (⟨"StepNetsModel", "productAt", "(III)I"⟩, 36) := ⟨⟨by decide +kernel, by decide +kernel⟩, List.mem_of_getElem? (i := 1134) (by decide +kernel), List.mem_of_getElem? (i := 1371) (by decide +kernel), List.mem_of_getElem? (i := 1372) (by decide +kernel)⟩
theorem lw_p72 : lw_okq (⟨"StepNetsModel", "must", "(I)V"⟩, 36) := ⟨⟨by decide +kernel, by decide +kernel⟩, List.mem_of_getElem? (i := 1134) (by decide +kernel), List.mem_of_getElem? (i := 1375) (by decide +kernel), List.mem_of_getElem? (i := 1376) (by decide +kernel)⟩
theorem lw_p73 : lw_okq (⟨"StepNetsModel", "isElement", "(II)Z"⟩, 36) := ⟨⟨by decide +kernel, by decide +kernel⟩, List.mem_of_getElem? (i := 1134) (by decide +kernel), List.mem_of_getElem? (i := 1387) (by decide +kernel), List.mem_of_getElem? (i := 1388) (by decide +kernel)⟩
theorem lw_p74 : lw_okq (⟨"StepNetsModel", "many", "(I)I"⟩, 36) := ⟨⟨by decide +kernel, by decide +kernel⟩, List.mem_of_getElem? (i := 1134) (by decide +kernel), List.mem_of_getElem? (i := 1391) (by decide +kernel), List.mem_of_getElem? (i := 1392) (by decide +kernel)⟩
theorem lw_p75 : lw_okq (⟨"StepNetsModel", "keeps", "(I)V"⟩, 36) := ⟨⟨by decide +kernel, by decide +kernel⟩, List.mem_of_getElem? (i := 1134) (by decide +kernel), List.mem_of_getElem? (i := 1395) (by decide +kernel), List.mem_of_getElem? (i := 1396) (by decide +kernel)⟩
theorem lw_p76 : lw_okq (⟨"StepNetsModel", "steps", "(I)I"⟩, 36) := ⟨⟨by decide +kernel, by decide +kernel⟩, List.mem_of_getElem? (i := 1134) (by decide +kernel), List.mem_of_getElem? (i := 1399) (by decide +kernel), List.mem_of_getElem? (i := 1400) (by decide +kernel)⟩
theorem lw_p77 : lw_okq (⟨"StepNetsModel", "isSet", "(II)Z"⟩, 36) := ⟨⟨by decide +kernel, by decide +kernel⟩, List.mem_of_getElem? (i := 1134) (by decide +kernel), List.mem_of_getElem? (i := 1415) (by decide +kernel), List.mem_of_getElem? (i := 1416) (by decide +kernel)⟩
theorem lw_p78 : lw_okq (⟨"StepNetsModel", "kindOf", "(II)I"⟩, 36) := ⟨⟨by decide +kernel, by decide +kernel⟩, List.mem_of_getElem? (i := 1134) (by decide +kernel), List.mem_of_getElem? (i := 1419) (by decide +kernel), List.mem_of_getElem? (i := 1420) (by decide +kernel)⟩
theorem lw_p79 : lw_okq (⟨"StepNetsModel", "subgroupOf", "(II)I"⟩, 36) := ⟨⟨by decide +kernel, by decide +kernel⟩, List.mem_of_getElem? (i := 1134) (by decide +kernel), List.mem_of_getElem? (i := 1423) (by decide +kernel), List.mem_of_getElem? (i := 1424) (by decide +kernel)⟩
def lw_privs_5 : List (MethodName × Nat) := [(⟨"StepNetsModel", "permsRead", "(I)V"⟩, 36), (⟨"StepNetsModel", "rowRead", "()V"⟩, 36), (⟨"StepNetsModel", "findRow", "([I)I"⟩, 36), (⟨"StepNetsModel", "isRow", "(I[I)Z"⟩, 36), (⟨"StepNetsModel", "stepsRead", "()V"⟩, 36), (⟨"StepNetsModel", "undoing", "(II)I"⟩, 36), (⟨"StepNetsModel", "inverse", "(II)I"⟩, 36), (⟨"StepNetsModel", "productAt", "(III)I"⟩, 36), (⟨"StepNetsModel", "must", "(I)V"⟩, 36), (⟨"StepNetsModel", "isElement", "(II)Z"⟩, 36), (⟨"StepNetsModel", "many", "(I)I"⟩, 36), (⟨"StepNetsModel", "keeps", "(I)V"⟩, 36), (⟨"StepNetsModel", "steps", "(I)I"⟩, 36), (⟨"StepNetsModel", "isSet", "(II)Z"⟩, 36), (⟨"StepNetsModel", "kindOf", "(II)I"⟩, 36), (⟨"StepNetsModel", "subgroupOf", "(II)I"⟩, 36)]
theorem lw_r5 : ∀ q ∈ lw_privs_5, lw_okq q := List.forall_mem_cons.mpr ⟨lw_p64, List.forall_mem_cons.mpr ⟨lw_p65, List.forall_mem_cons.mpr ⟨lw_p66, List.forall_mem_cons.mpr ⟨lw_p67, List.forall_mem_cons.mpr ⟨lw_p68, List.forall_mem_cons.mpr ⟨lw_p69, List.forall_mem_cons.mpr ⟨lw_p70, List.forall_mem_cons.mpr ⟨lw_p71, List.forall_mem_cons.mpr ⟨lw_p72, List.forall_mem_cons.mpr ⟨lw_p73, List.forall_mem_cons.mpr ⟨lw_p74, List.forall_mem_cons.mpr ⟨lw_p75, List.forall_mem_cons.mpr ⟨lw_p76, List.forall_mem_cons.mpr ⟨lw_p77, List.forall_mem_cons.mpr ⟨lw_p78, List.forall_mem_cons.mpr ⟨lw_p79, fun _ h => absurd h List.not_mem_nil⟩⟩⟩⟩⟩⟩⟩⟩⟩⟩⟩⟩⟩⟩⟩⟩
theorem lw_p80 : lw_okq (⟨"StepNetsModel", "products", "(III)I"⟩, 36) := ⟨⟨by decide +kernel, by decide +kernel⟩, List.mem_of_getElem? (i := 1134) (by decide +kernel), List.mem_of_getElem? (i := 1427) (by decide +kernel), List.mem_of_getElem? (i := 1428) (by decide +kernel)⟩
theorem lw_p81 : lw_okq (⟨"StepNetsModel", "times", "(III)I"⟩, 36) := ⟨⟨by decide +kernel, by decide +kernel⟩, List.mem_of_getElem? (i := 1134) (by decide +kernel), List.mem_of_getElem? (i := 1431) (by decide +kernel), List.mem_of_getElem? (i := 1432) (by decide +kernel)⟩
theorem lw_p82 : lw_okq (⟨"StepNetsModel", "classBits", "(II)I"⟩, 36) := ⟨⟨by decide +kernel, by decide +kernel⟩, List.mem_of_getElem? (i := 1134) (by decide +kernel), List.mem_of_getElem? (i := 1435) (by decide +kernel), List.mem_of_getElem? (i := 1436) (by decide +kernel)⟩
theorem lw_p83 : lw_okq (⟨"StepNetsModel", "centre", "(I)I"⟩, 36) := ⟨⟨by decide +kernel, by decide +kernel⟩, List.mem_of_getElem? (i := 1134) (by decide +kernel), List.mem_of_getElem? (i := 1447) (by decide +kernel), List.mem_of_getElem? (i := 1448) (by decide +kernel)⟩
theorem lw_p84 : lw_okq (⟨"StepNetsModel", "classes", "(I)I"⟩, 36) := ⟨⟨by decide +kernel, by decide +kernel⟩, List.mem_of_getElem? (i := 1134) (by decide +kernel), List.mem_of_getElem? (i := 1451) (by decide +kernel), List.mem_of_getElem? (i := 1452) (by decide +kernel)⟩
theorem lw_p85 : lw_okq (⟨"StepNetsModel", "laysSubgroups", "(I)V"⟩, 36) := ⟨⟨by decide +kernel, by decide +kernel⟩, List.mem_of_getElem? (i := 1134) (by decide +kernel), List.mem_of_getElem? (i := 1455) (by decide +kernel), List.mem_of_getElem? (i := 1456) (by decide +kernel)⟩
theorem lw_p86 : lw_okq (⟨"StepNetsModel", "comes", "(I)V"⟩, 36) := ⟨⟨by decide +kernel, by decide +kernel⟩, List.mem_of_getElem? (i := 1134) (by decide +kernel), List.mem_of_getElem? (i := 1459) (by decide +kernel), List.mem_of_getElem? (i := 1460) (by decide +kernel)⟩
theorem lw_p87 : lw_okq (⟨"StepNetsModel", "derived", "(I)I"⟩, 36) := ⟨⟨by decide +kernel, by decide +kernel⟩, List.mem_of_getElem? (i := 1134) (by decide +kernel), List.mem_of_getElem? (i := 1463) (by decide +kernel), List.mem_of_getElem? (i := 1464) (by decide +kernel)⟩
theorem lw_p88 : lw_okq (⟨"StepNetsModel", "periodOf", "(II)I"⟩, 36) := ⟨⟨by decide +kernel, by decide +kernel⟩, List.mem_of_getElem? (i := 1134) (by decide +kernel), List.mem_of_getElem? (i := 1467) (by decide +kernel), List.mem_of_getElem? (i := 1468) (by decide +kernel)⟩
theorem lw_p89 : lw_okq (⟨"StepNetsModel", "laysMaps", "(IIZ)V"⟩, 36) := ⟨⟨by decide +kernel, by decide +kernel⟩, List.mem_of_getElem? (i := 1134) (by decide +kernel), List.mem_of_getElem? (i := 1502) (by decide +kernel), List.mem_of_getElem? (i := 1503) (by decide +kernel)⟩
theorem lw_p90 : lw_okq (⟨"StepNetsModel", "goesMaps", "(III)V"⟩, 36) := ⟨⟨by decide +kernel, by decide +kernel⟩, List.mem_of_getElem? (i := 1134) (by decide +kernel), List.mem_of_getElem? (i := 1506) (by decide +kernel), List.mem_of_getElem? (i := 1507) (by decide +kernel)⟩
theorem lw_p91 : lw_okq (⟨"StepNetsModel", "follows", "(IIIII)Z"⟩, 36) := ⟨⟨by decide +kernel, by decide +kernel⟩, List.mem_of_getElem? (i := 1134) (by decide +kernel), List.mem_of_getElem? (i := 1510) (by decide +kernel), List.mem_of_getElem? (i := 1511) (by decide +kernel)⟩
theorem lw_p92 : lw_okq (⟨"StepNetsModel", "laysFar", "(III)V"⟩, 36) := ⟨⟨by decide +kernel, by decide +kernel⟩, List.mem_of_getElem? (i := 1134) (by decide +kernel), List.mem_of_getElem? (i := 1522) (by decide +kernel), List.mem_of_getElem? (i := 1523) (by decide +kernel)⟩
theorem lw_p93 : lw_okq (⟨"StepNetsModel", "farOf", "(IIII)I"⟩, 36) := ⟨⟨by decide +kernel, by decide +kernel⟩, List.mem_of_getElem? (i := 1134) (by decide +kernel), List.mem_of_getElem? (i := 1526) (by decide +kernel), List.mem_of_getElem? (i := 1527) (by decide +kernel)⟩
theorem lw_p94 : lw_okq (⟨"StepNetsModel", "back", "(II)I"⟩, 36) := ⟨⟨by decide +kernel, by decide +kernel⟩, List.mem_of_getElem? (i := 1134) (by decide +kernel), List.mem_of_getElem? (i := 1542) (by decide +kernel), List.mem_of_getElem? (i := 1543) (by decide +kernel)⟩
theorem lw_p95 : lw_okq (⟨"StepNetsModel", "staying", "(I)J"⟩, 36) := ⟨⟨by decide +kernel, by decide +kernel⟩, List.mem_of_getElem? (i := 1134) (by decide +kernel), List.mem_of_getElem? (i := 1554) (by decide +kernel), List.mem_of_getElem? (i := 1555) (by decide +kernel)⟩
def lw_privs_6 : List (MethodName × Nat) := [(⟨"StepNetsModel", "products", "(III)I"⟩, 36), (⟨"StepNetsModel", "times", "(III)I"⟩, 36), (⟨"StepNetsModel", "classBits", "(II)I"⟩, 36), (⟨"StepNetsModel", "centre", "(I)I"⟩, 36), (⟨"StepNetsModel", "classes", "(I)I"⟩, 36), (⟨"StepNetsModel", "laysSubgroups", "(I)V"⟩, 36), (⟨"StepNetsModel", "comes", "(I)V"⟩, 36), (⟨"StepNetsModel", "derived", "(I)I"⟩, 36), (⟨"StepNetsModel", "periodOf", "(II)I"⟩, 36), (⟨"StepNetsModel", "laysMaps", "(IIZ)V"⟩, 36), (⟨"StepNetsModel", "goesMaps", "(III)V"⟩, 36), (⟨"StepNetsModel", "follows", "(IIIII)Z"⟩, 36), (⟨"StepNetsModel", "laysFar", "(III)V"⟩, 36), (⟨"StepNetsModel", "farOf", "(IIII)I"⟩, 36), (⟨"StepNetsModel", "back", "(II)I"⟩, 36), (⟨"StepNetsModel", "staying", "(I)J"⟩, 36)]
theorem lw_r6 : ∀ q ∈ lw_privs_6, lw_okq q := List.forall_mem_cons.mpr ⟨lw_p80, List.forall_mem_cons.mpr ⟨lw_p81, List.forall_mem_cons.mpr ⟨lw_p82, List.forall_mem_cons.mpr ⟨lw_p83, List.forall_mem_cons.mpr ⟨lw_p84, List.forall_mem_cons.mpr ⟨lw_p85, List.forall_mem_cons.mpr ⟨lw_p86, List.forall_mem_cons.mpr ⟨lw_p87, List.forall_mem_cons.mpr ⟨lw_p88, List.forall_mem_cons.mpr ⟨lw_p89, List.forall_mem_cons.mpr ⟨lw_p90, List.forall_mem_cons.mpr ⟨lw_p91, List.forall_mem_cons.mpr ⟨lw_p92, List.forall_mem_cons.mpr ⟨lw_p93, List.forall_mem_cons.mpr ⟨lw_p94, List.forall_mem_cons.mpr ⟨lw_p95, fun _ h => absurd h List.not_mem_nil⟩⟩⟩⟩⟩⟩⟩⟩⟩⟩⟩⟩⟩⟩⟩⟩
theorem lw_p96 : lw_okq (⟨"StepNetsModel", "laysSame", "(I)V"⟩, 36) := ⟨⟨by decide +kernel, by decide +kernel⟩, List.mem_of_getElem? (i := 1134) (by decide +kernel), List.mem_of_getElem? (i := 1558) (by decide +kernel), List.mem_of_getElem? (i := 1559) (by decide +kernel)⟩
theorem lw_p97 : lw_okq (⟨"StepNetsModel", "laysFars", "(III)V"⟩, 36) := ⟨⟨by decide +kernel, by decide +kernel⟩, List.mem_of_getElem? (i := 1134) (by decide +kernel), List.mem_of_getElem? (i := 1562) (by decide +kernel), List.mem_of_getElem? (i := 1563) (by decide +kernel)⟩
theorem lw_p98 : lw_okq (⟨"StepNetsModel", "canLead", "(III)Z"⟩, 36) := ⟨⟨by decide +kernel, by decide +kernel⟩, List.mem_of_getElem? (i := 1134) (by decide +kernel), List.mem_of_getElem? (i := 1566) (by decide +kernel), List.mem_of_getElem? (i := 1567) (by decide +kernel)⟩
theorem lw_p99 : lw_okq (⟨"StepNetsModel", "mayLead", "(II)Z"⟩, 36) := ⟨⟨by decide +kernel, by decide +kernel⟩, List.mem_of_getElem? (i := 1134) (by decide +kernel), List.mem_of_getElem? (i := 1570) (by decide +kernel), List.mem_of_getElem? (i := 1571) (by decide +kernel)⟩
theorem lw_p100 : lw_okq (⟨"StepNetsModel", "goesOn", "(II)Z"⟩, 36) := ⟨⟨by decide +kernel, by decide +kernel⟩, List.mem_of_getElem? (i := 1134) (by decide +kernel), List.mem_of_getElem? (i := 1574) (by decide +kernel), List.mem_of_getElem? (i := 1575) (by decide +kernel)⟩
theorem lw_p101 : lw_okq (⟨"StepNetsModel", "alikeBits", "(II)I"⟩, 36) := ⟨⟨by decide +kernel, by decide +kernel⟩, List.mem_of_getElem? (i := 1134) (by decide +kernel), List.mem_of_getElem? (i := 1583) (by decide +kernel), List.mem_of_getElem? (i := 1584) (by decide +kernel)⟩
theorem lw_p102 : lw_okq (⟨"StepNetsModel", "goesPinned", "(II)Z"⟩, 36) := ⟨⟨by decide +kernel, by decide +kernel⟩, List.mem_of_getElem? (i := 1134) (by decide +kernel), List.mem_of_getElem? (i := 1587) (by decide +kernel), List.mem_of_getElem? (i := 1588) (by decide +kernel)⟩
theorem lw_p103 : lw_okq (⟨"StepNetsModel", "fitsPin", "(II)Z"⟩, 36) := ⟨⟨by decide +kernel, by decide +kernel⟩, List.mem_of_getElem? (i := 1134) (by decide +kernel), List.mem_of_getElem? (i := 1591) (by decide +kernel), List.mem_of_getElem? (i := 1592) (by decide +kernel)⟩
theorem lw_p104 : lw_okq (⟨"StepNetsModel", "areArcsAlike", "(I)Z"⟩, 36) := ⟨⟨by decide +kernel, by decide +kernel⟩, List.mem_of_getElem? (i := 1134) (by decide +kernel), List.mem_of_getElem? (i := 1599) (by decide +kernel), List.mem_of_getElem? (i := 1600) (by decide +kernel)⟩
theorem lw_p105 : lw_okq (⟨"StepNetsModel", "areFarAlike", "(I)Z"⟩, 36) := ⟨⟨by decide +kernel, by decide +kernel⟩, List.mem_of_getElem? (i := 1134) (by decide +kernel), List.mem_of_getElem? (i := 1607) (by decide +kernel), List.mem_of_getElem? (i := 1608) (by decide +kernel)⟩
theorem lw_p106 : lw_okq (⟨"StepNetsModel", "own", "(I)I"⟩, 36) := ⟨⟨by decide +kernel, by decide +kernel⟩, List.mem_of_getElem? (i := 1134) (by decide +kernel), List.mem_of_getElem? (i := 1611) (by decide +kernel), List.mem_of_getElem? (i := 1612) (by decide +kernel)⟩
theorem lw_p107 : lw_okq (⟨"StepNetsModel", "leads", "(I)Z"⟩, 36) := ⟨⟨by decide +kernel, by decide +kernel⟩, List.mem_of_getElem? (i := 1134) (by decide +kernel), List.mem_of_getElem? (i := 1619) (by decide +kernel), List.mem_of_getElem? (i := 1620) (by decide +kernel)⟩
theorem lw_p108 : lw_okq (⟨"StepNetsModel", "nameAt", "(III)I"⟩, 36) := ⟨⟨by decide +kernel, by decide +kernel⟩, List.mem_of_getElem? (i := 1134) (by decide +kernel), List.mem_of_getElem? (i := 1631) (by decide +kernel), List.mem_of_getElem? (i := 1632) (by decide +kernel)⟩
def lw_privs_7 : List (MethodName × Nat) := [(⟨"StepNetsModel", "laysSame", "(I)V"⟩, 36), (⟨"StepNetsModel", "laysFars", "(III)V"⟩, 36), (⟨"StepNetsModel", "canLead", "(III)Z"⟩, 36), (⟨"StepNetsModel", "mayLead", "(II)Z"⟩, 36), (⟨"StepNetsModel", "goesOn", "(II)Z"⟩, 36), (⟨"StepNetsModel", "alikeBits", "(II)I"⟩, 36), (⟨"StepNetsModel", "goesPinned", "(II)Z"⟩, 36), (⟨"StepNetsModel", "fitsPin", "(II)Z"⟩, 36), (⟨"StepNetsModel", "areArcsAlike", "(I)Z"⟩, 36), (⟨"StepNetsModel", "areFarAlike", "(I)Z"⟩, 36), (⟨"StepNetsModel", "own", "(I)I"⟩, 36), (⟨"StepNetsModel", "leads", "(I)Z"⟩, 36), (⟨"StepNetsModel", "nameAt", "(III)I"⟩, 36)]
theorem lw_r7 : ∀ q ∈ lw_privs_7, lw_okq q := List.forall_mem_cons.mpr ⟨lw_p96, List.forall_mem_cons.mpr ⟨lw_p97, List.forall_mem_cons.mpr ⟨lw_p98, List.forall_mem_cons.mpr ⟨lw_p99, List.forall_mem_cons.mpr ⟨lw_p100, List.forall_mem_cons.mpr ⟨lw_p101, List.forall_mem_cons.mpr ⟨lw_p102, List.forall_mem_cons.mpr ⟨lw_p103, List.forall_mem_cons.mpr ⟨lw_p104, List.forall_mem_cons.mpr ⟨lw_p105, List.forall_mem_cons.mpr ⟨lw_p106, List.forall_mem_cons.mpr ⟨lw_p107, List.forall_mem_cons.mpr ⟨lw_p108, fun _ h => absurd h List.not_mem_nil⟩⟩⟩⟩⟩⟩⟩⟩⟩⟩⟩⟩⟩
def lw_privs : List (MethodName × Nat) := lw_privs_1 ++ (lw_privs_2 ++ (lw_privs_3 ++ (lw_privs_4 ++ (lw_privs_5 ++ (lw_privs_6 ++ (lw_privs_7))))))
def lw_tbl : List Cond := k2_sels lw_privs ++ tables_1
theorem lw_privs_ok : ∀ q ∈ lw_privs, lw_okq q := by
  show ∀ q ∈ lw_privs_1 ++ (lw_privs_2 ++ (lw_privs_3 ++ (lw_privs_4 ++ (lw_privs_5 ++ (lw_privs_6 ++ (lw_privs_7)))))), lw_okq q
  exact List.forall_mem_append.mpr ⟨lw_r1, List.forall_mem_append.mpr ⟨lw_r2, List.forall_mem_append.mpr ⟨lw_r3, List.forall_mem_append.mpr ⟨lw_r4, List.forall_mem_append.mpr ⟨lw_r5, List.forall_mem_append.mpr ⟨lw_r6, lw_r7⟩⟩⟩⟩⟩⟩

def RX0 : String := "StepNets$Colouring"
def TX0 : u_T := fun k => match k with
  | 0 => ("StepNets$Colouring", "order", "I", false)
  | 1 => ("StepNets$Colouring", "classes", "I", false)
  | 2 => ("StepNets$Colouring", "hues", "[I", true)
  | 3 => ("StepNets$Colouring", "classAt", "[I", true)
  | 4 => ("StepNets$Colouring", "leads", "[I", true)
  | 5 => ("StepNets$Colouring", "members", "[I", true)
  | 6 => ("StepNets$Colouring", "pairs", "[I", true)
  | 7 => ("StepNets$Colouring", "fans", "[I", true)
  | _ => ("StepNets$Colouring", "fresh", "[I", true)
def tyX0 : Nat → FieldType := fun k => match k with
  | 0 => .int
  | 1 => .int
  | 2 => .array .int
  | 3 => .array .int
  | 4 => .array .int
  | 5 => .array .int
  | 6 => .array .int
  | 7 => .array .int
  | _ => .array .int
abbrev wsX00 : List Cond := u_ws RX0 TX0 9
theorem nmX0 : ∀ a, a < 9 → ∀ b, b < 9 → a ≠ b → (TX0 a).2.1 ≠ (TX0 b).2.1 := by decide +kernel
theorem tyX0_ok : ∀ k, k < 9 → parseFieldDescriptor (TX0 k).2.2.1 = some (tyX0 k) := by decide +kernel
abbrev cX0_init : ByteArray := prog_2_method_1_code
def yX0_init : MethodName := ⟨RX0, "<init>", "()V"⟩
abbrev cX0_paint : ByteArray := prog_2_method_2_code
def yX0_paint : MethodName := ⟨RX0, "paint", "(LStepNets$Group;I)V"⟩
abbrev cX0_refine : ByteArray := prog_2_method_3_code
def yX0_refine : MethodName := ⟨RX0, "refine", "(LStepNets$Group;)V"⟩
abbrev cX0_mix : ByteArray := prog_2_method_4_code
def yX0_mix : MethodName := ⟨RX0, "mix", "(II)I"⟩
abbrev cX0_sortOut : ByteArray := prog_2_method_5_code
def yX0_sortOut : MethodName := ⟨RX0, "sortOut", "()V"⟩
abbrev cX0_classOfHue : ByteArray := prog_2_method_6_code
def yX0_classOfHue : MethodName := ⟨RX0, "classOfHue", "(I)I"⟩
abbrev cX0_spreadOut : ByteArray := prog_2_method_7_code
def yX0_spreadOut : MethodName := ⟨RX0, "spreadOut", "(LStepNets$Group;)V"⟩
def RX1 : String := "StepNets$Group"
def TX1 : u_T := fun k => match k with
  | 0 => ("StepNets$Group", "order", "I", true)
  | 1 => ("StepNets$Group", "table", "[I", true)
  | 2 => ("StepNets$Group", "inverse", "[I", true)
  | 3 => ("StepNets$Group", "period", "[I", true)
  | 4 => ("StepNets$Group", "conjugates", "[I", true)
  | 5 => ("StepNets$Group", "marks", "[I", true)
  | 6 => ("StepNets$Group", "names", "LStepNets$Names;", true)
  | 7 => ("StepNets$Group", "origin", "[I", true)
  | 8 => ("StepNets$Group", "primes", "I", true)
  | 9 => ("StepNets$Group", "ownMaps", "I", false)
  | 10 => ("StepNets$Group", "subgroups", "[I", false)
  | _ => ("StepNets$Group", "subgroupCount", "I", false)
def tyX1 : Nat → FieldType := fun k => match k with
  | 0 => .int
  | 1 => .array .int
  | 2 => .array .int
  | 3 => .array .int
  | 4 => .array .int
  | 5 => .array .int
  | 6 => .object "StepNets$Names"
  | 7 => .array .int
  | 8 => .int
  | 9 => .int
  | 10 => .array .int
  | _ => .int
abbrev wsX10 : List Cond := u_ws RX1 TX1 12
theorem nmX1 : ∀ a, a < 12 → ∀ b, b < 12 → a ≠ b → (TX1 a).2.1 ≠ (TX1 b).2.1 := by decide +kernel
theorem tyX1_ok : ∀ k, k < 12 → parseFieldDescriptor (TX1 k).2.2.1 = some (tyX1 k) := by decide +kernel
abbrev cX1_init : ByteArray := prog_3_method_1_code
def yX1_init : MethodName := ⟨RX1, "<init>", "(I[ILStepNets$Names;[II)V"⟩
abbrev cX1_times : ByteArray := prog_3_method_2_code
def yX1_times : MethodName := ⟨RX1, "times", "(II)I"⟩
abbrev cX1_findInverses : ByteArray := prog_3_method_3_code
def yX1_findInverses : MethodName := ⟨RX1, "findInverses", "()V"⟩
abbrev cX1_findPeriods : ByteArray := prog_3_method_4_code
def yX1_findPeriods : MethodName := ⟨RX1, "findPeriods", "()V"⟩
abbrev cX1_findClasses : ByteArray := prog_3_method_5_code
def yX1_findClasses : MethodName := ⟨RX1, "findClasses", "()V"⟩
abbrev cX1_findMarks : ByteArray := prog_3_method_6_code
def yX1_findMarks : MethodName := ⟨RX1, "findMarks", "()V"⟩
abbrev cX1_hasMarksOf : ByteArray := prog_3_method_7_code
def yX1_hasMarksOf : MethodName := ⟨RX1, "hasMarksOf", "(LStepNets$Group;)Z"⟩
abbrev cX1_countMark : ByteArray := prog_3_method_8_code
def yX1_countMark : MethodName := ⟨RX1, "countMark", "(I)I"⟩
abbrev cX1_isSet : ByteArray := prog_3_method_9_code
def yX1_isSet : MethodName := ⟨RX1, "isSet", "(I)Z"⟩
abbrev cX1_isClosed : ByteArray := prog_3_method_10_code
def yX1_isClosed : MethodName := ⟨RX1, "isClosed", "(I)Z"⟩
abbrev cX1_isOfWholeClasses : ByteArray := prog_3_method_11_code
def yX1_isOfWholeClasses : MethodName := ⟨RX1, "isOfWholeClasses", "(I)Z"⟩
abbrev cX1_withInverses : ByteArray := prog_3_method_12_code
def yX1_withInverses : MethodName := ⟨RX1, "withInverses", "(I)I"⟩
abbrev cX1_onward : ByteArray := prog_3_method_13_code
def yX1_onward : MethodName := ⟨RX1, "onward", "(II)I"⟩
abbrev cX1_shifted : ByteArray := prog_3_method_14_code
def yX1_shifted : MethodName := ⟨RX1, "shifted", "(II)I"⟩
abbrev cX1_span : ByteArray := prog_3_method_15_code
def yX1_span : MethodName := ⟨RX1, "span", "(I)I"⟩
abbrev cX1_centreOrder : ByteArray := prog_3_method_16_code
def yX1_centreOrder : MethodName := ⟨RX1, "centreOrder", "()I"⟩
abbrev cX1_countClasses : ByteArray := prog_3_method_17_code
def yX1_countClasses : MethodName := ⟨RX1, "countClasses", "()I"⟩
abbrev cX1_derived : ByteArray := prog_3_method_18_code
def yX1_derived : MethodName := ⟨RX1, "derived", "()I"⟩
abbrev cX1_exponent : ByteArray := prog_3_method_19_code
def yX1_exponent : MethodName := ⟨RX1, "exponent", "()I"⟩
abbrev cX1_countSubgroups : ByteArray := prog_3_method_20_code
def yX1_countSubgroups : MethodName := ⟨RX1, "countSubgroups", "()I"⟩
abbrev cX1_subgroupAt : ByteArray := prog_3_method_21_code
def yX1_subgroupAt : MethodName := ⟨RX1, "subgroupAt", "(I)I"⟩
abbrev cX1_findSubgroups : ByteArray := prog_3_method_22_code
def yX1_findSubgroups : MethodName := ⟨RX1, "findSubgroups", "()V"⟩
abbrev cX1_hasNoneBetween : ByteArray := prog_3_method_23_code
def yX1_hasNoneBetween : MethodName := ⟨RX1, "hasNoneBetween", "(II)Z"⟩
abbrev cX1_keepSubgroup : ByteArray := prog_3_method_24_code
def yX1_keepSubgroup : MethodName := ⟨RX1, "keepSubgroup", "(I)V"⟩
abbrev cX1_sortSubgroups : ByteArray := prog_3_method_25_code
def yX1_sortSubgroups : MethodName := ⟨RX1, "sortSubgroups", "()V"⟩
abbrev cX1_numberCosets : ByteArray := prog_3_method_26_code
def yX1_numberCosets : MethodName := ⟨RX1, "numberCosets", "(I[I[I)I"⟩
abbrev cX1_dividedBy : ByteArray := prog_3_method_27_code
def yX1_dividedBy : MethodName := ⟨RX1, "dividedBy", "(I[I[I)LStepNets$Group;"⟩
abbrev cX1_nameByte : ByteArray := prog_3_method_28_code
def yX1_nameByte : MethodName := ⟨RX1, "nameByte", "(II)I"⟩
def RX2 : String := "StepNets$GroupBuilder"
def TX2 : u_T := fun k => match k with
  | 0 => ("StepNets$GroupBuilder", "letters", "[I", true)
  | 1 => ("StepNets$GroupBuilder", "numbers", "[I", true)
  | 2 => ("StepNets$GroupBuilder", "sizes", "[I", true)
  | 3 => ("StepNets$GroupBuilder", "factors", "I", false)
  | 4 => ("StepNets$GroupBuilder", "order", "I", false)
  | 5 => ("StepNets$GroupBuilder", "rows", "[I", true)
  | 6 => ("StepNets$GroupBuilder", "rowCount", "I", false)
  | 7 => ("StepNets$GroupBuilder", "digits", "I", false)
  | _ => ("StepNets$GroupBuilder", "elements", "[I", true)
def tyX2 : Nat → FieldType := fun k => match k with
  | 0 => .array .int
  | 1 => .array .int
  | 2 => .array .int
  | 3 => .int
  | 4 => .int
  | 5 => .array .int
  | 6 => .int
  | 7 => .int
  | _ => .array .int
abbrev wsX20 : List Cond := u_ws RX2 TX2 9
theorem nmX2 : ∀ a, a < 9 → ∀ b, b < 9 → a ≠ b → (TX2 a).2.1 ≠ (TX2 b).2.1 := by decide +kernel
theorem tyX2_ok : ∀ k, k < 9 → parseFieldDescriptor (TX2 k).2.2.1 = some (tyX2 k) := by decide +kernel
abbrev cX2_init : ByteArray := prog_4_method_1_code
def yX2_init : MethodName := ⟨RX2, "<init>", "()V"⟩
abbrev cX2_startAnew : ByteArray := prog_4_method_2_code
def yX2_startAnew : MethodName := ⟨RX2, "startAnew", "()V"⟩
abbrev cX2_addFactor : ByteArray := prog_4_method_3_code
def yX2_addFactor : MethodName := ⟨RX2, "addFactor", "(II)Z"⟩
abbrev cX2_sizeOf : ByteArray := prog_4_method_4_code
def yX2_sizeOf : MethodName := ⟨RX2, "sizeOf", "(II)I"⟩
abbrev cX2_addRow : ByteArray := prog_4_method_5_code
def yX2_addRow : MethodName := ⟨RX2, "addRow", "(II)Z"⟩
abbrev cX2_findElements : ByteArray := prog_4_method_6_code
def yX2_findElements : MethodName := ⟨RX2, "findElements", "()Z"⟩
abbrev cX2_build : ByteArray := prog_4_method_7_code
def yX2_build : MethodName := ⟨RX2, "build", "()LStepNets$Group;"⟩
abbrev cX2_names : ByteArray := prog_4_method_8_code
def yX2_names : MethodName := ⟨RX2, "names", "()LStepNets$Names;"⟩
abbrev cX2_rowProduct : ByteArray := prog_4_method_9_code
def yX2_rowProduct : MethodName := ⟨RX2, "rowProduct", "(II)I"⟩
abbrev cX2_factorsProduct : ByteArray := prog_4_method_10_code
def yX2_factorsProduct : MethodName := ⟨RX2, "factorsProduct", "(II)I"⟩
abbrev cX2_factorProduct : ByteArray := prog_4_method_11_code
def yX2_factorProduct : MethodName := ⟨RX2, "factorProduct", "(III)I"⟩
abbrev cX2_turned : ByteArray := prog_4_method_12_code
def yX2_turned : MethodName := ⟨RX2, "turned", "(IIII)I"⟩
def RX3 : String := "StepNets$GroupMatcher"
def TX3 : u_T := fun k => match k with
  | 0 => ("StepNets$GroupMatcher", "from", "LStepNets$Group;", false)
  | 1 => ("StepNets$GroupMatcher", "to", "LStepNets$Group;", false)
  | 2 => ("StepNets$GroupMatcher", "fromSorts", "[I", false)
  | 3 => ("StepNets$GroupMatcher", "toSorts", "[I", false)
  | 4 => ("StepNets$GroupMatcher", "makerCount", "I", false)
  | 5 => ("StepNets$GroupMatcher", "makers", "[I", true)
  | 6 => ("StepNets$GroupMatcher", "makerImage", "[I", true)
  | 7 => ("StepNets$GroupMatcher", "image", "[I", true)
  | _ => ("StepNets$GroupMatcher", "queue", "[I", true)
def tyX3 : Nat → FieldType := fun k => match k with
  | 0 => .object "StepNets$Group"
  | 1 => .object "StepNets$Group"
  | 2 => .array .int
  | 3 => .array .int
  | 4 => .int
  | 5 => .array .int
  | 6 => .array .int
  | 7 => .array .int
  | _ => .array .int
abbrev wsX30 : List Cond := u_ws RX3 TX3 9
theorem nmX3 : ∀ a, a < 9 → ∀ b, b < 9 → a ≠ b → (TX3 a).2.1 ≠ (TX3 b).2.1 := by decide +kernel
theorem tyX3_ok : ∀ k, k < 9 → parseFieldDescriptor (TX3 k).2.2.1 = some (tyX3 k) := by decide +kernel
abbrev cX3_init : ByteArray := prog_5_method_1_code
def yX3_init : MethodName := ⟨RX3, "<init>", "()V"⟩
abbrev cX3_begin : ByteArray := prog_5_method_2_code
def yX3_begin : MethodName := ⟨RX3, "begin", "(LStepNets$Group;LStepNets$Group;[I[I)V"⟩
abbrev cX3_fits : ByteArray := prog_5_method_3_code
def yX3_fits : MethodName := ⟨RX3, "fits", "(II)Z"⟩
abbrev cX3_spread : ByteArray := prog_5_method_4_code
def yX3_spread : MethodName := ⟨RX3, "spread", "(I)Z"⟩
abbrev cX3_tryImage : ByteArray := prog_5_method_5_code
def yX3_tryImage : MethodName := ⟨RX3, "tryImage", "(II)Z"⟩
abbrev cX3_complete : ByteArray := prog_5_method_6_code
def yX3_complete : MethodName := ⟨RX3, "complete", "(I)Z"⟩
abbrev cX3_findFirst : ByteArray := prog_5_method_7_code
def yX3_findFirst : MethodName := ⟨RX3, "findFirst", "(LStepNets$Group;LStepNets$Group;[I)V"⟩
abbrev cX3_countOwn : ByteArray := prog_5_method_8_code
def yX3_countOwn : MethodName := ⟨RX3, "countOwn", "(LStepNets$Group;[I)I"⟩
def RX4 : String := "StepNets$History"
def TX4 : u_T := fun k => match k with
  | 0 => ("StepNets$History", "kept", "I", false)
  | 1 => ("StepNets$History", "next", "I", false)
  | 2 => ("StepNets$History", "slots", "[I", true)
  | 3 => ("StepNets$History", "groups", "[LStepNets$Group;", true)
  | _ => ("StepNets$History", "stepSets", "[I", true)
def tyX4 : Nat → FieldType := fun k => match k with
  | 0 => .int
  | 1 => .int
  | 2 => .array .int
  | 3 => .array (.object "StepNets$Group")
  | _ => .array .int
abbrev wsX40 : List Cond := u_ws RX4 TX4 5
theorem nmX4 : ∀ a, a < 5 → ∀ b, b < 5 → a ≠ b → (TX4 a).2.1 ≠ (TX4 b).2.1 := by decide +kernel
theorem tyX4_ok : ∀ k, k < 5 → parseFieldDescriptor (TX4 k).2.2.1 = some (tyX4 k) := by decide +kernel
abbrev cX4_init : ByteArray := prog_6_method_1_code
def yX4_init : MethodName := ⟨RX4, "<init>", "()V"⟩
abbrev cX4_keep : ByteArray := prog_6_method_2_code
def yX4_keep : MethodName := ⟨RX4, "keep", "(ILStepNets$Network;)V"⟩
abbrev cX4_stepBack : ByteArray := prog_6_method_3_code
def yX4_stepBack : MethodName := ⟨RX4, "stepBack", "()V"⟩
abbrev cX4_forget : ByteArray := prog_6_method_4_code
def yX4_forget : MethodName := ⟨RX4, "forget", "()V"⟩
abbrev cX4_slot : ByteArray := prog_6_method_5_code
def yX4_slot : MethodName := ⟨RX4, "slot", "()I"⟩
abbrev cX4_group : ByteArray := prog_6_method_6_code
def yX4_group : MethodName := ⟨RX4, "group", "()LStepNets$Group;"⟩
abbrev cX4_steps : ByteArray := prog_6_method_7_code
def yX4_steps : MethodName := ⟨RX4, "steps", "()I"⟩
def RX5 : String := "StepNets$Lexer"
def TX5 : u_T := fun k => match k with
  | 0 => ("StepNets$Lexer", "bytes", "[B", true)
  | 1 => ("StepNets$Lexer", "length", "I", false)
  | 2 => ("StepNets$Lexer", "start", "I", false)
  | 3 => ("StepNets$Lexer", "end", "I", false)
  | _ => ("StepNets$Lexer", "sort", "I", false)
def tyX5 : Nat → FieldType := fun k => match k with
  | 0 => .array .byte
  | 1 => .int
  | 2 => .int
  | 3 => .int
  | _ => .int
abbrev wsX50 : List Cond := u_ws RX5 TX5 5
theorem nmX5 : ∀ a, a < 5 → ∀ b, b < 5 → a ≠ b → (TX5 a).2.1 ≠ (TX5 b).2.1 := by decide +kernel
theorem tyX5_ok : ∀ k, k < 5 → parseFieldDescriptor (TX5 k).2.2.1 = some (tyX5 k) := by decide +kernel
abbrev cX5_init : ByteArray := prog_7_method_1_code
def yX5_init : MethodName := ⟨RX5, "<init>", "([B)V"⟩
abbrev cX5_begin : ByteArray := prog_7_method_2_code
def yX5_begin : MethodName := ⟨RX5, "begin", "(I)V"⟩
abbrev cX5_advance : ByteArray := prog_7_method_3_code
def yX5_advance : MethodName := ⟨RX5, "advance", "()V"⟩
abbrev cX5_goesOn : ByteArray := prog_7_method_4_code
def yX5_goesOn : MethodName := ⟨RX5, "goesOn", "(CC)Z"⟩
abbrev cX5_isWord : ByteArray := prog_7_method_5_code
def yX5_isWord : MethodName := ⟨RX5, "isWord", "(Ljava/lang/String;)Z"⟩
abbrev cX5_isSign : ByteArray := prog_7_method_6_code
def yX5_isSign : MethodName := ⟨RX5, "isSign", "(C)Z"⟩
abbrev cX5_number : ByteArray := prog_7_method_7_code
def yX5_number : MethodName := ⟨RX5, "number", "()I"⟩
abbrev cX5_row : ByteArray := prog_7_method_8_code
def yX5_row : MethodName := ⟨RX5, "row", "()I"⟩
def RX6 : String := "StepNets$Names"
def TX6 : u_T := fun k => match k with
  | 0 => ("StepNets$Names", "sizes", "[I", true)
  | 1 => ("StepNets$Names", "rows", "[I", true)
  | _ => ("StepNets$Names", "digits", "I", true)
def tyX6 : Nat → FieldType := fun k => match k with
  | 0 => .array .int
  | 1 => .array .int
  | _ => .int
abbrev wsX60 : List Cond := u_ws RX6 TX6 3
theorem nmX6 : ∀ a, a < 3 → ∀ b, b < 3 → a ≠ b → (TX6 a).2.1 ≠ (TX6 b).2.1 := by decide +kernel
theorem tyX6_ok : ∀ k, k < 3 → parseFieldDescriptor (TX6 k).2.2.1 = some (tyX6 k) := by decide +kernel
abbrev cX6_init : ByteArray := prog_8_method_1_code
def yX6_init : MethodName := ⟨RX6, "<init>", "([I[II)V"⟩
abbrev cX6_byteAt : ByteArray := prog_8_method_2_code
def yX6_byteAt : MethodName := ⟨RX6, "byteAt", "(II)I"⟩
abbrev cX6_byteOfNumbers : ByteArray := prog_8_method_3_code
def yX6_byteOfNumbers : MethodName := ⟨RX6, "byteOfNumbers", "(II)I"⟩
def RX7 : String := "StepNets$NetMatcher"
def TX7 : u_T := fun k => match k with
  | 0 => ("StepNets$NetMatcher", "from", "LStepNets$Colouring;", false)
  | 1 => ("StepNets$NetMatcher", "to", "LStepNets$Colouring;", false)
  | 2 => ("StepNets$NetMatcher", "order", "I", false)
  | 3 => ("StepNets$NetMatcher", "all", "I", false)
  | 4 => ("StepNets$NetMatcher", "partner", "[I", true)
  | 5 => ("StepNets$NetMatcher", "allowed", "[I", true)
  | 6 => ("StepNets$NetMatcher", "image", "[I", true)
  | _ => ("StepNets$NetMatcher", "inTurn", "Z", false)
def tyX7 : Nat → FieldType := fun k => match k with
  | 0 => .object "StepNets$Colouring"
  | 1 => .object "StepNets$Colouring"
  | 2 => .int
  | 3 => .int
  | 4 => .array .int
  | 5 => .array .int
  | 6 => .array .int
  | _ => .boolean
abbrev wsX70 : List Cond := u_ws RX7 TX7 8
theorem nmX7 : ∀ a, a < 8 → ∀ b, b < 8 → a ≠ b → (TX7 a).2.1 ≠ (TX7 b).2.1 := by decide +kernel
theorem tyX7_ok : ∀ k, k < 8 → parseFieldDescriptor (TX7 k).2.2.1 = some (tyX7 k) := by decide +kernel
abbrev cX7_init : ByteArray := prog_9_method_1_code
def yX7_init : MethodName := ⟨RX7, "<init>", "()V"⟩
abbrev cX7_begin : ByteArray := prog_9_method_2_code
def yX7_begin : MethodName := ⟨RX7, "begin", "(LStepNets$Colouring;LStepNets$Colouring;)Z"⟩
abbrev cX7_fits : ByteArray := prog_9_method_3_code
def yX7_fits : MethodName := ⟨RX7, "fits", "(LStepNets$Colouring;LStepNets$Colouring;)Z"⟩
abbrev cX7_lead : ByteArray := prog_9_method_4_code
def yX7_lead : MethodName := ⟨RX7, "lead", "(III)Z"⟩
abbrev cX7_complete : ByteArray := prog_9_method_5_code
def yX7_complete : MethodName := ⟨RX7, "complete", "(II)Z"⟩
abbrev cX7_pick : ByteArray := prog_9_method_6_code
def yX7_pick : MethodName := ⟨RX7, "pick", "(II)I"⟩
abbrev cX7_isMatch : ByteArray := prog_9_method_7_code
def yX7_isMatch : MethodName := ⟨RX7, "isMatch", "(LStepNets$Colouring;LStepNets$Colouring;)Z"⟩
abbrev cX7_findFirst : ByteArray := prog_9_method_8_code
def yX7_findFirst : MethodName := ⟨RX7, "findFirst", "(LStepNets$Network;LStepNets$Network;[I)V"⟩
abbrev cX7_countStaying : ByteArray := prog_9_method_9_code
def yX7_countStaying : MethodName := ⟨RX7, "countStaying", "(LStepNets$Colouring;[I)J"⟩
abbrev cX7_chain : ByteArray := prog_9_method_10_code
def yX7_chain : MethodName := ⟨RX7, "chain", "(II[I)J"⟩
abbrev cX7_joinOrbits : ByteArray := prog_9_method_11_code
def yX7_joinOrbits : MethodName := ⟨RX7, "joinOrbits", "([I)V"⟩
def RX8 : String := "StepNets$Network"
def TX8 : u_T := fun k => match k with
  | 0 => ("StepNets$Network", "group", "LStepNets$Group;", false)
  | 1 => ("StepNets$Network", "steps", "I", false)
  | 2 => ("StepNets$Network", "staying", "J", false)
  | 3 => ("StepNets$Network", "own", "I", false)
  | 4 => ("StepNets$Network", "orbits", "[I", true)
  | 5 => ("StepNets$Network", "out", "[I", true)
  | 6 => ("StepNets$Network", "depth", "[I", true)
  | 7 => ("StepNets$Network", "greatest", "I", false)
  | 8 => ("StepNets$Network", "measured", "Z", false)
  | 9 => ("StepNets$Network", "isPainted", "Z", false)
  | _ => ("StepNets$Network", "colouring", "LStepNets$Colouring;", true)
def tyX8 : Nat → FieldType := fun k => match k with
  | 0 => .object "StepNets$Group"
  | 1 => .int
  | 2 => .long
  | 3 => .int
  | 4 => .array .int
  | 5 => .array .int
  | 6 => .array .int
  | 7 => .int
  | 8 => .boolean
  | 9 => .boolean
  | _ => .object "StepNets$Colouring"
abbrev wsX80 : List Cond := u_ws RX8 TX8 11
theorem nmX8 : ∀ a, a < 11 → ∀ b, b < 11 → a ≠ b → (TX8 a).2.1 ≠ (TX8 b).2.1 := by decide +kernel
theorem tyX8_ok : ∀ k, k < 11 → parseFieldDescriptor (TX8 k).2.2.1 = some (tyX8 k) := by decide +kernel
abbrev cX8_init : ByteArray := prog_10_method_1_code
def yX8_init : MethodName := ⟨RX8, "<init>", "(LStepNets$Group;)V"⟩
abbrev cX8_become : ByteArray := prog_10_method_2_code
def yX8_become : MethodName := ⟨RX8, "become", "(LStepNets$Group;I)V"⟩
abbrev cX8_painted : ByteArray := prog_10_method_3_code
def yX8_painted : MethodName := ⟨RX8, "painted", "()LStepNets$Colouring;"⟩
abbrev cX8_measure : ByteArray := prog_10_method_4_code
def yX8_measure : MethodName := ⟨RX8, "measure", "()V"⟩
abbrev cX8_along : ByteArray := prog_10_method_5_code
def yX8_along : MethodName := ⟨RX8, "along", "(I)I"⟩
abbrev cX8_distance : ByteArray := prog_10_method_6_code
def yX8_distance : MethodName := ⟨RX8, "distance", "(II)I"⟩
abbrev cX8_deepest : ByteArray := prog_10_method_7_code
def yX8_deepest : MethodName := ⟨RX8, "deepest", "()I"⟩
abbrev cX8_pointsAt : ByteArray := prog_10_method_8_code
def yX8_pointsAt : MethodName := ⟨RX8, "pointsAt", "(I)I"⟩
abbrev cX8_stepOfWay : ByteArray := prog_10_method_9_code
def yX8_stepOfWay : MethodName := ⟨RX8, "stepOfWay", "(II)I"⟩
abbrev cX8_firstStepTowards : ByteArray := prog_10_method_10_code
def yX8_firstStepTowards : MethodName := ⟨RX8, "firstStepTowards", "(II)I"⟩
abbrev cX8_shortestRing : ByteArray := prog_10_method_11_code
def yX8_shortestRing : MethodName := ⟨RX8, "shortestRing", "()I"⟩
abbrev cX8_ringThrough : ByteArray := prog_10_method_12_code
def yX8_ringThrough : MethodName := ⟨RX8, "ringThrough", "(II)I"⟩
abbrev cX8_arcsAlike : ByteArray := prog_10_method_13_code
def yX8_arcsAlike : MethodName := ⟨RX8, "arcsAlike", "()Z"⟩
abbrev cX8_farAlike : ByteArray := prog_10_method_14_code
def yX8_farAlike : MethodName := ⟨RX8, "farAlike", "()Z"⟩
def RX9 : String := "StepNets$OtherFinder"
def TX9 : u_T := fun k => match k with
  | 0 => ("StepNets$OtherFinder", "chosen", "[I", true)
  | 1 => ("StepNets$OtherFinder", "many", "I", false)
  | 2 => ("StepNets$OtherFinder", "walks", "[I", true)
  | 3 => ("StepNets$OtherFinder", "longer", "[I", true)
  | 4 => ("StepNets$OtherFinder", "traces", "[I", true)
  | _ => ("StepNets$OtherFinder", "colouring", "LStepNets$Colouring;", true)
def tyX9 : Nat → FieldType := fun k => match k with
  | 0 => .array .int
  | 1 => .int
  | 2 => .array .int
  | 3 => .array .int
  | 4 => .array .int
  | _ => .object "StepNets$Colouring"
abbrev wsX90 : List Cond := u_ws RX9 TX9 6
theorem nmX9 : ∀ a, a < 6 → ∀ b, b < 6 → a ≠ b → (TX9 a).2.1 ≠ (TX9 b).2.1 := by decide +kernel
theorem tyX9_ok : ∀ k, k < 6 → parseFieldDescriptor (TX9 k).2.2.1 = some (tyX9 k) := by decide +kernel
abbrev cX9_init : ByteArray := prog_11_method_1_code
def yX9_init : MethodName := ⟨RX9, "<init>", "()V"⟩
abbrev cX9_leastSet : ByteArray := prog_11_method_2_code
def yX9_leastSet : MethodName := ⟨RX9, "leastSet", "(LStepNets$Network;LStepNets$Group;LStepNets$NetMatcher;)I"⟩
abbrev cX9_isWanted : ByteArray := prog_11_method_3_code
def yX9_isWanted : MethodName := ⟨RX9, "isWanted", "(LStepNets$Colouring;LStepNets$Group;LStepNets$NetMatcher;)Z"⟩
abbrev cX9_chooseOf : ByteArray := prog_11_method_4_code
def yX9_chooseOf : MethodName := ⟨RX9, "chooseOf", "(LStepNets$Network;)V"⟩
abbrev cX9_chosenSet : ByteArray := prog_11_method_5_code
def yX9_chosenSet : MethodName := ⟨RX9, "chosenSet", "()I"⟩
abbrev cX9_chooseNext : ByteArray := prog_11_method_6_code
def yX9_chooseNext : MethodName := ⟨RX9, "chooseNext", "()V"⟩
abbrev cX9_shortWalks : ByteArray := prog_11_method_7_code
def yX9_shortWalks : MethodName := ⟨RX9, "shortWalks", "(LStepNets$Group;)J"⟩
abbrev cX9_longWalks : ByteArray := prog_11_method_8_code
def yX9_longWalks : MethodName := ⟨RX9, "longWalks", "(LStepNets$Group;)I"⟩
def RX10 : String := "StepNets$TextReader"
def TX10 : u_T := fun k => match k with
  | 0 => ("StepNets$TextReader", "faultFound", "I", false)
  | 1 => ("StepNets$TextReader", "faultPlace", "I", false)
  | 2 => ("StepNets$TextReader", "group", "LStepNets$Group;", false)
  | 3 => ("StepNets$TextReader", "steps", "I", false)
  | 4 => ("StepNets$TextReader", "groupMayCome", "Z", false)
  | 5 => ("StepNets$TextReader", "lexer", "LStepNets$Lexer;", true)
  | _ => ("StepNets$TextReader", "builder", "LStepNets$GroupBuilder;", true)
def tyX10 : Nat → FieldType := fun k => match k with
  | 0 => .int
  | 1 => .int
  | 2 => .object "StepNets$Group"
  | 3 => .int
  | 4 => .boolean
  | 5 => .object "StepNets$Lexer"
  | _ => .object "StepNets$GroupBuilder"
abbrev wsX100 : List Cond := u_ws RX10 TX10 7
theorem nmX10 : ∀ a, a < 7 → ∀ b, b < 7 → a ≠ b → (TX10 a).2.1 ≠ (TX10 b).2.1 := by decide +kernel
theorem tyX10_ok : ∀ k, k < 7 → parseFieldDescriptor (TX10 k).2.2.1 = some (tyX10 k) := by decide +kernel
abbrev cX10_init : ByteArray := prog_12_method_1_code
def yX10_init : MethodName := ⟨RX10, "<init>", "([B)V"⟩
abbrev cX10_readText : ByteArray := prog_12_method_2_code
def yX10_readText : MethodName := ⟨RX10, "readText", "(ILStepNets$Group;I)V"⟩
abbrev cX10_fail : ByteArray := prog_12_method_3_code
def yX10_fail : MethodName := ⟨RX10, "fail", "(II)Z"⟩
abbrev cX10_take : ByteArray := prog_12_method_4_code
def yX10_take : MethodName := ⟨RX10, "take", "(Z)Z"⟩
abbrev cX10_readLine : ByteArray := prog_12_method_5_code
def yX10_readLine : MethodName := ⟨RX10, "readLine", "()Z"⟩
abbrev cX10_readSteps : ByteArray := prog_12_method_6_code
def yX10_readSteps : MethodName := ⟨RX10, "readSteps", "()Z"⟩
abbrev cX10_readFactors : ByteArray := prog_12_method_7_code
def yX10_readFactors : MethodName := ⟨RX10, "readFactors", "()Z"⟩
abbrev cX10_readFactor : ByteArray := prog_12_method_8_code
def yX10_readFactor : MethodName := ⟨RX10, "readFactor", "()Z"⟩
abbrev cX10_factorLetter : ByteArray := prog_12_method_9_code
def yX10_factorLetter : MethodName := ⟨RX10, "factorLetter", "()I"⟩
abbrev cX10_leastOf : ByteArray := prog_12_method_10_code
def yX10_leastOf : MethodName := ⟨RX10, "leastOf", "(I)I"⟩
abbrev cX10_mostOf : ByteArray := prog_12_method_11_code
def yX10_mostOf : MethodName := ⟨RX10, "mostOf", "(I)I"⟩
abbrev cX10_readRows : ByteArray := prog_12_method_12_code
def yX10_readRows : MethodName := ⟨RX10, "readRows", "(I)Z"⟩
def RX11 : String := "StepNets"
def TX11 : u_T := fun k => match k with
  | 0 => ("StepNets", "tape", "[B", true)
  | 1 => ("StepNets", "tapeLength", "I", false)
  | 2 => ("StepNets", "reader", "LStepNets$TextReader;", true)
  | 3 => ("StepNets", "latestFault", "I", false)
  | 4 => ("StepNets", "latestPlace", "I", false)
  | 5 => ("StepNets", "nets", "[LStepNets$Network;", true)
  | 6 => ("StepNets", "history", "LStepNets$History;", true)
  | 7 => ("StepNets", "groupMatcher", "LStepNets$GroupMatcher;", true)
  | 8 => ("StepNets", "netMatcher", "LStepNets$NetMatcher;", true)
  | 9 => ("StepNets", "otherFinder", "LStepNets$OtherFinder;", true)
  | 10 => ("StepNets", "mappedRow", "[I", true)
  | 11 => ("StepNets", "alikeRow", "[I", true)
  | 12 => ("StepNets", "otherSet", "I", false)
  | 13 => ("StepNets", "mappedKnown", "Z", false)
  | 14 => ("StepNets", "alikeKnown", "Z", false)
  | _ => ("StepNets", "otherKnown", "Z", false)
def tyX11 : Nat → FieldType := fun k => match k with
  | 0 => .array .byte
  | 1 => .int
  | 2 => .object "StepNets$TextReader"
  | 3 => .int
  | 4 => .int
  | 5 => .array (.object "StepNets$Network")
  | 6 => .object "StepNets$History"
  | 7 => .object "StepNets$GroupMatcher"
  | 8 => .object "StepNets$NetMatcher"
  | 9 => .object "StepNets$OtherFinder"
  | 10 => .array .int
  | 11 => .array .int
  | 12 => .int
  | 13 => .boolean
  | 14 => .boolean
  | _ => .boolean
abbrev wsX110 : List Cond := u_ws RX11 TX11 16
theorem nmX11 : ∀ a, a < 16 → ∀ b, b < 16 → a ≠ b → (TX11 a).2.1 ≠ (TX11 b).2.1 := by decide +kernel
theorem tyX11_ok : ∀ k, k < 16 → parseFieldDescriptor (TX11 k).2.2.1 = some (tyX11 k) := by decide +kernel
abbrev cX11_init : ByteArray := prog_1_method_1_code
def yX11_init : MethodName := ⟨RX11, "<init>", "()V"⟩
abbrev cX11_feed : ByteArray := prog_1_method_2_code
def yX11_feed : MethodName := ⟨RX11, "feed", "(IIIII)I"⟩
abbrev cX11_putOnTape : ByteArray := prog_1_method_3_code
def yX11_putOnTape : MethodName := ⟨RX11, "putOnTape", "(I)V"⟩
abbrev cX11_tell : ByteArray := prog_1_method_4_code
def yX11_tell : MethodName := ⟨RX11, "tell", "(II)I"⟩
abbrev cX11_fault : ByteArray := prog_1_method_5_code
def yX11_fault : MethodName := ⟨RX11, "fault", "(I)I"⟩
abbrev cX11_step : ByteArray := prog_1_method_6_code
def yX11_step : MethodName := ⟨RX11, "step", "(II)I"⟩
abbrev cX11_both : ByteArray := prog_1_method_7_code
def yX11_both : MethodName := ⟨RX11, "both", "(I)I"⟩
abbrev cX11_quotient : ByteArray := prog_1_method_8_code
def yX11_quotient : MethodName := ⟨RX11, "quotient", "(II)I"⟩
abbrev cX11_undo : ByteArray := prog_1_method_9_code
def yX11_undo : MethodName := ⟨RX11, "undo", "()I"⟩
abbrev cX11_become : ByteArray := prog_1_method_10_code
def yX11_become : MethodName := ⟨RX11, "become", "(ILStepNets$Group;I)V"⟩
abbrev cX11_size : ByteArray := prog_1_method_11_code
def yX11_size : MethodName := ⟨RX11, "size", "(II)I"⟩
abbrev cX11_product : ByteArray := prog_1_method_12_code
def yX11_product : MethodName := ⟨RX11, "product", "(III)I"⟩
abbrev cX11_element : ByteArray := prog_1_method_13_code
def yX11_element : MethodName := ⟨RX11, "element", "(III)I"⟩
abbrev cX11_classOf : ByteArray := prog_1_method_14_code
def yX11_classOf : MethodName := ⟨RX11, "classOf", "(II)I"⟩
abbrev cX11_generated : ByteArray := prog_1_method_15_code
def yX11_generated : MethodName := ⟨RX11, "generated", "(II)I"⟩
abbrev cX11_subgroup : ByteArray := prog_1_method_16_code
def yX11_subgroup : MethodName := ⟨RX11, "subgroup", "(II)I"⟩
abbrev cX11_kind : ByteArray := prog_1_method_17_code
def yX11_kind : MethodName := ⟨RX11, "kind", "(II)I"⟩
abbrev cX11_maps : ByteArray := prog_1_method_18_code
def yX11_maps : MethodName := ⟨RX11, "maps", "(I)I"⟩
abbrev cX11_mapped : ByteArray := prog_1_method_19_code
def yX11_mapped : MethodName := ⟨RX11, "mapped", "(I)I"⟩
abbrev cX11_far : ByteArray := prog_1_method_20_code
def yX11_far : MethodName := ⟨RX11, "far", "(III)I"⟩
abbrev cX11_sphere : ByteArray := prog_1_method_21_code
def yX11_sphere : MethodName := ⟨RX11, "sphere", "(II)I"⟩
abbrev cX11_way : ByteArray := prog_1_method_22_code
def yX11_way : MethodName := ⟨RX11, "way", "(III)I"⟩
abbrev cX11_ring : ByteArray := prog_1_method_23_code
def yX11_ring : MethodName := ⟨RX11, "ring", "(I)I"⟩
abbrev cX11_parts : ByteArray := prog_1_method_24_code
def yX11_parts : MethodName := ⟨RX11, "parts", "(I)I"⟩
abbrev cX11_symmetries : ByteArray := prog_1_method_25_code
def yX11_symmetries : MethodName := ⟨RX11, "symmetries", "(I)J"⟩
abbrev cX11_alikeTo : ByteArray := prog_1_method_26_code
def yX11_alikeTo : MethodName := ⟨RX11, "alikeTo", "(II)I"⟩
abbrev cX11_regular : ByteArray := prog_1_method_27_code
def yX11_regular : MethodName := ⟨RX11, "regular", "(II)I"⟩
abbrev cX11_alike : ByteArray := prog_1_method_28_code
def yX11_alike : MethodName := ⟨RX11, "alike", "(I)I"⟩
abbrev cX11_other : ByteArray := prog_1_method_29_code
def yX11_other : MethodName := ⟨RX11, "other", "()I"⟩
abbrev cX11_solved : ByteArray := prog_1_method_30_code
def yX11_solved : MethodName := ⟨RX11, "solved", "(I)LStepNets$Network;"⟩
abbrev cX11_ownCount : ByteArray := prog_1_method_31_code
def yX11_ownCount : MethodName := ⟨RX11, "ownCount", "(I)I"⟩
abbrev cX11_name : ByteArray := prog_1_method_32_code
def yX11_name : MethodName := ⟨RX11, "name", "(III)I"⟩
abbrev cX11_count : ByteArray := prog_1_method_33_code
def yX11_count : MethodName := ⟨RX11, "count", "(I)I"⟩
abbrev cX11_isSlot : ByteArray := prog_1_method_34_code
def yX11_isSlot : MethodName := ⟨RX11, "isSlot", "(I)Z"⟩
abbrev cX11_isElement : ByteArray := prog_1_method_35_code
def yX11_isElement : MethodName := ⟨RX11, "isElement", "(II)Z"⟩
abbrev cX11_firstThen : ByteArray := prog_1_method_36_code
def yX11_firstThen : MethodName := ⟨RX11, "firstThen", "(III)I"⟩
abbrev cX11_indexOf : ByteArray := prog_1_method_37_code
def yX11_indexOf : MethodName := ⟨RX11, "indexOf", "([III)I"⟩
def RX12 : String := "StepNetsModel"
def TX12 : u_T := fun k => match k with
  | 0 => ("StepNetsModel", "at", "[I", true)
  | 1 => ("StepNetsModel", "thrown", "I", false)
  | 2 => ("StepNetsModel", "tape", "[B", true)
  | 3 => ("StepNetsModel", "taped", "I", false)
  | 4 => ("StepNetsModel", "size", "I", false)
  | 5 => ("StepNetsModel", "spot", "I", false)
  | 6 => ("StepNetsModel", "wrong", "I", false)
  | 7 => ("StepNetsModel", "wrongAt", "I", false)
  | 8 => ("StepNetsModel", "sort", "I", false)
  | 9 => ("StepNetsModel", "by", "I", false)
  | 10 => ("StepNetsModel", "even", "[I", true)
  | 11 => ("StepNetsModel", "evenMany", "I", false)
  | 12 => ("StepNetsModel", "wide", "[I", true)
  | 13 => ("StepNetsModel", "told", "[I", true)
  | 14 => ("StepNetsModel", "toldMany", "I", false)
  | 15 => ("StepNetsModel", "digits", "I", false)
  | 16 => ("StepNetsModel", "row", "[I", true)
  | 17 => ("StepNetsModel", "isLaid", "Z", false)
  | 18 => ("StepNetsModel", "acts", "[I", true)
  | 19 => ("StepNetsModel", "actMany", "I", false)
  | 20 => ("StepNetsModel", "numbered", "[I", true)
  | 21 => ("StepNetsModel", "leastOf", "[I", true)
  | 22 => ("StepNetsModel", "subgroups", "[I", true)
  | 23 => ("StepNetsModel", "subgroupMany", "I", false)
  | 24 => ("StepNetsModel", "image", "[I", true)
  | 25 => ("StepNetsModel", "mapFirst", "[I", true)
  | 26 => ("StepNetsModel", "mapMany", "I", false)
  | 27 => ("StepNetsModel", "mapOwn", "I", false)
  | 28 => ("StepNetsModel", "isFirstOnly", "Z", false)
  | 29 => ("StepNetsModel", "far", "[I", true)
  | 30 => ("StepNetsModel", "line", "[I", true)
  | 31 => ("StepNetsModel", "led", "[I", true)
  | 32 => ("StepNetsModel", "fars", "[I", true)
  | 33 => ("StepNetsModel", "ledSet", "I", false)
  | 34 => ("StepNetsModel", "pinned", "I", false)
  | _ => ("StepNetsModel", "pinnedTo", "I", false)
def tyX12 : Nat → FieldType := fun k => match k with
  | 0 => .array .int
  | 1 => .int
  | 2 => .array .byte
  | 3 => .int
  | 4 => .int
  | 5 => .int
  | 6 => .int
  | 7 => .int
  | 8 => .int
  | 9 => .int
  | 10 => .array .int
  | 11 => .int
  | 12 => .array .int
  | 13 => .array .int
  | 14 => .int
  | 15 => .int
  | 16 => .array .int
  | 17 => .boolean
  | 18 => .array .int
  | 19 => .int
  | 20 => .array .int
  | 21 => .array .int
  | 22 => .array .int
  | 23 => .int
  | 24 => .array .int
  | 25 => .array .int
  | 26 => .int
  | 27 => .int
  | 28 => .boolean
  | 29 => .array .int
  | 30 => .array .int
  | 31 => .array .int
  | 32 => .array .int
  | 33 => .int
  | 34 => .int
  | _ => .int
abbrev wsX120 : List Cond := u_ws RX12 TX12 36
theorem nmX12 : ∀ a, a < 36 → ∀ b, b < 36 → a ≠ b → (TX12 a).2.1 ≠ (TX12 b).2.1 := by decide +kernel
theorem tyX12_ok : ∀ k, k < 36 → parseFieldDescriptor (TX12 k).2.2.1 = some (tyX12 k) := by decide +kernel
abbrev cX12_isIn : ByteArray := prog_14_method_2_code
def yX12_isIn : MethodName := ⟨RX12, "isIn", "(JJJ)Z"⟩
abbrev cX12_init : ByteArray := prog_14_method_3_code
def yX12_init : MethodName := ⟨RX12, "<init>", "()V"⟩
abbrev cX12_copies : ByteArray := prog_14_method_4_code
def yX12_copies : MethodName := ⟨RX12, "copies", "([II[II)V"⟩
abbrev cX12_feed : ByteArray := prog_14_method_5_code
def yX12_feed : MethodName := ⟨RX12, "feed", "(IIIII)I"⟩
abbrev cX12_peek : ByteArray := prog_14_method_6_code
def yX12_peek : MethodName := ⟨RX12, "peek", "()I"⟩
abbrev cX12_fails : ByteArray := prog_14_method_7_code
def yX12_fails : MethodName := ⟨RX12, "fails", "(II)V"⟩
abbrev cX12_isLetter : ByteArray := prog_14_method_8_code
def yX12_isLetter : MethodName := ⟨RX12, "isLetter", "(I)Z"⟩
abbrev cX12_isDigit : ByteArray := prog_14_method_9_code
def yX12_isDigit : MethodName := ⟨RX12, "isDigit", "(I)Z"⟩
abbrev cX12_wordHere : ByteArray := prog_14_method_10_code
def yX12_wordHere : MethodName := ⟨RX12, "wordHere", "()I"⟩
abbrev cX12_passesWord : ByteArray := prog_14_method_11_code
def yX12_passesWord : MethodName := ⟨RX12, "passesWord", "()V"⟩
abbrev cX12_must : ByteArray := prog_14_method_12_code
def yX12_must : MethodName := ⟨RX12, "must", "(I)V"⟩
abbrev cX12_numeral : ByteArray := prog_14_method_13_code
def yX12_numeral : MethodName := ⟨RX12, "numeral", "(II)I"⟩
abbrev cX12_sizeOfFactor : ByteArray := prog_14_method_14_code
def yX12_sizeOfFactor : MethodName := ⟨RX12, "sizeOfFactor", "()I"⟩
abbrev cX12_laysEven : ByteArray := prog_14_method_15_code
def yX12_laysEven : MethodName := ⟨RX12, "laysEven", "()V"⟩
abbrev cX12_imageOf : ByteArray := prog_14_method_16_code
def yX12_imageOf : MethodName := ⟨RX12, "imageOf", "(II)I"⟩
abbrev cX12_evenProduct : ByteArray := prog_14_method_17_code
def yX12_evenProduct : MethodName := ⟨RX12, "evenProduct", "(II)I"⟩
abbrev cX12_factorProduct : ByteArray := prog_14_method_18_code
def yX12_factorProduct : MethodName := ⟨RX12, "factorProduct", "(II)I"⟩
abbrev cX12_factorRead : ByteArray := prog_14_method_19_code
def yX12_factorRead : MethodName := ⟨RX12, "factorRead", "()V"⟩
abbrev cX12_begins : ByteArray := prog_14_method_20_code
def yX12_begins : MethodName := ⟨RX12, "begins", "(I)V"⟩
abbrev cX12_base : ByteArray := prog_14_method_21_code
def yX12_base : MethodName := ⟨RX12, "base", "()V"⟩
abbrev cX12_groupRead : ByteArray := prog_14_method_22_code
def yX12_groupRead : MethodName := ⟨RX12, "groupRead", "()V"⟩
abbrev cX12_rowRead : ByteArray := prog_14_method_23_code
def yX12_rowRead : MethodName := ⟨RX12, "rowRead", "()V"⟩
abbrev cX12_findRow : ByteArray := prog_14_method_24_code
def yX12_findRow : MethodName := ⟨RX12, "findRow", "([I)I"⟩
abbrev cX12_isRow : ByteArray := prog_14_method_25_code
def yX12_isRow : MethodName := ⟨RX12, "isRow", "(I[I)Z"⟩
abbrev cX12_permsRead : ByteArray := prog_14_method_26_code
def yX12_permsRead : MethodName := ⟨RX12, "permsRead", "(I)V"⟩
abbrev cX12_stepsRead : ByteArray := prog_14_method_27_code
def yX12_stepsRead : MethodName := ⟨RX12, "stepsRead", "()V"⟩
abbrev cX12_lineRead : ByteArray := prog_14_method_28_code
def yX12_lineRead : MethodName := ⟨RX12, "lineRead", "()V"⟩
abbrev cX12_tell : ByteArray := prog_14_method_29_code
def yX12_tell : MethodName := ⟨RX12, "tell", "(II)I"⟩
abbrev cX12_fault : ByteArray := prog_14_method_30_code
def yX12_fault : MethodName := ⟨RX12, "fault", "(I)I"⟩
abbrev cX12_keeps : ByteArray := prog_14_method_31_code
def yX12_keeps : MethodName := ⟨RX12, "keeps", "(I)V"⟩
abbrev cX12_isSlot : ByteArray := prog_14_method_32_code
def yX12_isSlot : MethodName := ⟨RX12, "isSlot", "(I)Z"⟩
abbrev cX12_many : ByteArray := prog_14_method_33_code
def yX12_many : MethodName := ⟨RX12, "many", "(I)I"⟩
abbrev cX12_steps : ByteArray := prog_14_method_34_code
def yX12_steps : MethodName := ⟨RX12, "steps", "(I)I"⟩
abbrev cX12_isElement : ByteArray := prog_14_method_35_code
def yX12_isElement : MethodName := ⟨RX12, "isElement", "(II)Z"⟩
abbrev cX12_isSet : ByteArray := prog_14_method_36_code
def yX12_isSet : MethodName := ⟨RX12, "isSet", "(II)Z"⟩
abbrev cX12_has : ByteArray := prog_14_method_37_code
def yX12_has : MethodName := ⟨RX12, "has", "(II)Z"⟩
abbrev cX12_productAt : ByteArray := prog_14_method_38_code
def yX12_productAt : MethodName := ⟨RX12, "productAt", "(III)I"⟩
abbrev cX12_times : ByteArray := prog_14_method_39_code
def yX12_times : MethodName := ⟨RX12, "times", "(III)I"⟩
abbrev cX12_inverse : ByteArray := prog_14_method_40_code
def yX12_inverse : MethodName := ⟨RX12, "inverse", "(II)I"⟩
abbrev cX12_undoing : ByteArray := prog_14_method_41_code
def yX12_undoing : MethodName := ⟨RX12, "undoing", "(II)I"⟩
abbrev cX12_step : ByteArray := prog_14_method_42_code
def yX12_step : MethodName := ⟨RX12, "step", "(II)I"⟩
abbrev cX12_bits : ByteArray := prog_14_method_43_code
def yX12_bits : MethodName := ⟨RX12, "bits", "(I)I"⟩
abbrev cX12_both : ByteArray := prog_14_method_44_code
def yX12_both : MethodName := ⟨RX12, "both", "(I)I"⟩
abbrev cX12_products : ByteArray := prog_14_method_45_code
def yX12_products : MethodName := ⟨RX12, "products", "(III)I"⟩
abbrev cX12_subgroupOf : ByteArray := prog_14_method_46_code
def yX12_subgroupOf : MethodName := ⟨RX12, "subgroupOf", "(II)I"⟩
abbrev cX12_classBits : ByteArray := prog_14_method_47_code
def yX12_classBits : MethodName := ⟨RX12, "classBits", "(II)I"⟩
abbrev cX12_kindOf : ByteArray := prog_14_method_48_code
def yX12_kindOf : MethodName := ⟨RX12, "kindOf", "(II)I"⟩
abbrev cX12_quotient : ByteArray := prog_14_method_49_code
def yX12_quotient : MethodName := ⟨RX12, "quotient", "(II)I"⟩
abbrev cX12_undo : ByteArray := prog_14_method_50_code
def yX12_undo : MethodName := ⟨RX12, "undo", "()I"⟩
abbrev cX12_periodOf : ByteArray := prog_14_method_51_code
def yX12_periodOf : MethodName := ⟨RX12, "periodOf", "(II)I"⟩
abbrev cX12_common : ByteArray := prog_14_method_52_code
def yX12_common : MethodName := ⟨RX12, "common", "(II)I"⟩
abbrev cX12_centre : ByteArray := prog_14_method_53_code
def yX12_centre : MethodName := ⟨RX12, "centre", "(I)I"⟩
abbrev cX12_classes : ByteArray := prog_14_method_54_code
def yX12_classes : MethodName := ⟨RX12, "classes", "(I)I"⟩
abbrev cX12_derived : ByteArray := prog_14_method_55_code
def yX12_derived : MethodName := ⟨RX12, "derived", "(I)I"⟩
abbrev cX12_comes : ByteArray := prog_14_method_56_code
def yX12_comes : MethodName := ⟨RX12, "comes", "(I)V"⟩
abbrev cX12_laysSubgroups : ByteArray := prog_14_method_57_code
def yX12_laysSubgroups : MethodName := ⟨RX12, "laysSubgroups", "(I)V"⟩
abbrev cX12_size : ByteArray := prog_14_method_58_code
def yX12_size : MethodName := ⟨RX12, "size", "(II)I"⟩
abbrev cX12_product : ByteArray := prog_14_method_59_code
def yX12_product : MethodName := ⟨RX12, "product", "(III)I"⟩
abbrev cX12_element : ByteArray := prog_14_method_60_code
def yX12_element : MethodName := ⟨RX12, "element", "(III)I"⟩
abbrev cX12_classOf : ByteArray := prog_14_method_61_code
def yX12_classOf : MethodName := ⟨RX12, "classOf", "(II)I"⟩
abbrev cX12_generated : ByteArray := prog_14_method_62_code
def yX12_generated : MethodName := ⟨RX12, "generated", "(II)I"⟩
abbrev cX12_subgroup : ByteArray := prog_14_method_63_code
def yX12_subgroup : MethodName := ⟨RX12, "subgroup", "(II)I"⟩
abbrev cX12_kind : ByteArray := prog_14_method_64_code
def yX12_kind : MethodName := ⟨RX12, "kind", "(II)I"⟩
abbrev cX12_follows : ByteArray := prog_14_method_65_code
def yX12_follows : MethodName := ⟨RX12, "follows", "(IIIII)Z"⟩
abbrev cX12_goesMaps : ByteArray := prog_14_method_66_code
def yX12_goesMaps : MethodName := ⟨RX12, "goesMaps", "(III)V"⟩
abbrev cX12_laysMaps : ByteArray := prog_14_method_67_code
def yX12_laysMaps : MethodName := ⟨RX12, "laysMaps", "(IIZ)V"⟩
abbrev cX12_maps : ByteArray := prog_14_method_68_code
def yX12_maps : MethodName := ⟨RX12, "maps", "(I)I"⟩
abbrev cX12_mapped : ByteArray := prog_14_method_69_code
def yX12_mapped : MethodName := ⟨RX12, "mapped", "(I)I"⟩
abbrev cX12_laysFar : ByteArray := prog_14_method_70_code
def yX12_laysFar : MethodName := ⟨RX12, "laysFar", "(III)V"⟩
abbrev cX12_farOf : ByteArray := prog_14_method_71_code
def yX12_farOf : MethodName := ⟨RX12, "farOf", "(IIII)I"⟩
abbrev cX12_far : ByteArray := prog_14_method_72_code
def yX12_far : MethodName := ⟨RX12, "far", "(III)I"⟩
abbrev cX12_sphere : ByteArray := prog_14_method_73_code
def yX12_sphere : MethodName := ⟨RX12, "sphere", "(II)I"⟩
abbrev cX12_way : ByteArray := prog_14_method_74_code
def yX12_way : MethodName := ⟨RX12, "way", "(III)I"⟩
abbrev cX12_back : ByteArray := prog_14_method_75_code
def yX12_back : MethodName := ⟨RX12, "back", "(II)I"⟩
abbrev cX12_ring : ByteArray := prog_14_method_76_code
def yX12_ring : MethodName := ⟨RX12, "ring", "(I)I"⟩
abbrev cX12_parts : ByteArray := prog_14_method_77_code
def yX12_parts : MethodName := ⟨RX12, "parts", "(I)I"⟩
abbrev cX12_laysFars : ByteArray := prog_14_method_78_code
def yX12_laysFars : MethodName := ⟨RX12, "laysFars", "(III)V"⟩
abbrev cX12_mayLead : ByteArray := prog_14_method_79_code
def yX12_mayLead : MethodName := ⟨RX12, "mayLead", "(II)Z"⟩
abbrev cX12_goesOn : ByteArray := prog_14_method_80_code
def yX12_goesOn : MethodName := ⟨RX12, "goesOn", "(II)Z"⟩
abbrev cX12_canLead : ByteArray := prog_14_method_81_code
def yX12_canLead : MethodName := ⟨RX12, "canLead", "(III)Z"⟩
abbrev cX12_laysSame : ByteArray := prog_14_method_82_code
def yX12_laysSame : MethodName := ⟨RX12, "laysSame", "(I)V"⟩
abbrev cX12_staying : ByteArray := prog_14_method_83_code
def yX12_staying : MethodName := ⟨RX12, "staying", "(I)J"⟩
abbrev cX12_symmetries : ByteArray := prog_14_method_84_code
def yX12_symmetries : MethodName := ⟨RX12, "symmetries", "(I)J"⟩
abbrev cX12_fitsPin : ByteArray := prog_14_method_85_code
def yX12_fitsPin : MethodName := ⟨RX12, "fitsPin", "(II)Z"⟩
abbrev cX12_goesPinned : ByteArray := prog_14_method_86_code
def yX12_goesPinned : MethodName := ⟨RX12, "goesPinned", "(II)Z"⟩
abbrev cX12_alikeBits : ByteArray := prog_14_method_87_code
def yX12_alikeBits : MethodName := ⟨RX12, "alikeBits", "(II)I"⟩
abbrev cX12_alikeTo : ByteArray := prog_14_method_88_code
def yX12_alikeTo : MethodName := ⟨RX12, "alikeTo", "(II)I"⟩
abbrev cX12_areFarAlike : ByteArray := prog_14_method_89_code
def yX12_areFarAlike : MethodName := ⟨RX12, "areFarAlike", "(I)Z"⟩
abbrev cX12_areArcsAlike : ByteArray := prog_14_method_90_code
def yX12_areArcsAlike : MethodName := ⟨RX12, "areArcsAlike", "(I)Z"⟩
abbrev cX12_own : ByteArray := prog_14_method_91_code
def yX12_own : MethodName := ⟨RX12, "own", "(I)I"⟩
abbrev cX12_regular : ByteArray := prog_14_method_92_code
def yX12_regular : MethodName := ⟨RX12, "regular", "(II)I"⟩
abbrev cX12_leads : ByteArray := prog_14_method_93_code
def yX12_leads : MethodName := ⟨RX12, "leads", "(I)Z"⟩
abbrev cX12_alike : ByteArray := prog_14_method_94_code
def yX12_alike : MethodName := ⟨RX12, "alike", "(I)I"⟩
abbrev cX12_other : ByteArray := prog_14_method_95_code
def yX12_other : MethodName := ⟨RX12, "other", "()I"⟩
abbrev cX12_digit : ByteArray := prog_14_method_96_code
def yX12_digit : MethodName := ⟨RX12, "digit", "(II)I"⟩
abbrev cX12_nameAt : ByteArray := prog_14_method_97_code
def yX12_nameAt : MethodName := ⟨RX12, "nameAt", "(III)I"⟩
abbrev cX12_name : ByteArray := prog_14_method_98_code
def yX12_name : MethodName := ⟨RX12, "name", "(III)I"⟩
abbrev cX12_count : ByteArray := prog_14_method_99_code
def yX12_count : MethodName := ⟨RX12, "count", "(I)I"⟩
def RJ6 : String := "java/lang/Integer"
abbrev cJ6_numberOfTrailingZeros_0f7a4 : ByteArray := prog_15_method_48_code
def yJ6_numberOfTrailingZeros_0f7a4 : MethodName := ⟨RJ6, "numberOfTrailingZeros", "(I)I"⟩
abbrev cJ6_bitCount_0f7a4 : ByteArray := prog_15_method_49_code
def yJ6_bitCount_0f7a4 : MethodName := ⟨RJ6, "bitCount", "(I)I"⟩
def RJ9 : String := "java/lang/Math"
abbrev cJ9_floorMod_7cf53 : ByteArray := prog_16_method_50_code
def yJ9_floorMod_7cf53 : MethodName := ⟨RJ9, "floorMod", "(II)I"⟩
abbrev cJ9_max_7cf53 : ByteArray := prog_16_method_65_code
def yJ9_max_7cf53 : MethodName := ⟨RJ9, "max", "(II)I"⟩
abbrev cJ9_min_7cf53 : ByteArray := prog_16_method_69_code
def yJ9_min_7cf53 : MethodName := ⟨RJ9, "min", "(II)I"⟩
def RJ0 : String := "java/lang/String"
abbrev cJ0_length_8abf5 : ByteArray := prog_17_method_54_code
def yJ0_length_8abf5 : MethodName := ⟨RJ0, "length", "()I"⟩
abbrev cJ0_charAt_5068e : ByteArray := prog_17_method_56_code
def yJ0_charAt_5068e : MethodName := ⟨RJ0, "charAt", "(I)C"⟩
abbrev cJ0_coder_7d493 : ByteArray := prog_17_method_152_code
def yJ0_coder_7d493 : MethodName := ⟨RJ0, "coder", "()B"⟩
abbrev cJ0_isLatin1_aae02 : ByteArray := prog_17_method_154_code
def yJ0_isLatin1_aae02 : MethodName := ⟨RJ0, "isLatin1", "()Z"⟩
abbrev cJ0_checkIndex_df160 : ByteArray := prog_17_method_155_code
def yJ0_checkIndex_df160 : MethodName := ⟨RJ0, "checkIndex", "(II)V"⟩
def RJ1 : String := "java/lang/StringLatin1"
abbrev cJ1_charAt_3b067 : ByteArray := prog_18_method_2_code
def yJ1_charAt_3b067 : MethodName := ⟨RJ1, "charAt", "([BI)C"⟩
def RJ2 : String := "java/lang/StringUTF16"
abbrev cJ2_getChar_3b067 : ByteArray := prog_19_method_5_code
def yJ2_getChar_3b067 : MethodName := ⟨RJ2, "getChar", "([BI)C"⟩
abbrev cJ2_length_9d52b : ByteArray := prog_19_method_6_code
def yJ2_length_9d52b : MethodName := ⟨RJ2, "length", "([B)I"⟩
abbrev cJ2_charAt_3b067 : ByteArray := prog_19_method_83_code
def yJ2_charAt_3b067 : MethodName := ⟨RJ2, "charAt", "([BI)C"⟩
abbrev cJ2_checkIndex_2214a : ByteArray := prog_19_method_91_code
def yJ2_checkIndex_2214a : MethodName := ⟨RJ2, "checkIndex", "(I[B)V"⟩
def RJ10 : String := "java/lang/System"
def RJ3 : String := "jdk/internal/util/Preconditions"
abbrev cJ3_checkIndex_8e157 : ByteArray := prog_21_method_11_code
def yJ3_checkIndex_8e157 : MethodName := ⟨RJ3, "checkIndex", "(IILjava/util/function/BiFunction;)I"⟩
def R_law : String := "StepNetsLaw"
def lw_P (b : Addr) (xs : List Int32) (args : Array Value) (s : State) : Prop := args = #[.ref b] ∧ s.IntsAt b xs ∧ xs.length ≤ 3072 ∧ (Jvm.Cond.and given_1 narrow_1).before args s = true
def lw_Q (_ : Array Value) (s : State) (o : Outcome) (t : State) : Prop := o = .returned (some (.int 1)) ∧ Framed s o t [] 600000 7302250
def lw_Z (below : List Frame) (a : Array Value) (s : State) : State → Prop := fun t => ∃ o, t.status = .running ∧ Ended t below o ∧ lw_Q a s o t
/-- the law's own end, with 1 on the stack, nothing written that was there before, its room as the claim has it -/
theorem lw_ret {p : Program} {l : Launch} {e : Env} {s : State} {m : MethodId} {below : List Frame} {meth : Method} {c : Code} {b : Nat} (hx : p.tables.exec = Jvm.exec) (hb : c.code = code) (hr : meth.sig.returnType = ret) (hlocks : meth.locks = false) {pc : Nat} {H : Heap} {ls : Array Slot} (hdg : decode code pc = .ok (.ireturn, 1)) : W p l e room_1 s m #[Value.ref b] below meth c H [] 600000 7302250 (lw_Z below #[Value.ref b] s) (F0 m pc ls [.int 1]) := by
  intro T hT X
  obtain ⟨fs, hret, hrun, hended, hW, hframe⟩ := X.leave (v := some (.int 1)) (hlocks := hlocks) (fun h => by rw [hr] at h; cases h)
  have hmeth' : T.vm.method? m = some meth := X.method'
  refine ⟨T.setFrames fs, ?_, .returned (some (.int 1)), hrun, hended, rfl, ⟨_, rfl⟩, hW, hframe⟩
  jvm_step X.here [X.here.top, hx, hb, hdg, hmeth', hr, ret, narrow_b1]
  (try refine ⟨rfl, ?_⟩); (try refine ⟨rfl, ?_⟩)
  first | (intro acts; rw [hret _ acts rfl rfl rfl]) | rw [hret _ _ rfl rfl rfl]
  exact Steps.refl _
/-- what holds at the law's entry: the machine, the code, the tables' words (any of lw_tbl by 'hts w (by decide +kernel)'), the script of L ints xs at the cell b, what the Statement gives of the start (any of its parts by flat_of_before) -/
def lw_At (p : Program) (s : State) (m : MethodId) (meth : Method) (c : Code) (b L : Nat) (xs : Nat → Int32) : Prop :=
  p.tables.exec = Jvm.exec ∧ c.code = code ∧ meth.sig.returnType = ret ∧ c.maxLocals = 4 ∧ s.vm.findClass R_law = some m.cls ∧ (∀ w ∈ lw_tbl, w.before #[Value.ref b] s = true) ∧ va_X b L xs s s.heap ∧ b < s.heap.size ∧ meth.locks = false ∧ (Jvm.Cond.and given_1 narrow_1).before #[Value.ref b] s = true

abbrev z_cl : List vw_C := [(RX0, TX0, 9), (RX1, TX1, 12), (RX2, TX2, 9), (RX3, TX3, 9), (RX4, TX4, 5), (RX5, TX5, 5), (RX6, TX6, 3), (RX7, TX7, 8), (RX8, TX8, 11), (RX9, TX9, 6), (RX10, TX10, 7), (RX11, TX11, 16), (RX12, TX12, 36)]
theorem z_in0 : ∀ w ∈ u_ws RX0 TX0 9, w ∈ lw_tbl := fun w h => by
  have e : u_ws RX0 TX0 9 = [362, 364, 366, 368, 370, 372, 374, 376, 378].filterMap (fun i => lw_tbl[i]?) := by decide +kernel
  rw [e] at h
  obtain ⟨i, -, hi⟩ := List.mem_filterMap.mp h
  exact List.mem_of_getElem? hi
theorem z_in1 : ∀ w ∈ u_ws RX1 TX1 12, w ∈ lw_tbl := fun w h => by
  have e : u_ws RX1 TX1 12 = [307, 309, 311, 313, 315, 317, 319, 321, 323, 325, 327, 329].filterMap (fun i => lw_tbl[i]?) := by decide +kernel
  rw [e] at h
  obtain ⟨i, -, hi⟩ := List.mem_filterMap.mp h
  exact List.mem_of_getElem? hi
theorem z_in2 : ∀ w ∈ u_ws RX2 TX2 9, w ∈ lw_tbl := fun w h => by
  have e : u_ws RX2 TX2 9 = [159, 161, 163, 165, 167, 169, 171, 173, 175].filterMap (fun i => lw_tbl[i]?) := by decide +kernel
  rw [e] at h
  obtain ⟨i, -, hi⟩ := List.mem_filterMap.mp h
  exact List.mem_of_getElem? hi
theorem z_in3 : ∀ w ∈ u_ws RX3 TX3 9, w ∈ lw_tbl := fun w h => by
  have e : u_ws RX3 TX3 9 = [465, 467, 469, 471, 473, 475, 477, 479, 481].filterMap (fun i => lw_tbl[i]?) := by decide +kernel
  rw [e] at h
  obtain ⟨i, -, hi⟩ := List.mem_filterMap.mp h
  exact List.mem_of_getElem? hi
theorem z_in4 : ∀ w ∈ u_ws RX4 TX4 5, w ∈ lw_tbl := fun w h => by
  have e : u_ws RX4 TX4 5 = [439, 441, 443, 445, 447].filterMap (fun i => lw_tbl[i]?) := by decide +kernel
  rw [e] at h
  obtain ⟨i, -, hi⟩ := List.mem_filterMap.mp h
  exact List.mem_of_getElem? hi
theorem z_in5 : ∀ w ∈ u_ws RX5 TX5 5, w ∈ lw_tbl := fun w h => by
  have e : u_ws RX5 TX5 5 = [195, 197, 199, 201, 203].filterMap (fun i => lw_tbl[i]?) := by decide +kernel
  rw [e] at h
  obtain ⟨i, -, hi⟩ := List.mem_filterMap.mp h
  exact List.mem_of_getElem? hi
theorem z_in6 : ∀ w ∈ u_ws RX6 TX6 3, w ∈ lw_tbl := fun w h => by
  have e : u_ws RX6 TX6 3 = [243, 245, 247].filterMap (fun i => lw_tbl[i]?) := by decide +kernel
  rw [e] at h
  obtain ⟨i, -, hi⟩ := List.mem_filterMap.mp h
  exact List.mem_of_getElem? hi
theorem z_in7 : ∀ w ∈ u_ws RX7 TX7 8, w ∈ lw_tbl := fun w h => by
  have e : u_ws RX7 TX7 8 = [498, 500, 502, 504, 506, 508, 510, 512].filterMap (fun i => lw_tbl[i]?) := by decide +kernel
  rw [e] at h
  obtain ⟨i, -, hi⟩ := List.mem_filterMap.mp h
  exact List.mem_of_getElem? hi
theorem z_in8 : ∀ w ∈ u_ws RX8 TX8 11, w ∈ lw_tbl := fun w h => by
  have e : u_ws RX8 TX8 11 = [402, 404, 406, 408, 410, 412, 414, 416, 418, 420, 422].filterMap (fun i => lw_tbl[i]?) := by decide +kernel
  rw [e] at h
  obtain ⟨i, -, hi⟩ := List.mem_filterMap.mp h
  exact List.mem_of_getElem? hi
theorem z_in9 : ∀ w ∈ u_ws RX9 TX9 6, w ∈ lw_tbl := fun w h => by
  have e : u_ws RX9 TX9 6 = [529, 531, 533, 535, 537, 539].filterMap (fun i => lw_tbl[i]?) := by decide +kernel
  rw [e] at h
  obtain ⟨i, -, hi⟩ := List.mem_filterMap.mp h
  exact List.mem_of_getElem? hi
theorem z_in10 : ∀ w ∈ u_ws RX10 TX10 7, w ∈ lw_tbl := fun w h => by
  have e : u_ws RX10 TX10 7 = [217, 219, 221, 223, 225, 227, 229].filterMap (fun i => lw_tbl[i]?) := by decide +kernel
  rw [e] at h
  obtain ⟨i, -, hi⟩ := List.mem_filterMap.mp h
  exact List.mem_of_getElem? hi
theorem z_in11 : ∀ w ∈ u_ws RX11 TX11 16, w ∈ lw_tbl := fun w h => by
  have e : u_ws RX11 TX11 16 = [558, 560, 562, 564, 566, 568, 570, 572, 574, 576, 578, 580, 582, 584, 586, 588].filterMap (fun i => lw_tbl[i]?) := by decide +kernel
  rw [e] at h
  obtain ⟨i, -, hi⟩ := List.mem_filterMap.mp h
  exact List.mem_of_getElem? hi
theorem z_in12 : ∀ w ∈ u_ws RX12 TX12 36, w ∈ lw_tbl := fun w h => by
  have e : u_ws RX12 TX12 36 = [1284, 1286, 1288, 1290, 1292, 1294, 1296, 1298, 1300, 1302, 1304, 1306, 1308, 1310, 1312, 1314, 1316, 1318, 1320, 1322, 1324, 1326, 1328, 1330, 1332, 1334, 1336, 1338, 1340, 1342, 1344, 1346, 1348, 1350, 1352, 1354].filterMap (fun i => lw_tbl[i]?) := by decide +kernel
  rw [e] at h
  obtain ⟨i, -, hi⟩ := List.mem_filterMap.mp h
  exact List.mem_of_getElem? hi
